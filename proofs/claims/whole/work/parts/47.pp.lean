/-! pure: the desk's consolidation, nothing hindering -/
def gG (na : Nat) (mso : Nat → Int32) (h : Nat → Nat → Nat) (A : Nat → Nat → Nat → Int64) (c : Nat) : Int64 := sR (net na mso (fun i => sL (fun p => A (i / 12) p (i % 12)) 13) c na) (10000000000000000 - shN h 4 c)
theorem net_c {na c : Nat} {mso : Nat → Int32} {A : Nat → Nat → Nat → Int64} {S : Nat → Int64} (hna : na ≤ 12) (h : ∀ a, a < 12 → S (12 * c + a) = sL (fun p => A c p a) 13) : net na mso S c na = net na mso (fun i => sL (fun p => A (i / 12) p (i % 12)) 13) c na :=
  net_eq hna fun a ha => by
    rw [h a ha, show (12 * c + a) / 12 = c by omega, show (12 * c + a) % 12 = a by omega]
set_option maxHeartbeats 4000000 in
theorem sp_consD {n na r : Nat} {xcur mcur xso mso xcl xav mcl mav P U : Nat → Int32} {X M T Sh : Nat → Int64} (K : kOK n na r xcur mcur xso mso xcl xav mcl mav X M T) {ctl : Nat → Bool} (hctl : ∀ c, ctl c = true → c < n) (hU : ∀ k, k < n → U k = bI (ctl k)) (hcol : mCol (hOf P)) (hok : mOK (hOf P)) (hSh : ∀ v, v < 12 → Sh v = lN (shN (hOf P) 4 v)) {md rc ra ro : Int32} {R0 S0 G0 O0 : Nat → Int64} {OP : Nat → Int32}
    (hH : ∀ post' : Int32 → Unit → Prop, post' 0 () → wp_D_findHindrance (nI n) (nI na) (nI r) xcur xcl X U post') {post : Int32 → (Int32 × Int32 × Int32 × Int32 × (Nat → Int64) × (Nat → Int64) × (Nat → Int64) × (Nat → Int64) × (Nat → Int32)) → Prop}
    (hp : ∀ (o' : Int32) (R' S' G' OC' : Nat → Int64) (OP' : Nat → Int32), (∀ c p a, c < 12 → p < 13 → a < 12 → R' (iD c p a) = fF ctl r (eE ctl na (aA ctl n na r mcur mso mcl mav M T)) (gG na mso (hOf P) (aA ctl n na r mcur mso mcl mav M T)) c p a) → (∀ c a, c < 12 → a < 12 → S' (12 * c + a) = sL (fun p => aA ctl n na r mcur mso mcl mav M T c p a) 13 ∧ S' (144 + 12 * c + a) = sL (fun p => eE ctl na (aA ctl n na r mcur mso mcl mav M T) c p a) 13 ∧ S' (288 + 12 * c + a) = sL (fun p => fF ctl r (eE ctl na (aA ctl n na r mcur mso mcl mav M T)) (gG na mso (hOf P) (aA ctl n na r mcur mso mcl mav M T)) c p a) 13) → (∀ a, a < 12 → G' a = sL (fun c => S' (288 + 12 * c + a)) 12) → (∀ c, c < 12 → OC' c = if ctl c = true then -(gG na mso (hOf P) (aA ctl n na r mcur mso mcl mav M T) c) else 0) → rdL (lc ctl (eE ctl na (aA ctl n na r mcur mso mcl mav M T)) na n n) o' OP' → post 0 (1, nI n, nI na, o', R', S', G', OC', OP')) :
    wp_D_consolidate (nI n) (nI na) (nI r) xcur xso xcl xav X T U Sh md rc ra ro R0 S0 G0 O0 OP post := by
  have hn := K.2.1
  have hna := K.2.2.1
  have hr := K.2.2.2.1
  have hso := K.2.2.2.2.2.2.1
  have zA := aA_zr K hctl
  have zE := eE_zr hctl zA
  have hbA := aA_bnd K hctl
  have hnb : ∀ {St : Nat → Int64} {c : Nat}, c < 12 → ctl c = true → (∀ a, a < 12 → St (12 * c + a) = sL (fun p => aA ctl n na r mcur mso mcl mav M T c p a) 13) → _ := fun {St c} h1 h2 h3 => net_bnd K hctl (St := St) (c := c) h1 h2 h3
  have hA : ∀ c p a, ctl c = true → aA ctl n na r mcur mso mcl mav M T c p a = tRow n na r mcur mso mcl mav M T c p a := fun c p a z => by unfold aA; rw [if_pos z]
  have hA0 : ∀ c p a, ctl c = false → aA ctl n na r mcur mso mcl mav M T c p a = 0 := fun c p a z => by unfold aA; rw [if_neg (by rw [z]; decide)]
  generalize hAe : aA ctl n na r mcur mso mcl mav M T = A at *
  have zF := fF_zr (r := r) (g := gG na mso (hOf P) A) hr hctl zE
  unfold wp_D_consolidate
  refine hH _ ⟨fun _ => ?_, fun z => absurd rfl z⟩
  unfold wp_R_begin
  refine sp_fillJ (by decide) (fun RA hRA0 _ => sp_fillJ (by decide) (fun SA hSA _ => sp_fillJ (by decide) (fun GA hGA _ => sp_fillJ (by decide) (fun OA hOA _ => ?_))))
  dsimp only
  refine ⟨fun i R => ∃ c : Nat, c ≤ n ∧ i = nI c ∧ ∀ c' p a, c' < 12 → p < 13 → a < 12 → R (iD c' p a) = if c' < c then A c' p a else 0, fun i _ => n - i.toNatClampNeg, ⟨0, by omega, rfl, fun c' p a h1 h2 h3 => by rw [if_neg (Nat.not_lt_zero _)]; exact hRA0 _ (by unfold iD; omega)⟩, ?_⟩
  rintro i R ⟨c, hc, rfl, hR⟩
  refine ⟨fun hx => ?_, fun hx => ?_⟩
  · have hce := q_ex (by omega) hc hx
    have hRA : ∀ c p a, c < 12 → p < 13 → a < 12 → R (iD c p a) = A c p a := fun c' p a h1 h2 h3 => by
      rw [hR c' p a h1 h2 h3]
      by_cases z : c' < c
      · rw [if_pos z]
      · rw [if_neg z, zA c' p a h1 h2 h3 (by omega)]
    refine sp_keepStep (k := 0) hn hna (by omega) hRA (fun c a hc ha => hSA _ (by omega)) (fun S1 h1 => ?_)
    refine sp_pairs hn hna hctl hU hbA hRA (fun o' R2 OP2 hR2 hl => ?_)
    dsimp only
    refine sp_keepStep (k := 1) hn hna (by omega) hR2 (fun c a hc ha => ?_) (fun S2 h2 => ?_)
    · rw [h1.2 1 c a (by omega) hc ha]; exact hSA _ (by omega)
    have hS2 : ∀ c a, c < 12 → a < 12 → S2 (12 * c + a) = sL (fun p => A c p a) 13 := fun c a hc ha => by
      have e1 := h2.2 0 c a (by omega) hc ha
      rw [rdS_all hn hna zA h1 hc ha] at e1
      rw [← e1]; congr 1; omega
    refine ⟨fun i R OC => ∃ c : Nat, c ≤ n ∧ i = nI c ∧ (∀ c' p a, c' < 12 → p < 13 → a < 12 → R (iD c' p a) = if c' < c then fF ctl r (eE ctl na A) (gG na mso (hOf P) A) c' p a else eE ctl na A c' p a) ∧ ∀ c', c' < 12 → OC c' = if c' < c ∧ ctl c' = true then -(gG na mso (hOf P) A c') else 0, fun i _ _ => n - i.toNatClampNeg, ⟨0, by omega, rfl, fun c' p a g1 g2 g3 => by rw [if_neg (Nat.not_lt_zero _)]; exact hR2 c' p a g1 g2 g3, fun c' g1 => by rw [if_neg (by omega)]; exact hOA _ g1⟩, ?_⟩
    clear hR hRA hc hce hx hRA0
    rintro i R3 OC ⟨c, hc, rfl, hR3, hOC⟩
    refine ⟨fun hx => ?_, fun hx => ?_⟩
    · have hce := q_ex (by omega) hc hx
      have hRF : ∀ c p a, c < 12 → p < 13 → a < 12 → R3 (iD c p a) = fF ctl r (eE ctl na A) (gG na mso (hOf P) A) c p a := fun c' p a g1 g2 g3 => by
        rw [hR3 c' p a g1 g2 g3]
        by_cases z : c' < c
        · rw [if_pos z]
        · rw [if_neg z, zF c' p a g1 g2 g3 (by omega), zE c' p a g1 g2 g3 (by omega)]
      refine sp_keepStep (k := 2) hn hna (by omega) hRF (fun c a hc ha => ?_) (fun S3 h3 => ?_)
      · rw [h2.2 2 c a (by omega) hc ha, h1.2 2 c a (by omega) hc ha]; exact hSA _ (by omega)
      have hS3 : ∀ c a, c < 12 → a < 12 → S3 (288 + 12 * c + a) = sL (fun p => fF ctl r (eE ctl na A) (gG na mso (hOf P) A) c p a) 13 := fun c a hc ha => rdS_all hn hna zF h3 hc ha
      refine sp_finish hn hna hGA (fun G' hG' => hp _ _ _ _ _ _ hRF (fun c a hc ha => ⟨?_, ?_, hS3 c a hc ha⟩) (fun a ha => ?_) (fun c' g1 => ?_) hl)
      · have e1 := h3.2 0 c a (by omega) hc ha
        rw [← hS2 c a hc ha]
        rw [show 144 * 0 + 12 * c + a = 12 * c + a by omega] at e1
        exact e1
      · have e1 := h3.2 1 c a (by omega) hc ha
        rw [rdS_all hn hna zE h2 hc ha] at e1
        exact e1
      · show G' a = _
        rw [hG' a ha]
        by_cases w : a < na
        · rw [if_pos w]
          exact (sL_more hn fun c h8 h9 => by rw [hS3 c a h9 ha]; exact sL_zero fun p hp' => zF c p a h9 hp' ha (by omega)).symm
        · rw [if_neg w]
          exact (sL_zero fun c h9 => by rw [hS3 c a h9 ha]; exact sL_zero fun p hp' => zF c p a h9 hp' ha (by omega)).symm
      · rw [hOC c' g1]
        by_cases w : ctl c' = true
        · have := hctl c' w
          rw [if_pos ⟨by omega, w⟩, if_pos w]
        · rw [if_neg (fun z => w z.2), if_neg w]
    · have hc' := q_in (by omega) hc hx
      have mb := q_mu hc' (show n < 2 ^ 31 by omega)
      rw [nI_1]
      refine sp_isC (by omega) (hU c hc') (fun z1 => ⟨fun w => absurd w (by decide), fun _ => ?_⟩) (fun z1 => ⟨fun _ => ⟨⟨c + 1, by omega, rfl, fun c' p a g1 g2 g3 => ?_, fun c' g1 => ?_⟩, mb⟩, fun w => absurd rfl w⟩)
      · obtain ⟨b1, b2⟩ := hnb (St := S2) (by omega) z1 (fun a ha => hS2 c a (by omega) ha)
        refine sp_show hna hr (by omega) hso (shN_le hcol hok (by omega)) (hSh c (by omega)) b1 b2 ⟨⟨c + 1, by omega, rfl, fun c' p a g1 g2 g3 => ?_, fun c' g1 => ?_⟩, mb⟩
        · rw [net_c hna (fun a ha => hS2 c a (by omega) ha)]
          show vp_updL R3 (iD c 0 r) (R3 (iD c 0 r) + gG na mso (hOf P) A c) (iD c' p a) = _
          by_cases e : c' = c ∧ p = 0 ∧ a = r
          · obtain ⟨e1, e2, e3⟩ := e
            rw [e1, e2, e3, pk_uLs, hR3 c 0 r (by omega) (by omega) (by omega), if_neg (Nat.lt_irrefl c), if_pos (by omega)]
            unfold fF
            rw [if_pos ⟨z1, rfl, rfl⟩]
          · rw [pk_uLn (fun z => e (iD_ok _ _ _ _ _ _ g2 g3 (by omega) (by omega) z)), hR3 c' p a g1 g2 g3]
            by_cases z : c' < c
            · rw [if_pos z, if_pos (by omega)]
            · rw [if_neg z]
              by_cases w : c' = c
              · rw [if_pos (by omega)]
                unfold fF
                rw [if_neg (fun y => e ⟨w, y.2⟩)]
              · rw [if_neg (by omega)]
        · rw [net_c hna (fun a ha => hS2 c a (by omega) ha)]
          show vp_updL OC c (-(gG na mso (hOf P) A c)) c' = _
          by_cases e : c' = c
          · rw [e, pk_uLs, if_pos ⟨by omega, z1⟩]
          · rw [pk_uLn e, hOC c' g1]
            by_cases z : c' < c ∧ ctl c' = true
            · rw [if_pos z, if_pos ⟨by omega, z.2⟩]
            · rw [if_neg z, if_neg (fun w => z ⟨by omega, w.2⟩)]
      · rw [hR3 c' p a g1 g2 g3]
        by_cases z : c' < c
        · rw [if_pos z, if_pos (by omega)]
        · rw [if_neg z]
          by_cases w : c' = c
          · rw [if_pos (by omega)]
            unfold fF
            rw [if_neg (fun y => by rw [w, z1] at y; cases y.1)]
          · rw [if_neg (by omega)]
      · rw [hOC c' g1]
        by_cases z : c' < c ∧ ctl c' = true
        · rw [if_pos z, if_pos ⟨by omega, z.2⟩]
        · rw [if_neg z, if_neg (fun w => z ⟨by
            have : c' ≠ c := fun y => by rw [y, z1] at w; cases w.2
            omega, w.2⟩)]
  · have hc' := q_in (by omega) hc hx
    have mb := q_mu hc' (show n < 2 ^ 31 by omega)
    rw [nI_1]
    refine sp_isC (by omega) (hU c hc') (fun z1 => ⟨fun w => absurd w (by decide), fun _ => ?_⟩) (fun z1 => ⟨fun _ => ⟨⟨c + 1, by omega, rfl, fun c' p a g1 g2 g3 => ?_⟩, mb⟩, fun w => absurd rfl w⟩)
    · refine sp_translateBook K hc' (fun p a g2 g3 => by have := hR c p a (by omega) g2 g3; rw [if_neg (Nat.lt_irrefl c)] at this; exact this) (fun R' f1 f2 => ⟨⟨c + 1, by omega, rfl, fun c' p a g1 g2 g3 => ?_⟩, mb⟩)
      by_cases e : c' = c
      · rw [e, if_pos (by omega), hA c p a z1]
        exact f1 p a g2 g3
      · have := (f2 c' p a e g2 g3).trans (hR c' p a g1 g2 g3)
        by_cases z : c' < c
        · rw [if_pos z] at this; rw [if_pos (by omega)]; exact this
        · rw [if_neg z] at this; rw [if_neg (by omega)]; exact this
    · rw [hR c' p a g1 g2 g3]
      by_cases z : c' < c
      · rw [if_pos z, if_pos (by omega)]
      · rw [if_neg z]
        by_cases w : c' = c
        · rw [if_pos (by omega), w, hA0 c p a z1]
        · rw [if_neg (by omega)]
