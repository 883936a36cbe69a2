/-! pure: the reference's consolidation, nothing hindering -/
theorem gG_0 {na : Nat} {mso : Nat → Int32} {h : Nat → Nat → Nat} {A : Nat → Nat → Nat → Int64} (q : mOK h) : gG na mso h A 0 = 0 := by
  unfold gG
  have e : shN h 4 0 = 10000000000000000 := by
    unfold shN
    rw [mT_0 q]; rfl
  rw [e, Nat.sub_self, sR_0]
set_option maxHeartbeats 4000000 in
theorem sp_consM {n na r : Nat} {xcur mcur xso mso xcl xav mcl mav P : Nat → Int32} {X M T : Nat → Int64} (K : kOK n na r xcur mcur xso mso xcl xav mcl mav X M T) {ctl : Nat → Bool} (hctl : ∀ c, ctl c = true → c < n) (hP : pOK P) (hcol : mCol (hOf P)) (hok : mOK (hOf P)) (hC : ∀ k, k < n → ctl k = mC (hOf P) 4 k) {Lf Sp Ou It : Nat → Int64} (hOu : ∀ c, n ≤ c → c < 12 → Ou c = 0) {post : Int32 → (Int32 × Int32 × Int32 × (Nat → Int64) × (Nat → Int64) × (Nat → Int64) × (Nat → Int64)) → Prop}
    (hp : ∀ (o' : Int32) (L' S' OU' IT' : Nat → Int64), (∀ c a, c < 12 → a < 12 → S' (12 * c + a) = sL (fun p => aA ctl n na r mcur mso mcl mav M T c p a) 13 ∧ S' (144 + 12 * c + a) = sL (fun p => eE ctl na (aA ctl n na r mcur mso mcl mav M T) c p a) 13 ∧ S' (288 + 12 * c + a) = sL (fun p => fF ctl r (eE ctl na (aA ctl n na r mcur mso mcl mav M T)) (gG na mso (hOf P) (aA ctl n na r mcur mso mcl mav M T)) c p a) 13) → (∀ c, c < 12 → OU' c = if ctl c = true then -(gG na mso (hOf P) (aA ctl n na r mcur mso mcl mav M T) c) else 0) → rdI (eE ctl na (aA ctl n na r mcur mso mcl mav M T)) (lc ctl (eE ctl na (aA ctl n na r mcur mso mcl mav M T)) na n n) o' IT' → post 0 (0, 1, o', L', S', OU', IT')) :
    wp_Mc (nI r) 0 (nI n) (nI na) mcur mso mcl mav P M T Lf Sp Ou It post := by
  have hn1 := K.1
  have hn := K.2.1
  have hna := K.2.2.1
  have hr := K.2.2.2.1
  have zA := aA_zr K hctl
  have zE := eE_zr hctl zA
  have hbA := aA_bnd K hctl
  have hnb : ∀ {St : Nat → Int64} {c : Nat}, c < 12 → ctl c = true → (∀ a, a < 12 → St (12 * c + a) = sL (fun p => aA ctl n na r mcur mso mcl mav M T c p a) 13) → _ := fun {St c} h1 h2 h3 => net_bnd K hctl (St := St) (c := c) h1 h2 h3
  have hA : ∀ c p a, ctl c = true → aA ctl n na r mcur mso mcl mav M T c p a = tRow n na r mcur mso mcl mav M T c p a := fun c p a z => by unfold aA; rw [if_pos z]
  have hA0 : ∀ c p a, ctl c = false → aA ctl n na r mcur mso mcl mav M T c p a = 0 := fun c p a z => by unfold aA; rw [if_neg (by rw [z]; decide)]
  generalize hAe : aA ctl n na r mcur mso mcl mav M T = A at *
  have zF := fF_zr (r := r) (g := gG na mso (hOf P) A) hr hctl zE
  have g0 : gG na mso (hOf P) A 0 = 0 := gG_0 hok
  unfold wp_Mc
  refine ⟨fun i L => ∃ k : Nat, k ≤ 1872 ∧ i = nI k ∧ ∀ j, j < k → L j = 0, fun i _ => 1872 - i.toNatClampNeg, ⟨0, by omega, rfl, fun j hj => absurd hj (Nat.not_lt_zero _)⟩, ?_⟩
  rintro i L0 ⟨k, hk, rfl, hL0⟩
  refine ⟨fun hx => ?_, fun hx => ?_⟩
  · have hke := q_ex (n := 1872) (by decide) hk hx
    rw [hke] at hL0
    clear hx hke hk
    clear k
    refine ⟨fun i L O => ∃ c : Nat, c ≤ n ∧ i = nI c ∧ (∀ c' p a, c' < 12 → p < 13 → a < 12 → L (iM c' p a) = if c' < c then A c' p a else 0) ∧ ∀ c', c' < 12 → (c' < c ∨ n ≤ c') → O c' = 0, fun i _ _ => n - i.toNatClampNeg, ⟨0, by omega, rfl, fun c' p a h1 h2 h3 => by rw [if_neg (Nat.not_lt_zero _)]; exact hL0 _ (by unfold iM; omega), fun c' h1 h2 => hOu c' (by omega) h1⟩, ?_⟩
    rintro i L O ⟨c, hc, rfl, hL, hO⟩
    refine ⟨fun hx => ?_, fun hx => ?_⟩
    · have hce := q_ex (by omega) hc hx
      have hLA : ∀ c p a, c < 12 → p < 13 → a < 12 → L (iM c p a) = A c p a := fun c' p a h1 h2 h3 => by
        rw [hL c' p a h1 h2 h3]
        by_cases z : c' < c
        · rw [if_pos z]
        · rw [if_neg z, zA c' p a h1 h2 h3 (by omega)]
      have hO' : ∀ c', c' < 12 → O c' = 0 := fun c' h1 => hO c' h1 (by omega)
      refine sp_mark (k := 0) (by omega) hLA (fun S1 m1 f1 => ?_)
      refine sp_mElim hn hna hctl hP hok hC hbA hLA (fun o' L2 IT2 hL2 hl => ?_)
      dsimp only
      refine sp_mark (k := 1) (by omega) hL2 (fun S2 m2 f2 => ?_)
      have hS2 : ∀ c a, c < 12 → a < 12 → S2 (12 * c + a) = sL (fun p => A c p a) 13 := fun c a hc ha => by
        have e1 := f2 0 c a (by omega) hc ha
        rw [m1 c a hc ha] at e1
        rw [← e1]; congr 1; omega
      refine ⟨fun i t L O => ∃ c : Nat, 1 ≤ c ∧ c ≤ n ∧ i = nI c ∧ t = 0 ∧ (∀ c' p a, c' < 12 → p < 13 → a < 12 → L (iM c' p a) = if c' < c then fF ctl r (eE ctl na A) (gG na mso (hOf P) A) c' p a else eE ctl na A c' p a) ∧ ∀ c', c' < 12 → O c' = if c' < c ∧ ctl c' = true then -(gG na mso (hOf P) A c') else 0, fun i _ _ _ => n - i.toNatClampNeg, ⟨1, by omega, by omega, rfl, rfl, fun c' p a h1 h2 h3 => ?_, fun c' h1 => ?_⟩, ?_⟩
      · rw [hL2 c' p a h1 h2 h3]
        by_cases z : c' < 1
        · have z : c' = 0 := by omega
          rw [if_pos (by omega), z]
          unfold fF
          by_cases w : ctl 0 = true ∧ p = 0 ∧ a = r
          · rw [if_pos w, g0, Int64.add_zero, w.2.1, w.2.2]
          · rw [if_neg w]
        · rw [if_neg z]
      · rw [hO' c' h1]
        by_cases z : c' < 1 ∧ ctl c' = true
        · have : c' = 0 := by omega
          rw [if_pos z, this, g0]; rfl
        · rw [if_neg z]
      clear hL hLA hO hc hce hx
      clear c
      rintro i t L3 O3 ⟨c, hc1, hc, rfl, rfl, hL3, hO3⟩
      refine ⟨fun hx => ?_, fun hx => ?_⟩
      · have hce := q_ex (by omega) hc hx
        have hLF : ∀ c p a, c < 12 → p < 13 → a < 12 → L3 (iM c p a) = fF ctl r (eE ctl na A) (gG na mso (hOf P) A) c p a := fun c' p a h1 h2 h3 => by
          rw [hL3 c' p a h1 h2 h3]
          by_cases z : c' < c
          · rw [if_pos z]
          · rw [if_neg z, zF c' p a h1 h2 h3 (by omega), zE c' p a h1 h2 h3 (by omega)]
        refine sp_mark (k := 2) (by omega) hLF (fun S3 m3 f3 => hp _ _ _ _ _ (fun c a hc ha => ⟨?_, ?_, m3 c a hc ha⟩) (fun c' h1 => ?_) hl)
        · have e1 := f3 0 c a (by omega) hc ha
          rw [show 144 * 0 + 12 * c + a = 12 * c + a by omega, hS2 c a hc ha] at e1
          exact e1
        · have e1 := f3 1 c a (by omega) hc ha
          rw [m2 c a hc ha] at e1
          exact e1
        · show O3 c' = _
          rw [hO3 c' h1]
          by_cases w : ctl c' = true
          · have := hctl c' w
            rw [if_pos ⟨by omega, w⟩, if_pos w]
          · rw [if_neg (fun z => w z.2), if_neg w]
      · have hc' := q_in (by omega) hc hx
        have mb := q_mu hc' (show n < 2 ^ 31 by omega)
        rw [nI_1]
        refine sp_mC hP hok (by omega) (hC c hc') (fun z1 => ⟨fun w => absurd w (by decide), fun _ => ?_⟩) (fun z1 => ⟨fun _ => ⟨⟨c + 1, by omega, by omega, rfl, rfl, fun c' p a g1 g2 g3 => ?_, fun c' g1 => ?_⟩, mb⟩, fun w => absurd rfl w⟩)
        · obtain ⟨b1, b2⟩ := hnb (St := S2) (by omega) z1 (fun a ha => hS2 c a (by omega) ha)
          refine sp_share hP hcol hok hn hna hr hc' b1 b2 ⟨⟨c + 1, by omega, by omega, rfl, rfl, fun c' p a g1 g2 g3 => ?_, fun c' g1 => ?_⟩, mb⟩
          · rw [net_c hna (fun a ha => hS2 c a (by omega) ha)]
            show vp_updL L3 (iM c 0 r) (L3 (iM c 0 r) + gG na mso (hOf P) A c) (iM c' p a) = _
            by_cases e : c' = c ∧ p = 0 ∧ a = r
            · obtain ⟨e1, e2, e3⟩ := e
              rw [e1, e2, e3, pk_uLs, hL3 c 0 r (by omega) (by omega) (by omega), if_neg (Nat.lt_irrefl c), if_pos (by omega)]
              unfold fF
              rw [if_pos ⟨z1, rfl, rfl⟩]
            · rw [pk_uLn (fun z => e (iM_ok _ _ _ _ _ _ g2 g3 (by omega) (by omega) z)), hL3 c' p a g1 g2 g3]
              by_cases z : c' < c
              · rw [if_pos z, if_pos (by omega)]
              · rw [if_neg z]
                by_cases w : c' = c
                · rw [if_pos (by omega)]
                  unfold fF
                  rw [if_neg (fun y => e ⟨w, y.2⟩)]
                · rw [if_neg (by omega)]
          · rw [net_c hna (fun a ha => hS2 c a (by omega) ha)]
            show vp_updL O3 c (-(gG na mso (hOf P) A c)) c' = _
            by_cases e : c' = c
            · rw [e, pk_uLs, if_pos ⟨by omega, z1⟩]
            · rw [pk_uLn e, hO3 c' g1]
              by_cases z : c' < c ∧ ctl c' = true
              · rw [if_pos z, if_pos ⟨by omega, z.2⟩]
              · rw [if_neg z, if_neg (fun w => z ⟨by omega, w.2⟩)]
        · rw [hL3 c' p a g1 g2 g3]
          by_cases z : c' < c
          · rw [if_pos z, if_pos (by omega)]
          · rw [if_neg z]
            by_cases w : c' = c
            · rw [if_pos (by omega)]
              unfold fF
              rw [if_neg (fun y => by rw [w, z1] at y; cases y.1)]
            · rw [if_neg (by omega)]
        · rw [hO3 c' g1]
          by_cases z : c' < c ∧ ctl c' = true
          · rw [if_pos z, if_pos ⟨by omega, z.2⟩]
          · rw [if_neg z, if_neg (fun w => z ⟨by
              have : c' ≠ c := fun y => by rw [y, z1] at w; cases w.2
              omega, w.2⟩)]
    · have hc' := q_in (by omega) hc hx
      have mb := q_mu hc' (show n < 2 ^ 31 by omega)
      have oz : ∀ c', c' < 12 → (c' < c + 1 ∨ n ≤ c') → vp_updL O c 0 c' = 0 := fun c' h1 h2 => by
        by_cases e : c' = c
        · rw [e, pk_uLs]
        · rw [pk_uLn e]; exact hO c' h1 (by omega)
      have cl : (nI c).toNatClampNeg = c := nI_clamp (by omega)
      rw [nI_1]
      refine ⟨vp_in_nI (by omega) (by decide), sp_mC hP hok (by omega) (hC c hc') (fun z1 => ⟨fun w => absurd w (by decide), fun _ => ?_⟩) (fun z1 => ⟨fun _ => ⟨⟨c + 1, by omega, rfl, fun c' p a g1 g2 g3 => ?_, by rw [cl]; exact oz⟩, mb⟩, fun w => absurd rfl w⟩)⟩
      · refine sp_mTranslate K hc' (fun p a g2 g3 => by have := hL c p a (by omega) g2 g3; rw [if_neg (Nat.lt_irrefl c)] at this; exact this) (fun R' f1 f2 => ⟨⟨c + 1, by omega, rfl, fun c' p a g1 g2 g3 => ?_, by rw [cl]; exact oz⟩, mb⟩)
        by_cases e : c' = c
        · rw [e, if_pos (by omega), hA c p a z1]
          exact f1 p a g2 g3
        · have := (f2 c' p a e g2 g3).trans (hL c' p a g1 g2 g3)
          by_cases z : c' < c
          · rw [if_pos z] at this; rw [if_pos (by omega)]; exact this
          · rw [if_neg z] at this; rw [if_neg (by omega)]; exact this
      · rw [hL c' p a g1 g2 g3]
        by_cases z : c' < c
        · rw [if_pos z, if_pos (by omega)]
        · rw [if_neg z]
          by_cases w : c' = c
          · rw [if_pos (by omega), w, hA0 c p a z1]
          · rw [if_neg (by omega)]
  · have hk' := q_in (n := 1872) (by decide) hk hx
    rw [nI_1]
    refine ⟨vp_in_nI hk' (by decide), ⟨k + 1, by omega, rfl, fun j hj => ?_⟩, q_mu hk' (by decide)⟩
    rw [nI_clamp (by omega)]
    by_cases e : j = k
    · rw [e, pk_uLs]
    · rw [pk_uLn e]; exact hL0 j (by omega)
