/-! pure: the reference's elimination -/
def QM (c0 d0 b0 c p a : Nat) : Prop := 1 ≤ p ∧ p - 1 ≠ c ∧ ((c < c0 ∨ (c = c0 ∧ (p - 1 < d0 ∨ (p - 1 = d0 ∧ a < b0)))) ∨ (p - 1 < c0 ∨ (p - 1 = c0 ∧ (c < d0 ∨ (c = d0 ∧ a < b0)))))
theorem rdI_add {E : Nat → Nat → Nat → Int64} {l : List (Nat × Nat × Nat)} {o : Int32} {IT : Nat → Int64} (h : rdI E l o IT) (t : Nat × Nat × Nat) : rdI E (l ++ [t]) (nI (l.length + 1)) (vp_updL (vp_updL (vp_updL (vp_updL IT (4 * l.length) (lN t.1)) (4 * l.length + 1) (lN t.2.1)) (4 * l.length + 2) (lN t.2.2)) (4 * l.length + 3) (E t.1 (t.2.1 + 1) t.2.2)) := by
  refine ⟨by rw [List.length_append]; rfl, fun i s hs => ?_⟩
  by_cases e : i = l.length
  · subst e
    rw [List.getElem?_append_right (Nat.le_refl _), Nat.sub_self] at hs
    cases hs
    refine ⟨?_, ?_, ?_, pk_uLs⟩
    · rw [pk_uLn (by omega), pk_uLn (by omega), pk_uLn (by omega), pk_uLs]
    · rw [pk_uLn (by omega), pk_uLn (by omega), pk_uLs]
    · rw [pk_uLn (by omega), pk_uLs]
  · by_cases z : i < l.length
    · rw [List.getElem?_append_left z] at hs
      obtain ⟨g1, g2, g3, g4⟩ := h.2 i s hs
      refine ⟨?_, ?_, ?_, ?_⟩
      · rw [pk_uLn (by omega), pk_uLn (by omega), pk_uLn (by omega), pk_uLn (by omega)]; exact g1
      · rw [pk_uLn (by omega), pk_uLn (by omega), pk_uLn (by omega), pk_uLn (by omega)]; exact g2
      · rw [pk_uLn (by omega), pk_uLn (by omega), pk_uLn (by omega), pk_uLn (by omega)]; exact g3
      · rw [pk_uLn (by omega), pk_uLn (by omega), pk_uLn (by omega), pk_uLn (by omega)]; exact g4
    · rw [List.getElem?_append_right (by omega)] at hs
      have : ([t] : List (Nat × Nat × Nat))[i - l.length]? = none := List.getElem?_eq_none (by simp; omega)
      rw [this] at hs; cases hs
theorem sp_mOpen {c d b : Nat} (hc : c < 12) (hd : d < 12) (hb : b < 12) {E : Nat → Nat → Nat → Int64} {L : Nat → Int64} (hE : L (iM c (d + 1) b) = E c (d + 1) b) {l : List (Nat × Nat × Nat)} (hl : l.length < 1584) {IT : Nat → Int64} (h : rdI E l (nI l.length) IT) {post : (Int32 × (Nat → Int64)) → Prop} (hp : ∀ o' IT', rdI E (l ++ [(c, d, b)]) o' IT' → post (o', IT')) : wp_M_open (nI c) (nI d) (nI b) (nI l.length) L IT post := by
  have e0 : 4 * nI l.length = nI (4 * l.length) := pk_mul 4 _
  have e2 : nI (4 * l.length) + 2 = nI (4 * l.length + 2) := nI_add _ 2
  have e3 : nI (4 * l.length) + 3 = nI (4 * l.length + 3) := nI_add _ 3
  have p1 : ((156 * nI c + 13 * nI b) + nI d) + 1 = nI (iM c (d + 1) b) := cM (nI_1 d)
  have l1 : iM c (d + 1) b < 1872 := by unfold iM; omega
  unfold wp_M_open wp_M_cell
  rw [e0, e2, e3, nI_1, nI_1, p1]
  dsimp only
  rw [nI_clamp (n := 4 * l.length) (by omega), nI_clamp (n := 4 * l.length + 1) (by omega), nI_clamp (n := 4 * l.length + 2) (by omega), nI_clamp (n := 4 * l.length + 3) (by omega), nI_clamp (n := iM c (d + 1) b) (by omega), hE, nI_l (n := c) (by omega), nI_l (n := d) (by omega), nI_l (n := b) (by omega)]
  exact ⟨vp_in_nI (by omega) (by decide), vp_in_nI (by omega) (by decide), vp_in_nI (by omega) (by decide), vp_in_nI l1 (by decide), vp_in_nI (by omega) (by decide), hp _ _ (rdI_add h (c, d, b))⟩
set_option maxHeartbeats 4000000 in
theorem sp_mElim {ctl : Nat → Bool} {n na : Nat} {A : Nat → Nat → Nat → Int64} {P : Nat → Int32} (hn : n ≤ 12) (hna : na ≤ 12) (hctl : ∀ c, ctl c = true → c < n) (hP : pOK P) (hok : mOK (hOf P)) (hC : ∀ k, k < n → ctl k = mC (hOf P) 4 k) (hA : ∀ c p a, ctl c = true → c < 12 → 1 ≤ p → p < 13 → a < 12 → bnd (A c p a)) {R : Nat → Int64} (hR : ∀ c p a, c < 12 → p < 13 → a < 12 → R (iM c p a) = A c p a) {IT : Nat → Int64} {post : (Int32 × (Nat → Int64) × (Nat → Int64)) → Prop}
    (hp : ∀ o' R' IT', (∀ c p a, c < 12 → p < 13 → a < 12 → R' (iM c p a) = eE ctl na A c p a) → rdI (eE ctl na A) (lc ctl (eE ctl na A) na n n) o' IT' → post (o', R', IT')) : wp_M_eliminate (nI n) (nI na) 0 P R IT post := by
  unfold wp_M_eliminate
  refine ⟨fun i o R' IT' => ∃ c : Nat, c ≤ n ∧ i = nI c ∧ rdE iM R' A (eE ctl na A) (QM c 0 0) ∧ rdI (eE ctl na A) (lc ctl (eE ctl na A) na n c) o IT', fun i _ _ _ => n - i.toNatClampNeg, ⟨0, by omega, rfl, fun c p a h1 h2 h3 => ⟨fun q => by unfold QM at q; omega, fun _ => hR c p a h1 h2 h3⟩, ⟨rfl, fun i t ht => by simp [lc] at ht⟩⟩, ?_⟩
  rintro i o R' IT' ⟨c, hc, rfl, h, g⟩
  refine ⟨fun hx => ?_, fun hx => ?_⟩
  · have hce := q_ex (by omega) hc hx
    rw [hce] at g
    refine hp _ _ _ (fun c' p a h1 h2 h3 => ?_) g
    obtain ⟨g1, g2⟩ := h c' p a h1 h2 h3
    by_cases q : QM c 0 0 c' p a
    · exact g1 q
    · rw [g2 q, eE_0]
      rintro ⟨z1, z2, z3, z4, z5⟩
      have := hctl _ z3
      have := hctl _ z4
      apply q
      unfold QM
      omega
  · have hc' := q_in (by omega) hc hx
    have hlc := lcs_le ctl (eE ctl na A) hna hn c hc
    refine ⟨fun j o R' IT' => ∃ d : Nat, d ≤ n ∧ j = nI d ∧ rdE iM R' A (eE ctl na A) (QM c d 0) ∧ rdI (eE ctl na A) (lc ctl (eE ctl na A) na n c ++ ld ctl (eE ctl na A) na c d) o IT', fun j _ _ _ => n - j.toNatClampNeg, ⟨0, by omega, rfl, h, by rw [ld_z, List.append_nil]; exact g⟩, ?_⟩
    clear h g
    rintro j o R' IT' ⟨d, hd, rfl, h, g⟩
    refine ⟨fun hx => ?_, fun hx => ?_⟩
    · have hde := q_ex (by omega) hd hx
      rw [hde] at g
      rw [nI_1]
      refine ⟨⟨c + 1, by omega, rfl, rdE_mono h (fun c' p a h1 h2 h3 => ?_), g⟩, q_mu hc' (by omega)⟩
      by_cases z : c' < n ∧ p - 1 < n
      · left; unfold QM; omega
      · right; exact eE_0 (fun w => by have := hctl _ w.2.2.1; have := hctl _ w.2.2.2.1; omega)
    · have hd' := q_in (by omega) hd hx
      have mu := q_mu hd' (show n < 2 ^ 31 by omega)
      have hld := ld_le ctl (eE ctl na A) (c := c) hna d
      have skip : ¬ (c ≠ d ∧ ctl c = true ∧ ctl d = true) → (∃ d' : Nat, d' ≤ n ∧ nI (d + 1) = nI d' ∧ rdE iM R' A (eE ctl na A) (QM c d' 0) ∧ rdI (eE ctl na A) (lc ctl (eE ctl na A) na n c ++ ld ctl (eE ctl na A) na c d') o IT') ∧ n - (nI (d + 1)).toNatClampNeg < n - (nI d).toNatClampNeg := fun hs => by
        refine ⟨⟨d + 1, by omega, rfl, rdE_mono h (fun c' p a h1 h2 h3 => ?_), by rw [ld_s, if_neg hs, List.append_nil]; exact g⟩, mu⟩
        by_cases z : (c' = c ∧ p - 1 = d) ∨ (c' = d ∧ p - 1 = c)
        · right
          refine eE_0 (fun w => hs ?_)
          rcases z with ⟨z1, z2⟩ | ⟨z1, z2⟩
          · rw [← z1, ← z2]; exact ⟨fun q => w.2.1 q.symm, w.2.2.1, w.2.2.2.1⟩
          · rw [← z1, ← z2]; exact ⟨w.2.1, w.2.2.2.1, w.2.2.1⟩
        · left; unfold QM; omega
      rw [nI_1]
      refine ⟨fun e => skip (fun z => z.1 ((nI_eq (by omega) (by omega)).mp e).symm), fun e => sp_mC hP hok (by omega) (hC c hc') (fun z1 => ⟨fun w => absurd w (by decide), fun _ => sp_mC hP hok (by omega) (hC d hd') (fun z2 => ⟨fun _ => ?_, fun w => absurd w (by decide)⟩) (fun z2 => ⟨fun w => absurd rfl w, fun _ => skip (fun z => by rw [z2] at z; cases z.2.2)⟩)⟩) (fun z1 => ⟨fun _ => skip (fun z => by rw [z1] at z; cases z.2.1), fun w => absurd rfl w⟩)⟩
      have hcd : c ≠ d := fun z => e (by rw [z])
      have hll : (lc ctl (eE ctl na A) na n c ++ ld ctl (eE ctl na A) na c d).length + 12 ≤ 1584 := by
        rw [List.length_append]; by_cases q : c < d <;> simp only [q, if_true, if_false] at hld <;> omega
      generalize hLL : lc ctl (eE ctl na A) na n c ++ ld ctl (eE ctl na A) na c d = LL at *
      refine ⟨fun k o R' IT' => ∃ b : Nat, b ≤ na ∧ k = nI b ∧ rdE iM R' A (eE ctl na A) (QM c d b) ∧ rdI (eE ctl na A) (LL ++ la (eE ctl na A) c d b) o IT', fun k _ _ _ => na - k.toNatClampNeg, ⟨0, by omega, rfl, h, by rw [la_z, List.append_nil]; exact g⟩, ?_⟩
      clear h g skip
      rintro k o R' IT' ⟨b, hb, rfl, h, g⟩
      refine ⟨fun hx => ?_, fun hx => ?_⟩
      · have hbe := q_ex (by omega) hb hx
        rw [hbe] at g
        refine ⟨⟨d + 1, by omega, rfl, rdE_mono h (fun c' p a h1 h2 h3 => ?_), ?_⟩, mu⟩
        · by_cases z : a < na
          · left; unfold QM; omega
          · right; exact eE_0 (fun w => z w.2.2.2.2)
        · rw [ld_s, if_pos ⟨hcd, z1, z2⟩, ← List.append_assoc, hLL]
          exact g
      · have hb' := q_in (by omega) hb hx
        have mb := q_mu hb' (show na < 2 ^ 31 by omega)
        have hlen := la_le (eE ctl na A) c d b
        have p1 : ((156 * nI c + 13 * nI b) + nI d) + 1 = nI (iM c (d + 1) b) := cM (nI_1 d)
        have p2 : ((156 * nI d + 13 * nI b) + nI c) + 1 = nI (iM d (c + 1) b) := cM (nI_1 c)
        have l1 : iM c (d + 1) b < 1872 := by unfold iM; omega
        have l2 : iM d (c + 1) b < 1872 := by unfold iM; omega
        have in1 : vp_in (nI (iM c (d + 1) b)) 1872 := vp_in_nI l1 (by decide)
        have in2 : vp_in (nI (iM d (c + 1) b)) 1872 := vp_in_nI l2 (by decide)
        have hne : iM c (d + 1) b ≠ iM d (c + 1) b := fun z => by have := iM_ok _ _ _ _ _ _ (by omega) (by omega) (by omega) (by omega) z; omega
        obtain ⟨hv, hR'⟩ := rdE_pair (Q' := QM c d (b + 1)) iM_ok h (by omega) (by omega) (by omega) hcd (eE_1 hcd z1 z2 hb') (eE_1 (fun z => hcd z.symm) z2 z1 hb') (hA _ _ _ z1 (by omega) (by omega) (by omega) (by omega)) (hA _ _ _ z2 (by omega) (by omega) (by omega) (by omega)) (by unfold QM; omega) (fun c' p' a' _ _ _ => by unfold QM; omega)
        unfold wp_M_cell
        rw [p1, p2]
        dsimp only
        rw [nI_clamp (n := iM c (d + 1) b) (by omega), nI_clamp (n := iM d (c + 1) b) (by omega), nI_1]
        refine ⟨in1, fun x hx => ⟨in2, fun y hy => ?_⟩⟩
        have tkc := tk_comm x y
        rw [← hx, ← hy] at hR' hv
        refine ⟨fun s => (s = 1 ∧ ((0 < x.toInt ∧ y.toInt < 0) ∨ (x.toInt < 0 ∧ 0 < y.toInt))) ∨ (s = 0 ∧ ¬ ((0 < x.toInt ∧ y.toInt < 0) ∨ (x.toInt < 0 ∧ 0 < y.toInt))), fun s hs => ?_, ?_⟩
        · refine ⟨fun t => (t = tk x y ∧ ((0 < x.toInt ∧ y.toInt < 0) ∨ (x.toInt < 0 ∧ 0 < y.toInt))) ∨ (t = 0 ∧ ¬ ((0 < x.toInt ∧ y.toInt < 0) ∨ (x.toInt < 0 ∧ 0 < y.toInt))), fun t ht => ?_, fun hs0 => ?_, fun hs0 => ?_⟩
          · refine ⟨fun v => v = el x y, fun v hv' => ⟨in1, fun w => w = el y x, fun w hw => ⟨in2, in1, ?_⟩, fun q => ?_, fun q => ?_⟩, fun q => ?_, fun q => ?_⟩
            · subst hv'; subst hw
              have rv : vp_updL (vp_updL R' (iM c (d + 1) b) (el x y)) (iM d (c + 1) b) (el y x) (iM c (d + 1) b) = eE ctl na A c (d + 1) b := by
                rw [pk_uLn hne, pk_uLs, hv]
              rw [rv]
              refine ⟨fun z => ⟨⟨b + 1, by omega, rfl, hR', ?_⟩, mb⟩, fun z => ?_⟩
              · rw [la_s, if_pos z, List.append_nil]; exact g
              · have go := g.1
                subst go
                have hl2 : (LL ++ la (eE ctl na A) c d b).length < 1584 := by rw [List.length_append]; omega
                refine sp_mOpen (by omega) (by omega) (by omega) rv hl2 g (fun o2 IT2 g2 => ⟨⟨b + 1, by omega, rfl, hR', ?_⟩, mb⟩)
                rw [la_s, if_neg z, ← List.append_assoc]; exact g2
            · rw [ge0i] at q
              rcases ht with ⟨ht, hq⟩ | ⟨ht, hq⟩
              · rw [ht, tkc, el_pos (x := y) (y := x) (by omega) (by omega)]
              · rw [ht, Int64.sub_zero, el_same (by omega) (by omega)]
            · rw [ge0i] at q
              rcases ht with ⟨ht, hq⟩ | ⟨ht, hq⟩
              · rw [ht, tkc, el_neg (x := y) (y := x) (by omega) (by omega)]
              · rw [ht, Int64.add_zero, el_same (by omega) (by omega)]
            · rw [ge0i] at q
              rcases ht with ⟨ht, hq⟩ | ⟨ht, hq⟩
              · rw [ht, el_pos (by omega) (by omega)]
              · rw [ht, Int64.sub_zero, el_same (by omega) (by omega)]
            · rw [ge0i] at q
              rcases ht with ⟨ht, hq⟩ | ⟨ht, hq⟩
              · rw [ht, el_neg (by omega) (by omega)]
              · rw [ht, Int64.add_zero, el_same (by omega) (by omega)]
          · rcases hs with ⟨hs, hq⟩ | ⟨hs, hq⟩
            · rw [hs] at hs0; exact absurd hs0 (by decide)
            · exact Or.inr ⟨rfl, hq⟩
          · have hq : (0 < x.toInt ∧ y.toInt < 0) ∨ (x.toInt < 0 ∧ 0 < y.toInt) := by
              rcases hs with ⟨hs, hq⟩ | ⟨hs, hq⟩
              · exact hq
              · exact absurd hs hs0
            refine aL_le x (aL_le y ⟨fun w => aL_le y (Or.inl ⟨?_, hq⟩), fun w => aL_le x (Or.inl ⟨?_, hq⟩)⟩)
            · unfold tk
              by_cases z : aL y < aL x
              · rw [if_pos z]
              · rw [if_neg z]
                rw [Int64.le_iff_toInt_le] at w
                rw [Int64.lt_iff_toInt_lt] at z
                exact L_ext (by omega)
            · unfold tk
              rw [if_neg (fun z => w (by rw [Int64.le_iff_toInt_le]; rw [Int64.lt_iff_toInt_lt] at z; omega))]
        · simp only [le0i, ge0i, lt0i]
          refine ⟨fun q1 => ⟨fun q2 => Or.inr ⟨trivial, by omega⟩, fun q2 => ⟨fun q3 => Or.inr ⟨trivial, by omega⟩, fun q3 => Or.inl ⟨trivial, by omega⟩⟩⟩, fun q1 => ⟨fun q2 => Or.inl ⟨trivial, by omega⟩, fun q2 => ⟨fun q3 => Or.inr ⟨trivial, by omega⟩, fun q3 => by omega⟩⟩⟩
