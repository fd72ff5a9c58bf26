-- uses:
/-! two ways apart -/
def upB (best : Option Nat) (lost : Nat) (o : Option (Nat × Nat)) : Option Nat := match o with
  | none => best
  | some (L, _) => match best with
    | none => some (lost + L)
    | some x => if lost + L < x then some (lost + L) else some x
def frB (B : Nat → Nat) (used c d w v : Nat) : Bool := !used.testBit v && (!decide (v = c) && (!decide (v = d) && talkN B (B 1) w v))
noncomputable def gb (B : Nat → Nat) (e c d : Nat) : Nat → Nat → Nat → Nat → Option Nat → Option Nat
  | 0, _, _, _, best => best
  | f + 1, w, used, lost, best => if w = e then upB best lost (dd B (B 1) (fun j => used.testBit j = true) d c) else fold1 (fun best v => if frB B used c d w v then gb B e c d f v (used ||| 2 ^ v) (lost + lossN B w v) best else best) 0 (B 0) best
def enB (o : Option Nat) : Int32 := match o with
  | none => -1
  | some x => nI x
def enF (o : Option Nat) : Int32 := match o with
  | none => nI 16777216
  | some x => nI x
def okB (o : Option Nat) : Prop := ∀ x, o = some x → x ≤ 4000
def GI (B : Nat → Nat) (c d used k : Nat) : Prop := used < 2 ^ 12 ∧ (∀ j, used.testBit j = true → j < B 0) ∧ ¬ used.testBit c = true ∧ ¬ used.testBit d = true ∧ fb_ct (fun j => used.testBit j) 12 = k + 1
theorem upB_ok {best : Option Nat} {lost : Nat} {o : Option (Nat × Nat)} (h : okB best) (hl : lost ≤ 1620) (ho : DB o) : okB (upB best lost o) := by
  cases o with
  | none => exact h
  | some d =>
    obtain ⟨L, j⟩ := d
    obtain ⟨_, hL⟩ := ho L j rfl
    cases best with
    | none => intro x e; have : lost + L = x := by simpa [upB] using e
              omega
    | some y =>
      have hy := h y rfl
      intro x e
      unfold upB at e
      dsimp only at e
      split at e
      · have : lost + L = x := by simpa using e
        omega
      · have : y = x := by simpa using e
        omega
theorem GI_step {B : Nat → Nat} {c d used k v : Nat} (h : GI B c d used k) (hv : v < B 0) (h12 : B 0 ≤ 12) (h1 : used.testBit v = false) (hc : v ≠ c) (hd : v ≠ d) : GI B c d (used ||| 2 ^ v) (k + 1) := by
  obtain ⟨g1, g2, g3, g4, g5⟩ := h
  have hb : ∀ j, (used ||| 2 ^ v).testBit j = (used.testBit j || decide (j = v)) := fun j => fb_bit_set used v j
  refine ⟨Nat.or_lt_two_pow g1 (Nat.pow_lt_pow_right (by omega) (by omega)), fun j hj => ?_, ?_, ?_, ?_⟩
  · rw [hb, Bool.or_eq_true, decide_eq_true_eq] at hj
    rcases hj with hj | rfl
    · exact g2 j hj
    · exact hv
  · rw [hb, Bool.or_eq_true, decide_eq_true_eq]
    rintro (hj | hj)
    · exact g3 hj
    · exact hc hj.symm
  · rw [hb, Bool.or_eq_true, decide_eq_true_eq]
    rintro (hj | hj)
    · exact g4 hj
    · exact hd hj.symm
  · have hu := fb_ct_upd (fun j => used.testBit j) true (i := v) (n := 12) (by omega)
    rw [if_neg (by rw [h1]; decide), if_pos rfl, g5, Nat.add_zero] at hu
    rw [← hu]
    refine fb_ct_cong (fun j _ => ?_)
    rw [hb]
    by_cases q : j = v
    · rw [if_pos q, decide_eq_true q, Bool.or_true]
    · rw [if_neg q, decide_eq_false q, Bool.or_false]
theorem frB_of {B : Nat → Nat} {used c d w v : Nat} (h : frB B used c d w v = true) : used.testBit v = false ∧ v ≠ c ∧ v ≠ d ∧ talkN B (B 1) w v = true := by
  unfold frB at h
  rw [Bool.and_eq_true, Bool.and_eq_true, Bool.and_eq_true] at h
  refine ⟨by simpa using h.1, by simpa using h.2.1, by simpa using h.2.2.1, h.2.2.2⟩
theorem gb_prune {B : Nat → Nat} {e c d x : Nat} : ∀ f w used lost, x ≤ lost → gb B e c d f w used lost (some x) = some x := by
  intro f
  induction f with
  | zero => intro w used lost _; rfl
  | succ f ih =>
    intro w used lost hl
    rw [gb]
    by_cases q : w = e
    · rw [if_pos q]
      cases dd B (B 1) (fun j => used.testBit j = true) d c with
      | none => rfl
      | some o => obtain ⟨L, j⟩ := o; exact if_neg (by omega)
    · rw [if_neg q]
      have := fold1_inv (g := fun best v => if frB B used c d w v then gb B e c d f v (used ||| 2 ^ v) (lost + lossN B w v) best else best) (fun _ s => s = some x) (B 0) 0 (some x) rfl (fun j s _ _ hs => by
        split
        · rw [hs]; exact ih _ _ _ (by omega)
        · exact hs)
      exact this
theorem both8 {A : Nat → Int32} {B : Nat → Nat} (hM : MB A 0 B) (hB : WF B) {e c d : Nat} (he : e < B 0) (hc : c < B 0) (hd : d < B 0) :
    ∀ f w used lost best tl tn k, GI B c d used k → w < B 0 → lost ≤ 135 * k → 12 ≤ f + k → okB best → ∃ tl' tn', fX8_goesBoth f A tl tn (enB best) (nI w) (nI e) (nI used) (nI lost) (nI c) (nI d) = some (tl', tn', enB (gb B e c d f w used lost best)) ∧ okB (gb B e c d f w used lost best) := by
  have h12 := hB.1
  have hh := hB.2.2.1
  intro f
  induction f with
  | zero =>
    intro w used lost best tl tn k hG hw hl hf hok
    have := fb_ct_le (fun j => used.testBit j) 12
    have := hG.2.2.2.2
    omega
  | succ f ih =>
    intro w used lost best tl tn k hG hw hl hf hok
    have hk11 : k ≤ 11 := by
      have := fb_ct_le (fun j => used.testBit j) 12
      have := hG.2.2.2.2
      omega
    have hby : Bits used 12 (fun j => used.testBit j = true) := ⟨hG.1, fun _ => Iff.rfl⟩
    have hu12 := hG.1
    rw [fX8_goesBoth, gb]
    unfold fX8_goesBoth_b
    by_cases q : w = e
    · obtain ⟨tl', tn', g3, g4⟩ := lay8 hM hB (show B 1 < 100000 by omega) hby hd tl tn
      have hDB := (g4 c (by omega)).2.1
      refine ⟨tl', tn', ?_, by rw [if_pos q]; exact upB_ok hok (by omega) hDB⟩
      rw [if_pos q, if_pos (by rw [q]), rdA1 hM, g3, bd2_some]
      simp only [rdI_nI (show c < 12 by omega) (show 12 < 2 ^ 31 by decide), (g4 c (by omega)).2.2.1]
      cases hdd : dd B (B 1) (fun j => used.testBit j = true) d c with
      | none => exact if_pos (by decide)
      | some o =>
        obtain ⟨L, j⟩ := o
        obtain ⟨_, b2⟩ := hDB L j hdd
        show (if 1000000 ≤ nI L then _ else jn _ _) = _
        rw [lit 1000000, if_neg (inle (by omega) (by decide)), jn_eq, bnd_e]
        cases best with
        | none =>
          show (if (-1 : Int32) = -1 then some (tl', tn', nI lost + nI L) else _) = some (tl', tn', nI (lost + L))
          rw [if_pos rfl, nI_add]
        | some x =>
          have hx := hok x rfl
          show (if nI x = -1 then _ else if nI x ≤ nI lost + nI L then some (tl', tn', nI x) else some (tl', tn', nI lost + nI L)) = some (tl', tn', enB (if lost + L < x then some (lost + L) else some x))
          rw [if_neg (m1_ne (by omega)), nI_add]
          by_cases q2 : lost + L < x
          · rw [if_neg (inle q2 (by omega)), if_pos q2]; rfl
          · rw [if_pos (ile (by omega) (by omega)), if_neg q2]; rfl
    · rw [if_neg q, if_neg (ine q (by omega) (by omega))]
      have loop : ∀ r i F best tl tn, i + r = B 0 → r < F → okB best → ∃ tl' tn', fX8_goesBoth_73 (fX8_goesBoth f) (nI w) (nI e) (nI used) (nI lost) (nI c) (nI d) A (fun (t_loss_19 : Nat → Int32) (t_hops_20 : Nat → Int32) (t_bothLeast_21 : Int32) => some (t_loss_19, t_hops_20, t_bothLeast_21)) F (nI i) tl tn (enB best) = some (tl', tn', enB (fold1 (fun best v => if frB B used c d w v then gb B e c d f v (used ||| 2 ^ v) (lost + lossN B w v) best else best) i r best)) ∧ okB (fold1 (fun best v => if frB B used c d w v then gb B e c d f v (used ||| 2 ^ v) (lost + lossN B w v) best else best) i r best) := by
        intro r
        induction r with
        | zero =>
          intro i F best tl tn hi hF hok
          obtain ⟨F, rfl⟩ : ∃ m, F = m + 1 := ⟨F - 1, by omega⟩
          exact ⟨tl, tn, by rw [fX8_goesBoth_73, rdA0 hM, if_pos (ile (by omega) (by omega))]; rfl, hok⟩
        | succ r ihr =>
          intro i F best tl tn hi hF hok
          obtain ⟨F, rfl⟩ : ∃ m, F = m + 1 := ⟨F - 1, by omega⟩
          rw [fX8_goesBoth_73, rdA0 hM, if_neg (inle (by omega) (by omega)), nI_inc, fold1, bit0_nI (by omega) (by omega), rdA1 hM, talks8 hM hB (by omega) (by omega) (by omega), bd1_some, bI_0']
          cases hfr : frB B used c d w i with
          | false =>
            have hnext := ihr (i + 1) F best tl tn (by omega) (by omega) hok
            cases hb : used.testBit i with
            | true => exact hnext
            | false =>
              by_cases q1 : i = c
              · rw [if_neg (by decide), if_pos (by rw [q1])]; exact hnext
              · rw [if_neg (by decide), if_neg (ine q1 (by omega) (by omega))]
                by_cases q2 : i = d
                · rw [if_pos (by rw [q2])]; exact hnext
                · rw [if_neg (ine q2 (by omega) (by omega))]
                  have ht : talkN B (B 1) w i = false := by
                    unfold frB at hfr
                    rw [hb, decide_eq_false q1, decide_eq_false q2] at hfr
                    simpa using hfr
                  rw [ht]; exact hnext
          | true =>
            obtain ⟨f1, f2, f3, f4⟩ := frB_of hfr
            have hlb := loss_bd hB (hr := B 1) (a := w) (b := i) ⟨by omega, by omega, f4⟩
            obtain ⟨tl1, tn1, z1, z2⟩ := ih i (used ||| 2 ^ i) (lost + lossN B w i) best tl tn (k + 1) (GI_step hG (by omega) h12 f1 f2 f3) (by omega) (by omega) (by omega) hok
            rw [f1, if_neg (by decide), if_neg (ine f2 (by omega) (by omega)), if_neg (ine f3 (by omega) (by omega)), f4, if_pos rfl, loss8 hM hB hw (by omega), bd1_some, sh1 (by omega), fa_or, nI_add, z1, bd3_some]
            exact ihr (i + 1) F _ tl1 tn1 (by omega) (by omega) z2
      exact loop (B 0) 0 FU best tl tn (by omega) (FU_big (by omega)) hok
theorem both7 {B : Nat → Nat} (hB : WF B) {links prices : Nat → Int32} (hl : LK links (tk B (B 1))) (hpr : PR prices (tk B (B 1)) (lossN B)) {e c d : Nat} (he : e < B 0) (hc : c < B 0) (hd : d < B 0) :
    ∀ f w used lost best rest k, GI B c d used k → w < B 0 → lost ≤ 135 * k → 12 ≤ f + k → okB best → ∃ rest', fX6_goFrom f (nI (B 0)) links prices rest (nI e) (nI c) (nI d) (enF best) (nI w) (nI used) (nI lost) (nI k) = some (rest', enF (gb B e c d f w used lost best)) ∧ okB (gb B e c d f w used lost best) := by
  have h12 := hB.1
  intro f
  induction f with
  | zero =>
    intro w used lost best rest k hG hw hl hf hok
    have := fb_ct_le (fun j => used.testBit j) 12
    have := hG.2.2.2.2
    omega
  | succ f ih =>
    intro w used lost best rest k hG hw hlo hf hok
    have hk11 : k ≤ 11 := by
      have := fb_ct_le (fun j => used.testBit j) 12
      have := hG.2.2.2.2
      omega
    have hby : Bits used 12 (fun j => used.testBit j = true) := ⟨hG.1, fun _ => Iff.rfl⟩
    have hu12 := hG.1
    rw [fX6_goFrom]
    unfold fX6_goFrom_b
    rw [lit 12, if_neg (inle (by omega) (by omega))]
    by_cases hpn : ∃ x, best = some x ∧ x ≤ lost
    · obtain ⟨x, rfl, hx⟩ := hpn
      rw [gb_prune _ _ _ _ hx]
      exact ⟨rest, if_neg (inlt hx (by omega)), hok⟩
    · have hlt : nI lost < enF best := by
        cases best with
        | none => exact ilt (by omega) (by decide)
        | some x =>
          have := hok x rfl
          exact ilt (by rcases Nat.lt_or_ge lost x with h | h
                        · exact h
                        · exact absurd ⟨x, rfl, h⟩ hpn) (by omega)
      rw [if_pos hlt, gb]
      by_cases q : w = e
      · obtain ⟨rest', g1, g2⟩ := meas7 hB hl hpr hd hby hG.2.2.2.1 rest
        have hDB := (g2 c (by omega)).2.1
        refine ⟨rest', ?_, by rw [if_pos q]; exact upB_ok hok (by omega) hDB⟩
        rw [if_pos q, if_pos (by rw [q]), g1, bd1_some, rdI_nI (by omega) (by decide), lossF7 (by omega) hDB (g2 c (by omega)).2.2, bd1_some, bnd_e, (g2 c (by omega)).2.2]
        cases hdd : dd B (B 1) (fun j => used.testBit j = true) d c with
        | none => exact if_pos rfl
        | some o =>
          obtain ⟨L, j⟩ := o
          obtain ⟨b1, b2⟩ := hDB L j hdd
          show (if nI (16 * L + j) = 16777216 then _ else some (rest', if nI lost + nI L < enF best then nI lost + nI L else enF best)) = _
          rw [lit 16777216, if_neg (ine (by omega) (by omega) (by decide)), nI_add]
          cases best with
          | none =>
            show some (rest', if nI (lost + L) < nI 16777216 then _ else _) = some (rest', nI (lost + L))
            rw [if_pos (ilt (by omega) (by decide))]
          | some x =>
            have hx := hok x rfl
            show some (rest', if nI (lost + L) < nI x then nI (lost + L) else nI x) = some (rest', enF (if lost + L < x then some (lost + L) else some x))
            by_cases q2 : lost + L < x
            · rw [if_pos (ilt q2 (by omega)), if_pos q2]; rfl
            · rw [if_neg (inlt (by omega) (by omega)), if_neg q2]; rfl
      · obtain ⟨y, hy1, hy2⟩ := hl w (by omega)
        have bz := ((hy2.andnot hby (by omega)).andnot (bits1 (show c < 12 by omega)) (by omega)).andnot (bits1 (show d < 12 by omega)) (by omega)
        rw [if_neg q, if_neg (ine q (by omega) (by omega)), rdI_nI (by omega) (by decide), hy1, bnd_e, not_nI, fa_and, sh1 (by omega), not_nI, fa_and, sh1 (by omega), not_nI, fa_and]
        generalize hz : ((y &&& (used ^^^ (2 ^ 32 - 1))) &&& (2 ^ c ^^^ (2 ^ 32 - 1))) &&& (2 ^ d ^^^ (2 ^ 32 - 1)) = z at bz ⊢
        have hz12 := bz.1
        have hzb : ∀ v, v < 12 → (z.testBit v = frB B used c d w v) := by
          intro v hv
          rw [Bool.eq_iff_iff, bz.2 v]
          unfold frB
          rw [Bool.and_eq_true, Bool.and_eq_true, Bool.and_eq_true]
          constructor
          · rintro ⟨⟨⟨a1, a2⟩, a3⟩, a4⟩
            exact ⟨by simpa using a2, by simpa using a3, by simpa using a4, a1.2.2⟩
          · rintro ⟨a1, a2, a3, a4⟩
            exact ⟨⟨⟨⟨by omega, hv, a4⟩, by simpa using a1⟩, by simpa using a2⟩, by simpa using a3⟩
        have loop : ∀ r i F best rest, i + r = B 0 → r < F → okB best → ∃ rest', fX6_goFrom_102 (fX6_goFrom f) (nI w) (nI used) (nI lost) (nI k) (nI z) (nI (B 0)) links prices (nI e) (nI c) (nI d) (fun (t_rest_14 : Nat → Int32) (t_least_15 : Int32) => some (t_rest_14, t_least_15)) F (nI i) rest (enF best) = some (rest', enF (fold1 (fun best v => if frB B used c d w v then gb B e c d f v (used ||| 2 ^ v) (lost + lossN B w v) best else best) i r best)) ∧ okB (fold1 (fun best v => if frB B used c d w v then gb B e c d f v (used ||| 2 ^ v) (lost + lossN B w v) best else best) i r best) := by
          intro r
          induction r with
          | zero =>
            intro i F best rest hi hF hok
            obtain ⟨F, rfl⟩ : ∃ m, F = m + 1 := ⟨F - 1, by omega⟩
            exact ⟨rest, by rw [fX6_goFrom_102, if_pos (ile (by omega) (by omega))]; rfl, hok⟩
          | succ r ihr =>
            intro i F best rest hi hF hok
            obtain ⟨F, rfl⟩ : ∃ m, F = m + 1 := ⟨F - 1, by omega⟩
            rw [fX6_goFrom_102, if_neg (inle (by omega) (by omega)), nI_inc, fold1, bit0_nI (by omega) (by omega), hzb i (by omega)]
            cases hfr : frB B used c d w i with
            | false => exact ihr (i + 1) F best rest (by omega) (by omega) hok
            | true =>
              obtain ⟨f1, f2, f3, f4⟩ := frB_of hfr
              have htk : tk B (B 1) w i := ⟨by omega, by omega, f4⟩
              have hlb := loss_bd hB htk
              obtain ⟨rest1, z1, z2⟩ := ih i (used ||| 2 ^ i) (lost + lossN B w i) best rest (k + 1) (GI_step hG (by omega) h12 f1 f2 f3) (by omega) (by omega) (by omega) hok
              have e3 : fX6_priceOf prices (nI w) (nI i) = some (nI (16 * lossN B w i + 1)) := by
                unfold fX6_priceOf
                rw [show (12 * nI w + nI i : Int32) = nI (12 * w + i) by rw [lit 12, pk_mul, nI_add], rdI_nI (by omega) (by decide), hpr w i htk]
              rw [if_pos rfl, e3, bd1_some, sh1 (by omega), fa_or, lit 16, pk_div (by omega) (by decide) (by decide), show (16 * lossN B w i + 1) / 16 = lossN B w i by omega, nI_add, nI_inc, z1, bd2_some]
              exact ihr (i + 1) F _ rest1 (by omega) (by omega) z2
        exact loop (B 0) 0 FU best rest (by omega) (FU_big (by omega)) hok
theorem ct_one {a : Nat} (ha : a < 12) : fb_ct (fun j => (2 ^ a).testBit j) 12 = 0 + 1 := by
  have : ∀ a, a < 12 → fb_ct (fun j => (2 ^ a).testBit j) 12 = 0 + 1 := by decide +kernel
  exact this a ha
theorem ends7 {a b : Nat} (ha : a < 12) (hb : b < 12) : fX7_endsOf (nI (20 * a + b)) = some (nI (2 ^ a ||| 2 ^ b)) := by
  unfold fX7_endsOf
  rw [les_nI (by omega), gre_nI (by omega), bd1_some, bd1_some, show (20 * a + b) / 20 = a by omega, show (20 * a + b) % 20 = b by omega, sh1 (by omega), sh1 (by omega), fa_or]
theorem st_both : Step_both Rel0 := by
  intro w0 w1 w2 w3 w4 w5 w6 w7 w8 w9 w10 w11 xt xn xf xp rs rz rv made im all has mt mn mf mp so ma nu y0 y1 y2 y3 y4 y5 y6 y7 th ml mh mb v u hR
  obtain ⟨⟨B, hB, hM, hC⟩, hT, hF, hRw, hI⟩ := id hR
  obtain ⟨e0, e4, e2, e3, e5, e1, ⟨m, P, em, hL⟩, hc, hw⟩ := id hC
  dsimp only at e0 e4 e2 e3 e5 e1 em hL hc hw
  subst e0 e4 e2 e3 e5 e1 em
  have h12 := hB.1
  have hh := hB.2.2.1
  unfold fX7_both fX8_both
  rw [hasP_eq h12, bd1_some, isPair8 hM hB, bd1_some, hasP_eq h12, bd1_some, isPair8 hM hB, bd1_some, Int32.toInt_toInt64, Int32.toInt_toInt64, bI_0', bI_0', bI_0', bI_0']
  cases hv : pairZ (B 0) v.toInt with
  | false => exact ⟨-2, y0, y1, y2, y3, y4, y5, y6, y7, 0, ml, mh, mb, rfl, rfl, hR⟩
  | true =>
    cases hu : pairZ (B 0) u.toInt with
    | false => exact ⟨-2, y0, y1, y2, y3, y4, y5, y6, y7, 0, ml, mh, mb, rfl, rfl, hR⟩
    | true =>
      obtain ⟨a, b, hab, hb, rfl⟩ := pairZ_of h12 hv
      obtain ⟨c, d, hcd, hd, rfl⟩ := pairZ_of h12 hu
      have bz := ((bits1 (show a < 12 by omega)).or (bits1 (show b < 12 by omega))).and ((bits1 (show c < 12 by omega)).or (bits1 (show d < 12 by omega)))
      have hz12 := bz.1
      simp only [if_true]
      rw [ends7 (by omega) (by omega), bd1_some, ends7 (by omega) (by omega), bd1_some, fa_and, rem20 (by omega) (by omega), rem20 (by omega) (by omega), div20 (by omega) (by omega), div20 (by omega) (by omega)]
      simp only [bnd_e]
      by_cases hcom : a = c ∨ a = d ∨ b = c ∨ b = d
      · have hne : (2 ^ a ||| 2 ^ b) &&& (2 ^ c ||| 2 ^ d) ≠ 0 := fun h0 => by
          have := bits_empty bz h0
          rcases hcom with h | h | h | h
          · exact this a ⟨Or.inl rfl, Or.inl h⟩
          · exact this a ⟨Or.inl rfl, Or.inr h⟩
          · exact this b ⟨Or.inr rfl, Or.inl h⟩
          · exact this b ⟨Or.inr rfl, Or.inr h⟩
        refine ⟨-3, y0, y1, y2, y3, y4, y5, y6, y7, 0, ml, mh, mb, if_neg (by rw [n0]; exact ine hne (by omega) (by decide)), ?_, hR⟩
        rcases hcom with h | h | h | h
        · rw [if_pos (by rw [h])]
        · rw [if_pos (show nI a = nI d by rw [h])]; split <;> rfl
        · rw [if_pos (show nI b = nI c by rw [h])]; split
          · rfl
          · split <;> rfl
        · rw [if_pos (show nI b = nI d by rw [h])]; split
          · rfl
          · split
            · rfl
            · split <;> rfl
      · have h0 : (2 ^ a ||| 2 ^ b) &&& (2 ^ c ||| 2 ^ d) = 0 := by
          rcases Nat.eq_zero_or_pos ((2 ^ a ||| 2 ^ b) &&& (2 ^ c ||| 2 ^ d)) with h | h
          · exact h
          · obtain ⟨j, h1, h2⟩ := bits_some bz (by omega)
            omega
        obtain ⟨l', q', t1, t2, t3⟩ := take_ok hL hB hw (show B 1 < 100000 by omega) y0 y1 y2
        have hG : GI B c d (2 ^ a) 0 := by
          have ba := bits1 (show a < 12 by omega)
          refine ⟨ba.1, fun j hj => by have := (ba.2 j).mp hj; omega, fun hj => by have := (ba.2 c).mp hj; omega, fun hj => by have := (ba.2 d).mp hj; omega, ?_⟩
          exact ct_one (show a < 12 by omega)
        obtain ⟨rest, g1, g2⟩ := both7 hB t2 t3 hb (show c < B 0 by omega) hd 16 a (2 ^ a) 0 none y3 0 hG (by omega) (by omega) (by omega) (fun x e => absurd e (by simp))
        obtain ⟨tl, tn, g3, g4⟩ := both8 hM hB hb (show c < B 0 by omega) hd 16 a (2 ^ a) 0 none ml mh 0 hG (by omega) (by omega) (by omega) (fun x e => absurd e (by simp))
        replace g1 : fX6_goFrom 16 (nI (B 0)) l' q' y3 (nI b) (nI c) (nI d) 16777216 (nI a) (nI (2 ^ a)) 0 0 = _ := g1
        replace g3 : fX8_goesBoth 16 all ml mh (-1) (nI a) (nI b) (nI (2 ^ a)) 0 (nI c) (nI d) = _ := g3
        rw [h0, if_pos (show nI 0 = 0 from rfl), t1, bd3_some]
        unfold fX6_leastApart
        rw [gre_nI (by omega), bd1_some, les_nI (by omega), bd1_some, gre_nI (by omega), bd1_some, les_nI (by omega), bd1_some, bd1_some, show (20 * a + b) / 20 = a by omega, show (20 * a + b) % 20 = b by omega, show (20 * c + d) / 20 = c by omega, show (20 * c + d) % 20 = d by omega, sh1 (by omega), g1, bd2_some, if_neg (ine (by omega) (by omega) (by omega)), if_neg (ine (by omega) (by omega) (by omega)), if_neg (ine (by omega) (by omega) (by omega)), if_neg (ine (by omega) (by omega) (by omega)), g3, bd3_some]
        cases hg : gb B b c d 16 a (2 ^ a) 0 none with
        | none => exact ⟨-1, nI (B 0), l', q', rest, nI b, nI c, nI d, nI 16777216, 0, tl, tn, -1, by rw [if_pos (show enF none = 16777216 from rfl)]; rfl, rfl, hR⟩
        | some x =>
          have hx := g2 x hg
          exact ⟨nI x, nI (B 0), l', q', rest, nI b, nI c, nI d, nI x, 0, tl, tn, nI x, by rw [if_neg (show ¬ enF (some x) = 16777216 by show ¬ nI x = 16777216; rw [lit 16777216]; exact ine (by omega) (by omega) (by decide))]; rfl, rfl, hR⟩
