-- uses:
/-! together: the rest of the class, the model, the step -/
theorem bd6_some {α β γ δ ε ζ θ : Type} (a : α) (b : β) (c : γ) (d : δ) (e : ε) (f : ζ) (k : α → β → γ → δ → ε → ζ → Option θ) : bd6 (some (a, b, c, d, e, f)) k = k a b c d e f := rfl
def crP (p : Nat → Nat) (i j : Nat) : Bool := crossN (p i / 20) (p i % 20) (p j / 20) (p j % 20)
def lnP (B p : Nat → Nat) (i : Nat) : Nat := lenN B (p i / 20) (p i % 20)
theorem choose_in {B p : Nat → Nat} (hB : WF B) {f : Nat → Int64} {c i : Nat} (hc : c ≤ 12) (hp : ∀ j, j < c → p j / 20 < p j % 20 ∧ p j % 20 < B 0 ∧ f j = lN (p j) ∧ (f j).toInt32 = nI (p j)) (hi : i < c) (K : (Nat → Int32) → Option ((Nat → Int32) × (Nat → Int32) × Int32 × Int32 × Int32 × Int32)) :
    ∀ r j F crs y, j + r = c → r < F → crs i = nI y → Bits y 12 (fun k => k < j ∧ crP p i k = true) → ∃ crs' y', fX0_choose_49 (nI i) (nI c) f (nI c) K F (nI j) crs = K crs' ∧ crs' i = nI y' ∧ Bits y' 12 (fun k => k < c ∧ crP p i k = true) ∧ ∀ k, k ≠ i → crs' k = crs k := by
  have h12 := hB.1
  intro r
  induction r with
  | zero =>
    intro j F crs y hj hF h1 h2
    obtain ⟨F, rfl⟩ : ∃ m, F = m + 1 := ⟨F - 1, by omega⟩
    obtain rfl : j = c := by omega
    exact ⟨crs, y, by rw [fX0_choose_49, if_pos (ile (by omega) (by omega))], h1, h2, fun _ _ => rfl⟩
  | succ r ih =>
    intro j F crs y hj hF h1 h2
    obtain ⟨F, rfl⟩ : ∃ m, F = m + 1 := ⟨F - 1, by omega⟩
    have q1 := hp i hi
    have q2 := hp j (by omega)
    rw [fX0_choose_49, if_neg (inle (by omega) (by omega)), numAt7 (by omega) hi, bd1_some, numAt7 (by omega) (show j < c by omega), bd1_some, q1.2.2.2, q2.2.2.2, cross_nI (by omega) (by omega), bd1_some, bI_0', nI_inc, rdI_nI (by omega) (by decide), h1, wrI_nI (by omega) (by decide), sh1 (by omega), fa_or]
    cases hx : crossN (p i / 20) (p i % 20) (p j / 20) (p j % 20) with
    | false =>
      refine ih (j + 1) F crs y (by omega) (by omega) h1 (h2.congr (fun k => ⟨fun ⟨a, b⟩ => ⟨by omega, b⟩, fun ⟨a, b⟩ => ⟨?_, b⟩⟩))
      by_cases q : k = j
      · subst q; unfold crP at b; rw [hx] at b; exact absurd b (by decide)
      · omega
    | true =>
      rw [if_pos rfl]
      have hb' : Bits (y ||| 2 ^ j) 12 (fun k => k < j + 1 ∧ crP p i k = true) := (h2.or (bits1 (show j < 12 by omega))).congr (fun k => ⟨by
        rintro (⟨a, b⟩ | rfl)
        · exact ⟨by omega, b⟩
        · exact ⟨by omega, hx⟩, by
        rintro ⟨a, b⟩
        by_cases q : k = j
        · exact Or.inr q
        · exact Or.inl ⟨by omega, b⟩⟩)
      obtain ⟨crs', y', k1, k2, k3, k4⟩ := ih (j + 1) F (upd crs i (nI (y ||| 2 ^ j))) (y ||| 2 ^ j) (by omega) (by omega) pk_us hb'
      refine ⟨crs', y', k1, k2, k3, fun k hk => ?_⟩
      rw [k4 k hk]; unfold upd; rw [if_neg hk]
theorem choose_out {B p : Nat → Nat} (hB : WF B) {f : Nat → Int64} {c : Nat} (hc : c ≤ 12) (hp : ∀ j, j < c → p j / 20 < p j % 20 ∧ p j % 20 < B 0 ∧ f j = lN (p j) ∧ (f j).toInt32 = nI (p j)) (K : (Nat → Int32) → (Nat → Int32) → Option ((Nat → Int32) × (Nat → Int32) × Int32 × Int32 × Int32 × Int32)) :
    ∀ r i F lens crs, i + r = c → r < F → (∀ j, j < i → lens j = nI (lnP B p j) ∧ ∃ x, crs j = nI x ∧ Bits x 12 (fun k => k < c ∧ crP p j k = true)) → ∃ lens' crs', fX0_choose_15 (nI c) (nI (B 0)) f (nI c) K F (nI i) lens crs = K lens' crs' ∧ ∀ j, j < c → lens' j = nI (lnP B p j) ∧ ∃ x, crs' j = nI x ∧ Bits x 12 (fun k => k < c ∧ crP p j k = true) := by
  have h12 := hB.1
  intro r
  induction r with
  | zero =>
    intro i F lens crs hi hF h
    obtain ⟨F, rfl⟩ : ∃ m, F = m + 1 := ⟨F - 1, by omega⟩
    obtain rfl : i = c := by omega
    exact ⟨lens, crs, by rw [fX0_choose_15, if_pos (ile (by omega) (by omega))], h⟩
  | succ r ih =>
    intro i F lens crs hi hF h
    obtain ⟨F, rfl⟩ : ∃ m, F = m + 1 := ⟨F - 1, by omega⟩
    have q1 := hp i (by omega)
    have hl := len7 hB q1.1 q1.2.1
    rw [show 20 * (p i / 20) + p i % 20 = p i by omega] at hl
    rw [fX0_choose_15, if_neg (inle (by omega) (by omega)), numAt7 (by omega) (show i < c by omega), bd1_some, q1.2.2.2, hl, bd1_some, wrI_nI (by omega) (by decide), wrI_nI (by omega) (by decide), nI_inc]
    obtain ⟨crs', y', k1, k2, k3, k4⟩ := choose_in hB hc hp (show i < c by omega) (fun (t_crossed_23 : Nat → Int32) => fX0_choose_15 (nI c) (nI (B 0)) f (nI c) K F (nI (i + 1)) (upd lens i (nI (lenN B (p i / 20) (p i % 20)))) t_crossed_23) c 0 FU (upd crs i 0) 0 (by omega) (FU_big (by omega)) pk_us (bits0 (fun k hk => by omega))
    replace k1 : fX0_choose_49 (nI i) (nI c) f (nI c) (fun (t_crossed_23 : Nat → Int32) => fX0_choose_15 (nI c) (nI (B 0)) f (nI c) K F (nI (i + 1)) (upd lens i (nI (lenN B (p i / 20) (p i % 20)))) t_crossed_23) FU 0 (upd crs i 0) = _ := k1
    rw [k1]
    refine ih (i + 1) F _ crs' (by omega) (by omega) (fun j hj => ?_)
    by_cases q : j = i
    · subst q; exact ⟨pk_us, y', k2, k3⟩
    · obtain ⟨a1, x, a2, a3⟩ := h j (by omega)
      refine ⟨by unfold upd; rw [if_neg q]; exact a1, x, ?_, a3⟩
      rw [k4 j q]; unfold upd; rw [if_neg q]; exact a2
theorem choose7 {B p : Nat → Nat} (hB : WF B) {f : Nat → Int64} {c : Nat} (hc : c ≤ 12) (hp : ∀ j, j < c → p j / 20 < p j % 20 ∧ p j % 20 < B 0 ∧ f j = lN (p j) ∧ (f j).toInt32 = nI (p j)) (lens crs : Nat → Int32) (z m l q : Int32) :
    ∃ lens' crs' S, fX0_choose lens crs z m l q (nI (B 0)) f (nI c) = some (lens', crs', nI c, nI (cntS S 0 c), nI (lngS (lnP B p) S 0 c), nI S) ∧ S < 2 ^ c ∧ indS (crP p) c S ∧ ∀ T, T < 2 ^ c → indS (crP p) c T → RK (lnP B p) c S ≤ RK (lnP B p) c T := by
  have h12 := hB.1
  have hL : ∀ j, j < c → lnP B p j ≤ 36 := fun j hj => by
    have := hp j hj
    exact lenN_le hB (by omega) (by omega)
  unfold fX0_choose
  have e1 : (if (12 : Int32) < nI c then 12 else nI c) = nI c := if_neg (by rw [lit 12]; exact inlt hc (by decide))
  rw [bnd_e, e1]
  obtain ⟨lens', crs', k1, k2⟩ := choose_out hB hc hp (fun (t_lengths_24 : Nat → Int32) (t_crossed_25 : Nat → Int32) => bd3 (fX0_decide 16 t_lengths_24 t_crossed_25 (nI c) (-1) l q 0 0 0 0) (fun t_most_26 t_leastLength_27 t_leastPlaces_28 => some (t_lengths_24, t_crossed_25, nI c, t_most_26, t_leastLength_27, t_leastPlaces_28))) c 0 FU lens crs (by omega) (FU_big (by omega)) (fun j hj => absurd hj (by omega))
  replace k1 : fX0_choose_15 (nI c) (nI (B 0)) f (nI c) (fun (t_lengths_24 : Nat → Int32) (t_crossed_25 : Nat → Int32) => bd3 (fX0_decide 16 t_lengths_24 t_crossed_25 (nI c) (-1) l q 0 0 0 0) (fun t_most_26 t_leastLength_27 t_leastPlaces_28 => some (t_lengths_24, t_crossed_25, nI c, t_most_26, t_leastLength_27, t_leastPlaces_28))) FU 0 lens crs = _ := k1
  obtain ⟨S, j1, j2, j3, j4, _⟩ := decide7 hc hL (fun j hj => (k2 j hj).1) (fun j hj => (k2 j hj).2) c 0 16 none (-1) l q 0 (by omega) (by omega) (Or.inl ⟨rfl, rfl⟩) (by decide) (fun i j _ _ h => by rw [Nat.zero_testBit] at h; exact absurd h (by decide))
  replace j1 : fX0_decide 16 lens' crs' (nI c) (-1) l q 0 0 0 0 = _ := j1
  rw [k1, j1, bd3_some]
  exact ⟨lens', crs', S, rfl, j2, j3, fun T h1 h2 => j4 T ⟨h1, h2, fun i hi => absurd hi (by omega)⟩⟩
theorem tog_j {n k i S : Nat} {nu : Nat → Int64} {p : Nat → Nat} (hn : n ≤ 12) (hk : k < 4) (hi : i < 12) (hS : S < 4096) (hp : ∀ j, j ≤ i → p j / 20 < p j % 20 ∧ p j % 20 < n ∧ (nu (40 * k + j)).toInt32 = nI (p j)) (K : Int32 → Option (Int32 × Int32)) :
    ∀ r j F, j + r = i → r < F → fX8_together_166 (nI k) (nI S) (nI i) nu K F 1 (nI j) = K (bI (!anyF (fun j => S.testBit j && crP p i j) j r)) := by
  intro r
  induction r with
  | zero =>
    intro j F hj hF
    obtain ⟨F, rfl⟩ : ∃ m, F = m + 1 := ⟨F - 1, by omega⟩
    rw [fX8_together_166, if_pos (ile (by omega) (by omega))]; rfl
  | succ r ih =>
    intro j F hj hF
    obtain ⟨F, rfl⟩ : ∃ m, F = m + 1 := ⟨F - 1, by omega⟩
    have q1 := hp i (by omega)
    have q2 := hp j (by omega)
    rw [fX8_together_166, if_neg (inle (by omega) (by omega)), if_neg (show ¬ (1 : Int32) = 0 by decide), bit0_nI (by omega) (by omega), areCrossed8 hn hk (by omega) (by omega) q1.2.2 q2.2.2 ⟨q1.1, q1.2.1⟩ ⟨q2.1, q2.2.1⟩, bd1_some, bI_0', nI_inc, ih _ _ (by omega) (by omega), anyF]
    have hX : crP p i j = crossN (p i / 20) (p i % 20) (p j / 20) (p j % 20) := rfl
    rw [← hX]
    cases hb : S.testBit j with
    | false => simp
    | true =>
      cases hx : crP p i j with
      | false => simp
      | true =>
        simp only [if_true, Bool.true_and, Bool.true_or, Bool.not_true]
        cases r with
        | zero =>
          obtain ⟨F, rfl⟩ : ∃ m, F = m + 1 := ⟨F - 1, by omega⟩
          rw [fX8_together_166, if_pos (ile (by omega) (by omega))]; rfl
        | succ r =>
          obtain ⟨F, rfl⟩ : ∃ m, F = m + 1 := ⟨F - 1, by omega⟩
          rw [fX8_together_166, if_neg (inle (by omega) (by omega)), if_pos rfl]; rfl
theorem tog_i {A : Nat → Int32} {B p : Nat → Nat} (hM : MB A 0 B) (hB : WF B) {k c S : Nat} {nu : Nat → Int64} (hk : k < 4) (hc : c ≤ 12) (hS : S < 4096) (hp : ∀ j, j < c → p j / 20 < p j % 20 ∧ p j % 20 < B 0 ∧ (nu (40 * k + j)).toInt32 = nI (p j)) (K : Int32 → Int32 → Option (Int32 × Int32)) :
    ∀ r i F s, i + r = c → r < F → ∃ s' b, fX8_together_98 (nI k) (nI c) (nI S) A nu K F 1 (nI s) (nI i) = K (bI b) (nI s') ∧ (b = true ↔ ∀ i' j, i ≤ i' → i' < c → j < i' → S.testBit i' = true → S.testBit j = true → crP p i' j = false) ∧ (b = true → s' = s + lngS (lnP B p) S i r) := by
  have h12 := hB.1
  intro r
  induction r with
  | zero =>
    intro i F s hi hF
    obtain ⟨F, rfl⟩ : ∃ m, F = m + 1 := ⟨F - 1, by omega⟩
    exact ⟨s, true, by rw [fX8_together_98, if_pos (ile (by omega) (by omega))]; rfl, ⟨fun _ i' j h1 h2 => by omega, fun _ => rfl⟩, fun _ => rfl⟩
  | succ r ih =>
    intro i F s hi hF
    obtain ⟨F, rfl⟩ : ∃ m, F = m + 1 := ⟨F - 1, by omega⟩
    have q1 := hp i (by omega)
    have d1 : nI (p i) / 20 = nI (p i / 20) := by rw [lit 20, pk_div (by omega) (by decide) (by decide)]
    have d2 : nI (p i) - nI (p i / 20) * 20 = nI (p i % 20) := by rw [← d1, lit 20, pk_rem (by omega) (by decide) (by decide)]
    rw [fX8_together_98, if_neg (inle (by omega) (by omega)), if_neg (show ¬ (1 : Int32) = 0 by decide), bit0_nI (by omega) (by omega), row_at (c := 0) hk, rdL_nI (by omega) (by decide), rdL_nI (by omega) (by decide), q1.2.2, d1, d2, len8 hM hB (by omega) q1.2.1, bd1_some, bnd_e, nI_add, nI_inc]
    have el : lngS (lnP B p) S i (r + 1) = (if S.testBit i then lnP B p i else 0) + lngS (lnP B p) S (i + 1) r := rfl
    rw [el]
    cases hb : S.testBit i with
    | false =>
      obtain ⟨s', b, k1, k2, k3⟩ := ih (i + 1) F s (by omega) (by omega)
      refine ⟨s', b, k1, k2.trans ⟨fun h i' j h1 h2 h3 h4 h5 => ?_, fun h i' j h1 h2 h3 h4 h5 => h i' j (by omega) h2 h3 h4 h5⟩, fun h => by rw [k3 h]; simp⟩
      by_cases q : i' = i
      · subst q; rw [hb] at h4; exact absurd h4 (by decide)
      · exact h i' j (by omega) h2 h3 h4 h5
    | true =>
      rw [if_pos rfl]
      have tj := tog_j h12 hk (show i < 12 by omega) hS (fun j hj => hp j (by omega)) (fun (w_33 : Int32) => fX8_together_98 (nI k) (nI c) (nI S) A nu K F w_33 (nI (s + lenN B (p i / 20) (p i % 20))) (nI (i + 1))) i 0 FU (by omega) (FU_big (by omega))
      replace tj : fX8_together_166 (nI k) (nI S) (nI i) nu (fun (w_33 : Int32) => fX8_together_98 (nI k) (nI c) (nI S) A nu K F w_33 (nI (s + lenN B (p i / 20) (p i % 20))) (nI (i + 1))) FU 1 0 = _ := tj
      rw [tj]
      have hany : (anyF (fun j => S.testBit j && crP p i j) 0 i = true) ↔ ∃ j, j < i ∧ S.testBit j = true ∧ crP p i j = true := by
        rw [anyF_iff]
        constructor
        · rintro ⟨j, _, h2, h3⟩; rw [Bool.and_eq_true] at h3; exact ⟨j, by omega, h3.1, h3.2⟩
        · rintro ⟨j, h2, h3, h4⟩; exact ⟨j, by omega, by omega, by rw [h3, h4]; rfl⟩
      cases ha : anyF (fun j => S.testBit j && crP p i j) 0 i with
      | true =>
        obtain ⟨j, g1, g2, g3⟩ := hany.mp ha
        refine ⟨s + lenN B (p i / 20) (p i % 20), false, ?_, ⟨fun h => absurd h (by decide), fun h => ?_⟩, fun h => absurd h (by decide)⟩
        · obtain ⟨F, rfl⟩ : ∃ m, F = m + 1 := ⟨F - 1, by omega⟩
          show fX8_together_98 (nI k) (nI c) (nI S) A nu K (F + 1) 0 _ _ = K 0 _
          by_cases q : c ≤ i + 1
          · rw [fX8_together_98, if_pos (ile q (by omega))]
          · rw [fX8_together_98, if_neg (inle (by omega) (by omega)), if_pos rfl]
        · have := h i j (Nat.le_refl _) (by omega) g1 hb g2
          rw [g3] at this; exact absurd this (by decide)
      | false =>
        obtain ⟨s', b, k1, k2, k3⟩ := ih (i + 1) F (s + lenN B (p i / 20) (p i % 20)) (by omega) (by omega)
        refine ⟨s', b, k1, k2.trans ⟨fun h i' j h1 h2 h3 h4 h5 => ?_, fun h i' j h1 h2 h3 h4 h5 => h i' j (by omega) h2 h3 h4 h5⟩, fun h => ?_⟩
        · by_cases q : i' = i
          · subst q
            cases hx : crP p i' j with
            | false => rfl
            | true => rw [hany.mpr ⟨j, h3, h5, hx⟩] at ha; exact absurd ha (by decide)
          · exact h i' j (by omega) h2 h3 h4 h5
        · rw [k3 h, if_pos rfl, Nat.add_assoc]; rfl
theorem tog_set {A : Nat → Int32} {B p : Nat → Nat} (hM : MB A 0 B) (hB : WF B) {k c : Nat} {nu : Nat → Int64} (hk : k < 4) (hc : c ≤ 12) (hp : ∀ j, j < c → p j / 20 < p j % 20 ∧ p j % 20 < B 0 ∧ (nu (40 * k + j)).toInt32 = nI (p j)) (K : Int32 → Int32 → Option (Int32 × Int32)) :
    ∀ r s F S, s + r = 2 ^ c → 1 ≤ s → r < F → S < s → indS (crP p) c S → (∀ T, T < s → indS (crP p) c T → RK (lnP B p) c S ≤ RK (lnP B p) c T) → ∃ S', fX8_together_81 (nI k) (nI c) A nu K F (nI S) (nI (lngS (lnP B p) S 0 c)) (nI s) = K (nI S') (nI (lngS (lnP B p) S' 0 c)) ∧ S' < 2 ^ c ∧ indS (crP p) c S' ∧ ∀ T, T < 2 ^ c → indS (crP p) c T → RK (lnP B p) c S' ≤ RK (lnP B p) c T := by
  have h12 := hB.1
  have pw := pow12 hc
  have hL : ∀ j, j < c → lnP B p j ≤ 36 := fun j hj => by
    have := hp j hj
    exact lenN_le hB (by omega) (by omega)
  intro r
  induction r with
  | zero =>
    intro s F S hs h1 hF hSs hi hb
    obtain ⟨F, rfl⟩ : ∃ m, F = m + 1 := ⟨F - 1, by omega⟩
    refine ⟨S, by rw [fX8_together_81, sh1 (by omega), if_pos (ile (by omega) (by omega))], by omega, hi, fun T hT => hb T (by omega)⟩
  | succ r ih =>
    intro s F S hs h1 hF hSs hi hb
    obtain ⟨F, rfl⟩ : ∃ m, F = m + 1 := ⟨F - 1, by omega⟩
    have a1 := lngS_le (S := S) hc hL 0 c (by omega)
    have a2 := lngS_le (S := s) hc hL 0 c (by omega)
    have a3 : cntS S 0 c ≤ c := cntF_le _ _ _
    have a4 : cntS s 0 c ≤ c := cntF_le _ _ _
    have b1 : fX8_bitsOf (nI s) = some (nI (cntS s 0 c)) := by rw [bits8 (by omega)]; exact congrArg (fun x => some (nI x)) (cntS_out hc (by omega))
    have b2 : fX8_bitsOf (nI S) = some (nI (cntS S 0 c)) := by rw [bits8 (by omega)]; exact congrArg (fun x => some (nI x)) (cntS_out hc (by omega))
    have er1 : RK (lnP B p) c s = (12 - cntS s 0 c) * 4096000 + lngS (lnP B p) s 0 c * 4096 + s := rfl
    have er2 : RK (lnP B p) c S = (12 - cntS S 0 c) * 4096000 + lngS (lnP B p) S 0 c * 4096 + S := rfl
    obtain ⟨t, b, k1, k2, k3⟩ := tog_i hM hB hk hc (show s < 4096 by omega) hp (fun (w_34 : Int32) (w_35 : Int32) => if w_34 = 0 then fX8_together_81 (nI k) (nI c) A nu K F (nI S) (nI (lngS (lnP B p) S 0 c)) (nI s + 1) else bd1 (fX8_bitsOf (nI s)) (fun r_37 => bd1 (fX8_bitsOf (nI S)) (fun r_39 => if r_37 < r_39 then fX8_together_81 (nI k) (nI c) A nu K F (nI S) (nI (lngS (lnP B p) S 0 c)) (nI s + 1) else bd1 (fX8_bitsOf (nI s)) (fun r_42 => bd1 (fX8_bitsOf (nI S)) (fun r_44 => if r_42 = r_44 then if w_35 < nI (lngS (lnP B p) S 0 c) then fX8_together_81 (nI k) (nI c) A nu K F (nI s) w_35 (nI s + 1) else fX8_together_81 (nI k) (nI c) A nu K F (nI S) (nI (lngS (lnP B p) S 0 c)) (nI s + 1) else fX8_together_81 (nI k) (nI c) A nu K F (nI s) w_35 (nI s + 1)))))) c 0 FU 0 (by omega) (FU_big (by omega))
    replace k1 : fX8_together_98 (nI k) (nI c) (nI s) A nu (fun (w_34 : Int32) (w_35 : Int32) => if w_34 = 0 then fX8_together_81 (nI k) (nI c) A nu K F (nI S) (nI (lngS (lnP B p) S 0 c)) (nI s + 1) else bd1 (fX8_bitsOf (nI s)) (fun r_37 => bd1 (fX8_bitsOf (nI S)) (fun r_39 => if r_37 < r_39 then fX8_together_81 (nI k) (nI c) A nu K F (nI S) (nI (lngS (lnP B p) S 0 c)) (nI s + 1) else bd1 (fX8_bitsOf (nI s)) (fun r_42 => bd1 (fX8_bitsOf (nI S)) (fun r_44 => if r_42 = r_44 then if w_35 < nI (lngS (lnP B p) S 0 c) then fX8_together_81 (nI k) (nI c) A nu K F (nI s) w_35 (nI s + 1) else fX8_together_81 (nI k) (nI c) A nu K F (nI S) (nI (lngS (lnP B p) S 0 c)) (nI s + 1) else fX8_together_81 (nI k) (nI c) A nu K F (nI s) w_35 (nI s + 1)))))) FU 1 0 0 = _ := k1
    rw [fX8_together_81, sh1 (by omega), if_neg (inle (by omega) (by omega)), k1, b1, b2]
    simp only [bd1_some]
    rw [nI_inc]
    have hind : (b = true) ↔ indS (crP p) c s := k2.trans ⟨fun h i j h1 h2 h3 h4 => h i j (by omega) h1 h2 h3 h4, fun h i j _ h1 h2 h3 h4 => h i j h1 h2 h3 h4⟩
    have keep : (indS (crP p) c s → RK (lnP B p) c S ≤ RK (lnP B p) c s) → ∃ S', fX8_together_81 (nI k) (nI c) A nu K F (nI S) (nI (lngS (lnP B p) S 0 c)) (nI (s + 1)) = K (nI S') (nI (lngS (lnP B p) S' 0 c)) ∧ S' < 2 ^ c ∧ indS (crP p) c S' ∧ ∀ T, T < 2 ^ c → indS (crP p) c T → RK (lnP B p) c S' ≤ RK (lnP B p) c T := fun hle => ih (s + 1) F S (by omega) (by omega) (by omega) (by omega) hi (fun T hT hTi => by
      by_cases q : T = s
      · subst q; exact hle hTi
      · exact hb T (by omega) hTi)
    cases b with
    | false =>
      rw [if_pos (show bI false = 0 by decide)]
      exact keep (fun h => absurd (hind.mpr h) (by decide))
    | true =>
      have hsi := hind.mp rfl
      have htl : t = lngS (lnP B p) s 0 c := by have := k3 rfl; omega
      have take : RK (lnP B p) c s ≤ RK (lnP B p) c S → ∃ S', fX8_together_81 (nI k) (nI c) A nu K F (nI s) (nI (lngS (lnP B p) s 0 c)) (nI (s + 1)) = K (nI S') (nI (lngS (lnP B p) S' 0 c)) ∧ S' < 2 ^ c ∧ indS (crP p) c S' ∧ ∀ T, T < 2 ^ c → indS (crP p) c T → RK (lnP B p) c S' ≤ RK (lnP B p) c T := fun hle => ih (s + 1) F s (by omega) (by omega) (by omega) (by omega) hsi (fun T hT hTi => by
        by_cases q : T = s
        · rw [q]; exact Nat.le_refl _
        · exact Nat.le_trans hle (hb T (by omega) hTi))
      rw [if_neg (show ¬ bI true = 0 by decide), htl]
      by_cases q1 : cntS s 0 c < cntS S 0 c
      · rw [if_pos (ilt q1 (by omega))]
        exact keep (fun _ => by clear take keep ih k2; omega)
      · rw [if_neg (inlt (by omega) (by omega))]
        by_cases q2 : cntS s 0 c = cntS S 0 c
        · rw [if_pos (by rw [q2])]
          by_cases q3 : lngS (lnP B p) s 0 c < lngS (lnP B p) S 0 c
          · rw [if_pos (ilt q3 (by omega))]
            exact take (by clear take keep ih k2; omega)
          · rw [if_neg (inlt (by omega) (by omega))]
            exact keep (fun _ => by clear take keep ih k2; omega)
        · rw [if_neg (ine q2 (by omega) (by omega))]
          exact take (by clear take keep ih k2; omega)
theorem st_together : Step_together Rel0 := by
  intro w0 w1 w2 w3 w4 w5 w6 w7 w8 w9 w10 w11 xt xn xf xp rs rz rv made im all has mt mn mf mp so ma nu h0 h1' h2' h3' h4' h5' th v u i ei hR
  obtain ⟨⟨B, hB, hM, hC⟩, hT, hF, hRw, hI⟩ := id hR
  obtain ⟨e0, -⟩ := id hC
  dsimp only at e0
  subst e0
  have h12 := hB.1
  unfold fX7_together fX8_together
  rcases row_cases v with ⟨h1, h2⟩ | ⟨k, hk, rfl, h1, h2⟩
  · exact ⟨-2, h0, h1', h2', h3', h4', h5', 0, by rw [h1]; rfl, by rw [h2]; rfl, hR⟩
  · rw [rix_nI hk] at ei
    subst ei
    rw [h1, h2, bd1_some, bd1_some, if_neg (show ¬ (1 : Int32) = 0 by decide), show (2 : Int64) = lN 2 from rfl]
    rcases within_rng u (show 2 < 2 ^ 31 by decide) with ⟨g1, g2⟩ | ⟨g1, g2, g3⟩ | ⟨j, hj, rfl, r1, r2, r3⟩
    · exact ⟨-2, h0, h1', h2', h3', h4', h5', 0, by rw [if_pos g1], by rw [g2]; rfl, hR⟩
    · exact ⟨-2, h0, h1', h2', h3', h4', h5', 0, by rw [if_neg g1, if_neg (show ¬ u ≤ 2 from g2)], by rw [g3]; rfl, hR⟩
    · rw [if_neg (show ¬ (1 : Int32) = 0 by decide), if_neg r1, if_pos (show nI j ≤ 2 from r2), r3, bd1_some, if_neg (show ¬ (1 : Int32) = 0 by decide), rdI_nI hk (by decide)]
      rcases hRw i hk with ⟨z1, z2⟩ | ⟨c, q, z1, z2, z3, z4, z5, z6, z7⟩
      · refine ⟨-6, h0, h1', h2', h3', h4', h5', 0, ?_, by rw [z2]; rfl, hR⟩
        unfold fX7_pairsRefusal
        rw [refusal7 hk, z1]; rfl
      · rw [z3, z6, if_neg (m1_q z2), rdI_nI hk (by decide), z4]
        rcases pairs_cases hM hB z1 hk z4 z7 with ⟨p1, p2⟩ | ⟨p1, p2, p, hp⟩
        · rw [p1, p2]
          exact ⟨-3, h0, h1', h2', h3', h4', h5', 0, rfl, rfl, hR⟩
        · rw [p1, p2, bd1_some, bd1_some, if_pos rfl, if_neg (show ¬ (1 : Int32) = 0 by decide), ckI_nI hk (by decide), ckI_nI hk (by decide), lit 12]
          by_cases hc : c ≤ 12
          · obtain ⟨lens', crs', S, c1, c2, c3, c4⟩ := choose7 hB hc hp h0 h1' h2' h3' h4' h5'
            obtain ⟨T, d1, d2, d3, d4⟩ := tog_set hM hB (nu := nu) hk hc (fun j hj => ⟨(hp j hj).1, (hp j hj).2.1, by rw [← z7 j hj]; exact (hp j hj).2.2.2⟩) (fun (w_48 : Int32) (w_49 : Int32) => if nI j = 0 then bd1 (fX8_bitsOf w_48) (fun r_52 => some (r_52, (0 : Int32))) else if nI j = 1 then some (w_49, (0 : Int32)) else some (w_48, (0 : Int32))) (2 ^ c - 1) 1 FU 0 (by have := Nat.two_pow_pos c; omega) (by omega) (FU_big (by have := pow12 hc; omega)) (by omega) (fun i j _ _ h => by rw [Nat.zero_testBit] at h; exact absurd h (by decide)) (fun T hT _ => by rw [show T = 0 by omega]; exact Nat.le_refl _)
            have hz : lngS (lnP B p) 0 0 c = 0 := by
              unfold lngS
              have : ∀ k i, sumF (fun b => if Nat.testBit 0 b then lnP B p b else 0) i k = 0 := by
                intro k
                induction k with
                | zero => intro i; rfl
                | succ k ih => intro i; rw [sumF, ih, Nat.zero_testBit]; rfl
              exact this c 0
            rw [hz] at d1
            have hL : ∀ j, j < c → lnP B p j ≤ 36 := fun j hj => by
              have := hp j hj
              exact lenN_le hB (by omega) (by omega)
            obtain rfl : T = S := RK_inj hc hL d2 c2 (Nat.le_antisymm (d4 S c2 c3) (c4 T d2 d3))
            replace d1 : fX8_together_81 (nI i) (nI c) all nu (fun (w_48 : Int32) (w_49 : Int32) => if nI j = 0 then bd1 (fX8_bitsOf w_48) (fun r_52 => some (r_52, (0 : Int32))) else if nI j = 1 then some (w_49, (0 : Int32)) else some (w_48, (0 : Int32))) FU 0 0 1 = _ := d1
            have pw := pow12 hc
            have b1 : fX8_bitsOf (nI T) = some (nI (cntS T 0 c)) := by rw [bits8 (by omega)]; exact congrArg (fun x => some (nI x)) (cntS_out hc d2)
            rw [if_pos (ile hc (by decide)), if_pos (ile hc (by decide)), c1, bd6_some, d1, b1, bd1_some]
            by_cases q0 : nI j = 0
            · rw [if_pos q0, if_pos q0]
              exact ⟨_, lens', crs', nI c, _, _, _, 0, rfl, rfl, hR⟩
            · rw [if_neg q0, if_neg q0]
              by_cases q1 : nI j = 1
              · rw [if_pos q1, if_pos q1]
                exact ⟨_, lens', crs', nI c, _, _, _, 0, rfl, rfl, hR⟩
              · rw [if_neg q1, if_neg q1]
                exact ⟨_, lens', crs', nI c, _, _, _, 0, rfl, rfl, hR⟩
          · rw [if_neg (inle (by omega) (by omega)), if_neg (inle (by omega) (by omega))]
            exact ⟨-4, h0, h1', h2', h3', h4', h5', 0, rfl, rfl, hR⟩
