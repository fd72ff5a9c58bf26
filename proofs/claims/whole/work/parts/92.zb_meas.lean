-- uses:
/-! the class measures its ways -/
def NE (O : Nat → Prop) (r : Nat → Nat) (i : Nat) (l2 l3 : Int32) : Prop :=
  (l2 = -1 ∧ l3 = nI 16777216 ∧ ∀ j, j < i → O j → 16777216 ≤ r j) ∨ ∃ w, w < i ∧ O w ∧ l2 = nI w ∧ l3 = nI (r w) ∧ r w < 16777216 ∧ ∀ j, j < i → O j → r w ≤ r j
theorem nearest_loop {O : Nat → Prop} {r : Nat → Nat} {rest : Nat → Int32} {n x : Nat} (hn : n ≤ 12) (hx : Bits x 12 O) (hr : ∀ v, v < 12 → rest v = nI (r v) ∧ r v ≤ 16777216) : ∀ k i F l2 l3, i + k = n → k < F → NE O r i l2 l3 → ∃ l2' l3', fX6_nearest_8 (nI x) (nI n) rest (fun (w : Int32) => some w) F l2 l3 (nI i) = some l2' ∧ NE O r n l2' l3' := by
  intro k
  induction k with
  | zero =>
    intro i F l2 l3 hi hF hN
    obtain ⟨F, rfl⟩ : ∃ m, F = m + 1 := ⟨F - 1, by omega⟩
    obtain rfl : i = n := by omega
    exact ⟨l2, l3, by rw [fX6_nearest_8, if_pos (ile (by omega) (by omega))], hN⟩
  | succ k ih =>
    intro i F l2 l3 hi hF hN
    obtain ⟨F, rfl⟩ : ∃ m, F = m + 1 := ⟨F - 1, by omega⟩
    have : Decidable (O i) := Classical.propDecidable _
    obtain ⟨hr1, hr2⟩ := hr i (by omega)
    rw [fX6_nearest_8, if_neg (inle (by omega) (by omega)), bit_if hx (by omega) (by omega), rdI_nI (by omega) (by decide), rdI_nI (by omega) (by decide), hr1, nI_inc]
    by_cases hO : O i
    · rw [if_pos hO]
      rcases hN with ⟨e1, e2, h3⟩ | ⟨w, w1, w2, e1, e2, w3, w4⟩
      · subst e1 e2
        by_cases hc : 16777216 ≤ r i
        · rw [if_pos (ile hc (by omega))]
          refine ih (i + 1) F _ _ (by omega) (by omega) (Or.inl ⟨rfl, rfl, fun j hj hOj => ?_⟩)
          by_cases e : j = i
          · rw [e]; exact hc
          · exact h3 j (by omega) hOj
        · rw [if_neg (inle (by omega) (by omega))]
          refine ih (i + 1) F _ _ (by omega) (by omega) (Or.inr ⟨i, by omega, hO, rfl, rfl, by omega, fun j hj hOj => ?_⟩)
          by_cases e : j = i
          · rw [e]; exact Nat.le_refl _
          · have := h3 j (by omega) hOj; omega
      · subst e1 e2
        by_cases hc : r w ≤ r i
        · rw [if_pos (ile hc (by omega))]
          refine ih (i + 1) F _ _ (by omega) (by omega) (Or.inr ⟨w, by omega, w2, rfl, rfl, w3, fun j hj hOj => ?_⟩)
          by_cases e : j = i
          · rw [e]; exact hc
          · exact w4 j (by omega) hOj
        · rw [if_neg (inle (by omega) (by omega))]
          refine ih (i + 1) F _ _ (by omega) (by omega) (Or.inr ⟨i, by omega, hO, rfl, rfl, by omega, fun j hj hOj => ?_⟩)
          by_cases e : j = i
          · rw [e]; exact Nat.le_refl _
          · have := w4 j (by omega) hOj; omega
    · rw [if_neg hO]
      refine ih (i + 1) F l2 l3 (by omega) (by omega) ?_
      rcases hN with ⟨e1, e2, h3⟩ | ⟨w, w1, w2, e1, e2, w3, w4⟩
      · refine Or.inl ⟨e1, e2, fun j hj hOj => ?_⟩
        by_cases e : j = i
        · rw [e] at hOj; exact absurd hOj hO
        · exact h3 j (by omega) hOj
      · refine Or.inr ⟨w, by omega, w2, e1, e2, w3, fun j hj hOj => ?_⟩
        by_cases e : j = i
        · rw [e] at hOj; exact absurd hOj hO
        · exact w4 j (by omega) hOj
theorem nearest7 {O : Nat → Prop} {r : Nat → Nat} {rest : Nat → Int32} {n x : Nat} (hn : n ≤ 12) (hx : Bits x 12 O) (hr : ∀ v, v < 12 → rest v = nI (r v) ∧ r v ≤ 16777216) : ∃ l2 l3, fX6_nearest (nI n) rest (nI x) = some l2 ∧ NE O r n l2 l3 := by
  unfold fX6_nearest
  exact nearest_loop hn hx hr n 0 FU (-1) (nI 16777216) (by omega) (FU_big (by omega)) (Or.inl ⟨rfl, rfl, fun j hj => absurd hj (by omega)⟩)
noncomputable def shN (S : Nat → Prop) (c : Nat → Nat → Nat) (r : Nat → Nat) (w i v : Nat) : Nat := if dB (v < i ∧ S v) then min (r v) (r w + (16 * c v w + 1)) else r v
theorem shorten_loop {S : Nat → Prop} {c : Nat → Nat → Nat} {p : Nat → Nat → Prop} {r : Nat → Nat} {prices : Nat → Int32} {n x w : Nat} (hn : n ≤ 12) (hx : Bits x 12 S) (hw : w < 12) (hS : ∀ v, S v → v ≠ w ∧ p v w) (hpr : PR prices p c) (hc : ∀ v, p v w → c v w ≤ 135) (hrw : r w ≤ 30000) (hr : ∀ v, v < 12 → r v ≤ 16777216) : ∀ k i F rest, i + k = n → k < F → (∀ v, v < 12 → rest v = nI (shN S c r w i v)) → ∃ rest', fX6_shorten_2 (nI w) (nI x) (nI n) prices (fun (t : Nat → Int32) => some t) F (nI i) rest = some rest' ∧ ∀ v, v < 12 → rest' v = nI (shN S c r w n v) := by
  intro k
  induction k with
  | zero =>
    intro i F rest hi hF hR
    obtain ⟨F, rfl⟩ : ∃ m, F = m + 1 := ⟨F - 1, by omega⟩
    obtain rfl : i = n := by omega
    exact ⟨rest, by rw [fX6_shorten_2, if_pos (ile (by omega) (by omega))], hR⟩
  | succ k ih =>
    intro i F rest hi hF hR
    obtain ⟨F, rfl⟩ : ∃ m, F = m + 1 := ⟨F - 1, by omega⟩
    have : Decidable (S i) := Classical.propDecidable _
    have hri := hr i (by omega)
    have same : ∀ v, v ≠ i ∨ ¬ S v → shN S c r w (i + 1) v = shN S c r w i v := by
      intro v hv
      unfold shN
      have : dB (v < i + 1 ∧ S v) = dB (v < i ∧ S v) := by
        rw [Bool.eq_iff_iff, dB_iff, dB_iff]
        constructor
        · rintro ⟨h1, h2⟩
          refine ⟨?_, h2⟩
          rcases hv with h | h
          · omega
          · exact absurd h2 h
        · rintro ⟨h1, h2⟩; exact ⟨by omega, h2⟩
      rw [this]
    rw [fX6_shorten_2, if_neg (inle (by omega) (by omega)), bit_if hx (by omega) (by omega)]
    by_cases hSi : S i
    · obtain ⟨s1, s2⟩ := hS i hSi
      have hci := hc i s2
      have e1 : rest i = nI (r i) := by
        rw [hR i (by omega)]; unfold shN; rw [dB_f (fun h => by omega)]; rfl
      have e2 : rest w = nI (r w) := by
        rw [hR w hw]; unfold shN; rw [dB_f (fun h => (hS w h.2).1 rfl)]; rfl
      have e3 : fX6_priceOf prices (nI i) (nI w) = some (nI (16 * c i w + 1)) := by
        unfold fX6_priceOf
        rw [show (12 * nI i + nI w : Int32) = nI (12 * i + w) by rw [lit 12, pk_mul, nI_add], rdI_nI (by omega) (by decide), hpr i w s2]
      have e4 : (if nI (r w) + nI (16 * c i w + 1) < nI (r i) then nI (r w) + nI (16 * c i w + 1) else nI (r i)) = nI (shN S c r w (i + 1) i) := by
        unfold shN
        rw [dB_t ⟨by omega, hSi⟩, nI_add, if_pos rfl]
        by_cases q : r w + (16 * c i w + 1) < r i
        · rw [if_pos (ilt q (by omega)), Nat.min_eq_right (by omega)]
        · rw [if_neg (inlt (by omega) (by omega)), Nat.min_eq_left (by omega)]
      rw [if_pos hSi, rdI_nI (by omega) (by decide), rdI_nI hw (by decide), e1, e2, e3, bd1_some, bnd_e, e4, wrI_nI (by omega) (by decide), nI_inc]
      refine ih (i + 1) F _ (by omega) (by omega) (fun v hv => ?_)
      unfold upd
      by_cases q : v = i
      · rw [if_pos q, q]
      · rw [if_neg q, same v (Or.inl q)]; exact hR v hv
    · rw [if_neg hSi, nI_inc]
      refine ih (i + 1) F rest (by omega) (by omega) (fun v hv => ?_)
      by_cases q : v = i
      · rw [same v (Or.inr (by rw [q]; exact hSi))]; exact hR v hv
      · rw [same v (Or.inl q)]; exact hR v hv
def DJ (p : Nat → Nat → Prop) (c : Nat → Nat → Nat) (t n : Nat) (pst : Nat → Prop) (i : Nat) (O : Nat → Prop) (r : Nat → Nat) : Prop :=
  (∀ v, O v → v < n ∧ ¬ pst v) ∧
  (∀ v, v < 12 → r v = 16777216 ∨ ∃ h L, wl (qp p pst) c t h L v ∧ r v = 16 * L + h ∧ h ≤ i ∧ r v ≤ 2161 * i) ∧
  r t = 0 ∧ (∀ v, v < 12 → r v ≠ 16777216 → v < n ∧ ¬ pst v) ∧
  (∀ v u, v < n → ¬ pst v → ¬ O v → qp p pst u v → r u ≤ r v + (16 * c u v + 1)) ∧
  (∀ v u, v < n → ¬ pst v → ¬ O v → O u → r v ≤ r u) ∧
  (∀ v, v < n → ¬ pst v → ¬ O v → r v ≠ 16777216)
theorem DJ_step {p : Nat → Nat → Prop} {c : Nat → Nat → Nat} {t n : Nat} {pst : Nat → Prop} {i w : Nat} {O : Nat → Prop} {r : Nat → Nat} (hn : n ≤ 12) (hp : ∀ u v, p u v → u < n ∧ v < n ∧ u ≠ v ∧ p v u) (hc : ∀ u v, p u v → c u v ≤ 135) (hD : DJ p c t n pst i O r) (hO : O w) (hwF : r w < 16777216) (hmin : ∀ v, O v → r w ≤ r v) : DJ p c t n pst (i + 1) (fun v => O v ∧ ¬ v = w) (fun v => shN (fun v => p w v ∧ O v ∧ ¬ v = w) c r w n v) := by
  obtain ⟨d1, d2, d3, d4, d5, d6, d7⟩ := hD
  have hwn := (d1 w hO).1
  have hA : ∀ v, shN (fun v => p w v ∧ O v ∧ ¬ v = w) c r w n v ≤ r v := by
    intro v; unfold shN; split
    · exact Nat.min_le_left _ _
    · exact Nat.le_refl _
  have hBc : ∀ v, ¬ (O v ∧ ¬ v = w) → shN (fun v => p w v ∧ O v ∧ ¬ v = w) c r w n v = r v := by
    intro v hv; unfold shN; rw [dB_f (fun h => hv h.2.2)]; rfl
  have hCc : ∀ v, shN (fun v => p w v ∧ O v ∧ ¬ v = w) c r w n v = r v ∨ (p w v ∧ O v ∧ ¬ v = w ∧ shN (fun v => p w v ∧ O v ∧ ¬ v = w) c r w n v = r w + (16 * c v w + 1)) := by
    intro v
    unfold shN
    by_cases q : v < n ∧ p w v ∧ O v ∧ ¬ v = w
    · rw [dB_t q, if_pos rfl]
      by_cases m : r v ≤ r w + (16 * c v w + 1)
      · exact Or.inl (Nat.min_eq_left m)
      · exact Or.inr ⟨q.2.1, q.2.2.1, q.2.2.2, Nat.min_eq_right (by omega)⟩
    · rw [dB_f q]; exact Or.inl rfl
  have hDd : ∀ v, p w v → O v → ¬ v = w → shN (fun v => p w v ∧ O v ∧ ¬ v = w) c r w n v ≤ r w + (16 * c v w + 1) := by
    intro v h1 h2 h3
    unfold shN
    rw [dB_t ⟨(d1 v h2).1, h1, h2, h3⟩, if_pos rfl]
    exact Nat.min_le_right _ _
  refine ⟨fun v hv => d1 v hv.1, fun v hv => ?_, ?_, fun v hv hf => ?_, fun v u h1 h2 h3 hq => ?_, fun v u h1 h2 h3 hu => ?_, fun v h1 h2 h3 => ?_⟩
  · rcases hCc v with e | ⟨c1, c2, c3, c4⟩
    · rcases d2 v hv with e2 | ⟨h, L, g1, g2, g3, g4⟩
      · exact Or.inl (e.trans e2)
      · exact Or.inr ⟨h, L, g1, e.trans g2, by omega, by show shN _ c r w n v ≤ _; omega⟩
    · rcases d2 w (by omega) with e2 | ⟨h, L, g1, g2, g3, g4⟩
      · omega
      · have hp2 := (hp w v c1).2.2.2
        have := hc v w hp2
        exact Or.inr ⟨h + 1, L + c v w, ⟨w, L, ⟨hp2, (d1 v c2).2⟩, g1, rfl⟩, by show shN _ c r w n v = _; omega, by omega, by show shN _ c r w n v ≤ _; omega⟩
  · have := hA t; show shN _ c r w n t = 0; omega
  · rcases hCc v with e | ⟨c1, c2, c3, c4⟩
    · exact d4 v hv (fun h => hf (e.trans h))
    · exact d1 v c2
  · show shN _ c r w n u ≤ shN _ c r w n v + _
    rw [hBc v h3]
    by_cases e : v = w
    · subst e
      by_cases q : O u ∧ ¬ u = v
      · exact hDd u (hp u v hq.1).2.2.2 q.1 q.2
      · have := hA u
        by_cases q2 : u = v
        · subst q2; omega
        · have := d6 u v (hp u v hq.1).1 hq.2 (fun h => q ⟨h, q2⟩) hO
          omega
    · have h3' : ¬ O v := fun h => h3 ⟨h, e⟩
      have := hA u
      have := d5 v u h1 h2 h3' hq
      omega
  · show shN _ c r w n v ≤ shN _ c r w n u
    rw [hBc v h3]
    by_cases e : v = w
    · subst e
      have := hmin u hu.1
      rcases hCc u with e2 | ⟨c1, c2, c3, c4⟩ <;> omega
    · have h3' : ¬ O v := fun h => h3 ⟨h, e⟩
      have := d6 v u h1 h2 h3' hu.1
      have := d6 v w h1 h2 h3' hO
      rcases hCc u with e2 | ⟨c1, c2, c3, c4⟩ <;> omega
  · show shN _ c r w n v ≠ _
    rw [hBc v h3]
    by_cases e : v = w
    · subst e; omega
    · exact d7 v h1 h2 (fun h => h3 ⟨h, e⟩)
theorem measure_loop {p : Nat → Nat → Prop} {c : Nat → Nat → Nat} {t n : Nat} {pst : Nat → Prop} {links prices : Nat → Int32} (hn : n ≤ 12) (hl : LK links p) (hpr : PR prices p c) (hp : ∀ u v, p u v → u < n ∧ v < n ∧ u ≠ v ∧ p v u) (hc : ∀ u v, p u v → c u v ≤ 135) :
    ∀ k i F x rest O r, i + k = n → k < F → Bits x 12 O → (∀ v, v < 12 → rest v = nI (r v) ∧ r v ≤ 16777216) → DJ p c t n pst i O r → fb_ct (fun k => x.testBit k) 12 + i ≤ n →
    ∃ rest' r', fX6_measure_32 (nI n) links prices (fun (t : Nat → Int32) => some t) F (nI x) (nI i) rest = some rest' ∧ (∀ v, v < 12 → rest' v = nI (r' v)) ∧ ∃ i' O', i' ≤ n ∧ DJ p c t n pst i' O' r' ∧ ∀ v, O' v → r' v = 16777216 := by
  intro k
  induction k with
  | zero =>
    intro i F x rest O r hi hF hx hr hD hct
    obtain ⟨F, rfl⟩ : ∃ m, F = m + 1 := ⟨F - 1, by omega⟩
    obtain rfl : i = n := by omega
    refine ⟨rest, r, by rw [fX6_measure_32, if_pos (ile (by omega) (by omega))], fun v hv => (hr v hv).1, i, O, Nat.le_refl _, hD, fun v hv => ?_⟩
    have : 0 < fb_ct (fun k => x.testBit k) 12 := fb_ct_pos.mpr ⟨v, hx.lt hv, (hx.2 v).mpr hv⟩
    omega
  | succ k ih =>
    intro i F x rest O r hi hF hx hr hD hct
    obtain ⟨F, rfl⟩ : ∃ m, F = m + 1 := ⟨F - 1, by omega⟩
    obtain ⟨l2, l3, e, hN⟩ := nearest7 hn hx hr
    rw [fX6_measure_32, if_neg (inle (by omega) (by omega)), e, bd1_some]
    rcases hN with ⟨e1, e2, h3⟩ | ⟨w, w1, w2, e1, e2, w3, w4⟩
    · subst e1
      refine ⟨rest, r, by rw [if_pos rfl], fun v hv => (hr v hv).1, i, O, by omega, hD, fun v hv => ?_⟩
      have h1 := (hD.1 v hv).1
      have := h3 v h1 hv
      have := (hr v (by omega)).2
      omega
    · subst e1
      obtain ⟨y, hy1, hy2⟩ := hl w (by omega)
      have b1 := hx.andnot (bits1 (show w < 12 by omega)) (by omega)
      have b2 := hy2.and b1
      have hrw : r w ≤ 30000 := by
        rcases hD.2.1 w (by omega) with q | ⟨_, _, _, _, _, q⟩ <;> omega
      obtain ⟨rest1, s1, s2⟩ := shorten_loop (r := r) (w := w) hn b2 (by omega) (fun v hv => ⟨hv.2.2, (hp w v hv.1).2.2.2⟩) hpr (fun v hv => hc v w hv) hrw (fun v hv => (hr v hv).2) n 0 FU rest (by omega) (FU_big (by omega)) (fun v hv => by
        rw [(hr v hv).1]; unfold shN; rw [dB_f (fun h => by omega)]; rfl)
      have s1' : fX6_shorten (nI n) prices rest (nI w) (nI (y &&& (x &&& (2 ^ w ^^^ (2 ^ 32 - 1))))) = some rest1 := by unfold fX6_shorten; exact s1
      rw [if_neg (m1_ne (by omega)), bnd_e, sh1 (by omega), not_nI, fa_and, rdI_nI (by omega) (by decide), hy1, fa_and, s1', bd1_some, nI_inc]
      have hD' := DJ_step hn hp hc hD w2 w3 (fun v hv => w4 v (hD.1 v hv).1 hv)
      refine ih (i + 1) F _ rest1 _ _ (by omega) (by omega) b1 (fun v hv => ⟨s2 v hv, ?_⟩) hD' ?_
      · rcases hD'.2.1 v hv with q | ⟨_, _, _, _, _, q⟩
        · exact Nat.le_of_eq q
        · exact Nat.le_trans q (by omega)
      · have := ct_lt (p := fun k => (x &&& (2 ^ w ^^^ (2 ^ 32 - 1))).testBit k) (q := fun k => x.testBit k) 12 (fun k _ hk => (hx.2 k).mpr ((b1.2 k).mp hk).1) ⟨w, by omega, (hx.2 w).mpr w2, by
          cases e3 : (x &&& (2 ^ w ^^^ (2 ^ 32 - 1))).testBit w with
          | false => rfl
          | true => exact absurd rfl ((b1.2 w).mp e3).2⟩
        omega
theorem measure7 {p : Nat → Nat → Prop} {c : Nat → Nat → Nat} {t n x : Nat} {pst : Nat → Prop} {links prices : Nat → Int32} (hn : n ≤ 12) (hl : LK links p) (hpr : PR prices p c) (hp : ∀ u v, p u v → u < n ∧ v < n ∧ u ≠ v ∧ p v u) (hc : ∀ u v, p u v → c u v ≤ 135) (ht : t < n) (hx : Bits x 12 pst) (hpt : ¬ pst t) (rest : Nat → Int32) :
    ∃ rest', fX6_measure (nI n) links prices rest (nI t) (nI x) = some rest' ∧ ∀ v, v < 12 → DS (qp p pst) c t v (dst (qp p pst) c t v) ∧ DB (dst (qp p pst) c t v) ∧ rest' v = encC (dst (qp p pst) c t v) := by
  unfold fX6_measure
  obtain ⟨r1, f1, f2, f3⟩ := fillI (show 12 < 2 ^ 31 by decide) rest (nI 16777216)
  have bn : Bits (2 ^ n - 1) n (fun v => v < n) := ⟨Nat.sub_lt (Nat.two_pow_pos n) (by decide), fun k => by rw [Nat.testBit_two_pow_sub_one, decide_eq_true_eq]⟩
  have bo := (bn.andnot hx (by omega)).mono hn
  have p2 : 1 ≤ 2 ^ n := Nat.two_pow_pos n
  rw [show (16777216 : Int32) = nI 16777216 from rfl, f1, bd1_some, wrI_nI (by omega) (by decide), bnd_e, sh1 (by omega), sub1 p2, not_nI, fa_and]
  have hinit : ∀ v, v < 12 → upd r1 t 0 v = nI (if v = t then 0 else 16777216) ∧ (if v = t then 0 else 16777216) ≤ 16777216 := by
    intro v hv
    unfold upd
    by_cases e : v = t
    · rw [if_pos e, if_pos e]; exact ⟨rfl, by omega⟩
    · rw [if_neg e, if_neg e, f2 v hv]; exact ⟨rfl, by omega⟩
  have hD : DJ p c t n pst 0 (fun v => v < n ∧ ¬ pst v) (fun v => if v = t then 0 else 16777216) := by
    refine ⟨fun v hv => hv, fun v hv => ?_, if_pos rfl, fun v hv hf => ?_, fun v u h1 h2 h3 => absurd ⟨h1, h2⟩ h3, fun v u h1 h2 h3 => absurd ⟨h1, h2⟩ h3, fun v h1 h2 h3 => absurd ⟨h1, h2⟩ h3⟩
    · by_cases e : v = t
      · subst e
        refine Or.inr ⟨0, 0, ⟨rfl, rfl⟩, ?_, by omega, ?_⟩
        · show (if v = v then 0 else 16777216) = _; rw [if_pos rfl]
        · show (if v = v then 0 else 16777216) ≤ _; rw [if_pos rfl]; omega
      · exact Or.inl (if_neg e)
    · by_cases e : v = t
      · subst e; exact ⟨ht, hpt⟩
      · exact absurd (if_neg e) hf
  have hct : fb_ct (fun k => ((2 ^ n - 1) &&& (x ^^^ (2 ^ 32 - 1))).testBit k) 12 + 0 ≤ n := by
    have g3 := ct_beyond (p := fun k => ((2 ^ n - 1) &&& (x ^^^ (2 ^ 32 - 1))).testBit k) (n := n) (fun k hk => by
      cases e2 : ((2 ^ n - 1) &&& (x ^^^ (2 ^ 32 - 1))).testBit k with
      | false => rfl
      | true => have := ((bo.2 k).mp e2).1; omega) (12 - n)
    rw [show n + (12 - n) = 12 by omega] at g3
    have g4 := fb_ct_le (fun k => ((2 ^ n - 1) &&& (x ^^^ (2 ^ 32 - 1))).testBit k) n
    omega
  obtain ⟨rest', r', g1, g2, i', O', g3, g4, g5⟩ := measure_loop hn hl hpr hp hc n 0 FU _ (upd r1 t 0) _ _ (by omega) (FU_big (by omega)) bo hinit hD hct
  obtain ⟨d1, d2, d3, d4, d5, d6, d7⟩ := g4
  have hfin : ∀ v, v < 12 → r' v ≠ 16777216 → ∃ h L, wl (qp p pst) c t h L v ∧ r' v = 16 * L + h ∧ h ≤ 12 ∧ r' v ≤ 25932 := by
    intro v hv hf
    rcases d2 v hv with q | ⟨h, L, a1, a2, a3, a4⟩
    · exact absurd q hf
    · exact ⟨h, L, a1, a2, by omega, by omega⟩
  have hq : ∀ u v, qp p pst u v → u < 12 ∧ v < 12 := fun u v h => by have := hp u v h.1; omega
  have hfix := DS_fix (q := qp p pst) (c := c) (t := t) (fin := fun v => r' v ≠ 16777216) (lo := fun v => r' v / 16) (ho := fun v => r' v % 16) hq (by
      show r' t ≠ 16777216 ∧ r' t / 16 = 0 ∧ r' t % 16 = 0
      omega) (fun v hv hf => by
      obtain ⟨h, L, a1, a2, a3, a4⟩ := hfin v hv hf
      show wl (qp p pst) c t (r' v % 16) (r' v / 16) v ∧ r' v % 16 ≤ 12
      rw [show r' v % 16 = h by omega, show r' v / 16 = L by omega]
      exact ⟨a1, a3⟩) (fun u v huv hf => by
      have hf' : r' v ≠ 16777216 := hf
      obtain ⟨k1, k2⟩ := hq u v huv
      obtain ⟨h, L, a1, a2, a3, a4⟩ := hfin v k2 hf'
      obtain ⟨m1, m2⟩ := d4 v k2 hf'
      have m3 := d5 v u m1 m2 (fun h => hf' (g5 v h)) huv
      have m4 := hc u v huv.1
      have hu : r' u ≠ 16777216 := by omega
      obtain ⟨h2, L2, b1, b2, b3, b4⟩ := hfin u k1 hu
      refine ⟨hu, ?_⟩
      show r' u / 16 < r' v / 16 + c u v ∨ (r' u / 16 = r' v / 16 + c u v ∧ r' u % 16 ≤ r' v % 16 + 1)
      omega)
  refine ⟨rest', g1, fun v hv => ?_⟩
  rw [g2 v hv]
  by_cases hf : r' v = 16777216
  · have hs := (hfix v hv).2 (fun h => h hf)
    rw [dst_of hs, hf]
    exact ⟨hs, fun L h e => absurd e (by simp), rfl⟩
  · have hs := (hfix v hv).1 hf
    obtain ⟨h, L, a1, a2, a3, a4⟩ := hfin v hv hf
    rw [dst_of hs]
    refine ⟨hs, fun L' h' e => ?_, ?_⟩
    · have e2 : r' v / 16 = L' ∧ r' v % 16 = h' := by simpa using e
      omega
    · show nI (r' v) = nI (16 * (r' v / 16) + r' v % 16)
      rw [Nat.div_add_mod]
