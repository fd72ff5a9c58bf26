-- uses: a_lib b_court c_leaf8 d_loop8 e_list f_why g_leaf h_rel i_state j_gen k_list
/-! cutting; the steps tie, cut, knot -/
theorem rem7_loop {m j0 : Nat} {pairs knots : Nat → Int32} (hm : m ≤ 21) (K : (Nat → Int32) → (Nat → Int32) → Option (Int32 × (Nat → Int32) × (Nat → Int32))) :
    ∀ k i n pr kn, i + k = m → j0 < i → k < n → (∀ j, j < i - 1 → pr j = (if j < j0 then pairs j else pairs (j + 1)) ∧ kn j = (if j < j0 then knots j else knots (j + 1))) → (∀ j, i ≤ j → j < m → pr j = pairs j ∧ kn j = knots j) →
    ∃ pr' kn', fX1_removeString_17 (nI m) K n (nI i) pr kn = K pr' kn' ∧ (∀ j, j < m - 1 → pr' j = (if j < j0 then pairs j else pairs (j + 1)) ∧ kn' j = (if j < j0 then knots j else knots (j + 1))) := by
  intro k
  induction k with
  | zero =>
    intro i n pr kn hi h0 hn h1 h2
    obtain ⟨n, rfl⟩ : ∃ m, n = m + 1 := ⟨n - 1, by omega⟩
    obtain rfl : i = m := by omega
    refine ⟨pr, kn, ?_, h1⟩
    rw [fX1_removeString_17, if_pos (by rw [le_nI (by omega) (by omega)]; omega)]
  | succ k ih =>
    intro i n pr kn hi h0 hn h1 h2
    obtain ⟨n, rfl⟩ : ∃ m, n = m + 1 := ⟨n - 1, by omega⟩
    rw [fX1_removeString_17, if_neg (by rw [le_nI (by omega) (by omega)]; omega), rdI_nI (by omega) (by decide), n1, pk_sub (by omega), wrI_nI (by omega) (by decide), rdI_nI (by omega) (by decide), wrI_nI (by omega) (by decide), nI_add]
    refine ih (i + 1) n _ _ (by omega) (by omega) (by omega) (fun j hj => ?_) (fun j hj hm => ?_)
    · unfold upd
      by_cases q : j = i - 1
      · rw [if_pos q, if_pos q, if_neg (by omega), if_neg (by omega), (h2 i (by omega) (by omega)).1, (h2 i (by omega) (by omega)).2, show j + 1 = i by omega]
        exact ⟨rfl, rfl⟩
      · rw [if_neg q, if_neg q]; exact h1 j (by omega)
    · unfold upd; rw [if_neg (by omega), if_neg (by omega)]; exact h2 j (by omega) hm
theorem rem7 {m : Nat} {P : Nat → Nat} {pairs knots : Nat → Int32} {B : Nat → Nat} (h : CL m P pairs knots B) (hB : WF B) {j0 : Nat} (hj0 : j0 < m) :
    ∃ P' pairs' knots', fX1_removeString (nI m) pairs knots (nI j0) = some (nI (m - 1), pairs', knots') ∧ CL (m - 1) P' pairs' knots' (setB B (P j0 / 20) (P j0 % 20) 0) := by
  have h12 := hB.1
  have hm := h.1
  unfold fX1_removeString
  rw [if_neg (nI_pos (by omega)), if_pos (by rw [lt_nI (by omega) (by omega)]; exact hj0), bnd_e, nI_inc]
  obtain ⟨pr, kn, g1, g2⟩ := rem7_loop (pairs := pairs) (knots := knots) hm (fun (t_pairs_13 : Nat → Int32) (t_knots_14 : Nat → Int32) => bnd (nI m - 1) (fun y_15 => some (y_15, t_pairs_13, t_knots_14))) (m - (j0 + 1)) (j0 + 1) FU pairs knots (by omega) (Nat.lt_succ_self j0) (FU_big (by omega)) (fun j hj => by rw [if_pos (by omega), if_pos (by omega)]; exact ⟨rfl, rfl⟩) (fun j _ _ => ⟨rfl, rfl⟩)
  rw [g1, bnd_e, n1, pk_sub (by omega)]
  have p0 := h.2.1.1 j0 hj0
  have eP : ∀ j, j < m → j ≠ j0 → setB B (P j0 / 20) (P j0 % 20) 0 (42 + 12 * (P j / 20) + P j % 20) = B (42 + 12 * (P j / 20) + P j % 20) ∧ tied (setB B (P j0 / 20) (P j0 % 20) 0) (P j / 20) (P j % 20) = true := by
    intro j hj hne
    have q1 := h.2.1.1 j hj
    have q2 : P j ≠ P j0 := by
      rcases Nat.lt_or_gt_of_ne hne with q | q
      · have := h.2.1.2.1 j j0 q hj0; omega
      · have := h.2.1.2.1 j0 j q hj; omega
    rw [setB_at B (by omega) (by omega) (by omega) (by omega), tied_set (by omega) (by omega) (by omega) (by omega), if_neg (by omega), if_neg (by omega)]
    exact ⟨rfl, q1.2.2⟩
  refine ⟨fun j => if j < j0 then P j else P (j + 1), pr, kn, rfl, by omega, ⟨fun j hj => ?_, fun j k hjk hk => ?_, fun c d hcd hd hT => ?_⟩, fun j hj => ?_⟩
  · dsimp only
    rw [setB_lo B (show 0 < 42 by omega)]
    by_cases q1 : j < j0
    · rw [if_pos q1]
      have := h.2.1.1 j (by omega)
      exact ⟨this.1, this.2.1, (eP j (by omega) (by omega)).2⟩
    · rw [if_neg q1]
      have := h.2.1.1 (j + 1) (by omega)
      exact ⟨this.1, this.2.1, (eP (j + 1) (by omega) (by omega)).2⟩
  · dsimp only
    by_cases q1 : j < j0
    · rw [if_pos q1]
      by_cases q2 : k < j0
      · rw [if_pos q2]; exact h.2.1.2.1 j k hjk (by omega)
      · rw [if_neg q2]; exact h.2.1.2.1 j (k + 1) (by omega) (by omega)
    · rw [if_neg q1, if_neg (show ¬ k < j0 by omega)]; exact h.2.1.2.1 (j + 1) (k + 1) (by omega) (by omega)
  · rw [setB_lo B (show 0 < 42 by omega)] at hd
    rw [tied_set (by omega) (by omega) (by omega) (by omega)] at hT
    by_cases q1 : (c = P j0 / 20 ∧ d = P j0 % 20) ∨ (c = P j0 % 20 ∧ d = P j0 / 20)
    · rw [if_pos q1] at hT; simp at hT
    · rw [if_neg q1] at hT
      obtain ⟨j, hj, e⟩ := h.2.1.2.2 c d hcd hd hT
      by_cases q2 : j < j0
      · exact ⟨j, by omega, by dsimp only; rw [if_pos q2]; exact e⟩
      · have : j ≠ j0 := fun e2 => by subst e2; omega
        exact ⟨j - 1, by omega, by dsimp only; rw [if_neg (by omega), show j - 1 + 1 = j by omega]; exact e⟩
  · dsimp only
    have := g2 j hj
    by_cases q1 : j < j0
    · rw [if_pos q1, if_pos q1] at this
      rw [if_pos q1, (eP j (by omega) (by omega)).1, this.1, this.2]
      exact h.2.2 j (by omega)
    · rw [if_neg q1, if_neg q1] at this
      rw [if_neg q1, (eP (j + 1) (by omega) (by omega)).1, this.1, this.2]
      exact h.2.2 (j + 1) (by omega)
theorem fold1_count : ∀ k i s, fold1 (fun (s : Nat) (_ : Nat) => s + 1) i k s = s + k
  | 0, _, _ => rfl
  | k + 1, i, s => by rw [fold1, fold1_count k]; omega
def numN (B : Nat → Nat) : Nat := fold2 (B 0) (fun c a b => if tied B a b then c + 1 else c) 0 (B 0) 0
theorem num_list {m : Nat} {P B : Nat → Nat} (h : LS0 m P B) (hB : WF B) : numN B = m := by
  unfold numN
  rw [fold_list (t := fun a b => tied B a b) (fun c _ _ => c + 1) hB.1 h.1 h.2.1 h.2.2, fold1_count]
  omega
theorem strings8 {A : Nat → Int32} {B : Nat → Nat} (h : MB A 0 B) (hB : WF B) : fX8_strings A = some (nI (numN B)) := by
  have h12 := hB.1
  unfold fX8_strings
  obtain ⟨t, h1, h2⟩ := loop2 (n := B 0) (g := fun c a b => if tied B a b then c + 1 else c) (fun (s : Nat) (t : Int32) => t = nI s)
    (fun F t a => fX8_strings_4 A (fun w => some w) F t (nI a)) (fun F G t a b => fX8_strings_18 (nI a) A (fun w => fX8_strings_4 A (fun w => some w) F w (nI (a + 1))) G t (nI b)) (fun t => some t) (FU_big (by omega))
    (fun F s t e => by rw [fX8_strings_4, n0, rd_MB h (by omega) (by omega) (by decide), if_pos (by rw [le_nI (by omega) (by omega)]; omega)])
    (fun F s t a ha e => by rw [fX8_strings_4, n0, rd_MB h (by omega) (by omega) (by decide), if_neg (by rw [le_nI (by omega) (by omega)]; omega), bnd_e, nI_inc])
    (fun F G s t a ha e => by rw [fX8_strings_18, n0, rd_MB h (by omega) (by omega) (by decide), if_pos (by rw [le_nI (by omega) (by omega)]; omega)])
    (fun F G s t a b hab hb e => by
      subst e
      rw [fX8_strings_18, n0, rd_MB h (by omega) (by omega) (by decide), if_neg (inle hb (by omega)), isTied8 h hB (by omega) (by omega), bd1_some, ← n0, bI_0', bnd_e, bnd_e, nI_inc, nI_inc, n0, nI_add]
      cases tied B a b
      · exact ⟨_, rfl, rfl⟩
      · exact ⟨_, rfl, rfl⟩) (B 0) 0 0 0 FU (by omega) (FU_big (by omega)) rfl
  refine h2.trans ?_
  rw [h1]; rfl
theorem CR_set {B : Nat → Nat} {a b v m' : Nat} {P' : Nat → Nat} {w7 w8 w9 pairs' knots' : Nat → Int32} (hc : ∀ w, w < B 0 → w7 w = nI (B (6 + w))) (hB : WF B) (hw : CWs w8 w9 B) (hL : CL m' P' pairs' knots' (setB B a b v)) :
    CR (nI (B 0), nI (B 4), nI (B 2), nI (B 3), nI (B 5), nI (B 1), nI m', w7, w8, w9, pairs', knots') (setB B a b v) := by
  have h12 := hB.1
  have h4 := hB.2.2.2.2.2.1
  refine ⟨by rw [setB_lo B (by omega)], by rw [setB_lo B (by omega)], by rw [setB_lo B (by omega)], by rw [setB_lo B (by omega)], by rw [setB_lo B (by omega)], by rw [setB_lo B (by omega)], ⟨m', P', rfl, hL⟩, fun w h => ?_, fun k hk => ?_⟩
  · rw [setB_lo B (by omega)] at h
    rw [setB_lo B (by omega)]; exact hc w h
  · rw [setB_lo B (by omega)] at hk
    rw [setB_lo B (by omega), setB_lo B (by omega), setB_lo B (by omega)]; exact hw k hk
theorem ref0 {B : Nat → Nat} {a b : Nat} (h : refN B a b = 0) : tied B a b = false ∧ crossesN B a b = false := by
  unfold refN at h
  split at h
  · omega
  · split at h
    · omega
    · split at h
      · omega
      · constructor <;> (rename_i h1 _ h2; first | exact Bool.eq_false_iff.mpr h1 | exact Bool.eq_false_iff.mpr h2)
theorem st_tie : Step_tie Rel0 := by
  intro w0 w1 w2 w3 w4 w5 w6 w7 w8 w9 w10 w11 xt xn xf xp rs rz rv made im all has mt mn mf mp so ma nu th v u hR
  obtain ⟨⟨B, hB, hM, hC⟩, hT, hF, hRw, hI⟩ := id hR
  obtain ⟨e0, e4, e2, e3, e5, e1, ⟨m, P, em, hL⟩, hc, hw⟩ := hC
  dsimp only at e0 e4 e2 e3 e5 e1 em hL hc hw
  subst e0 e4 e2 e3 e5 e1 em
  have h12 := hB.1
  unfold fX7_tie fX8_tie
  rw [why7 hL hB hc, bd1_some, refuses8 hM hB, bd1_some, Int32.toInt_toInt64]
  have hwl : whyN B v.toInt ≤ 4 := by
    unfold whyN
    split
    · exact refN_le B _ _
    · omega
  by_cases hz : whyN B v.toInt = 0
  · rw [hz, if_pos (show nI 0 = 0 from rfl), if_pos (show nI 0 = 0 from rfl), show (9 : Int64) = lN 9 from rfl]
    rcases within_rng u (show 9 < 2 ^ 31 by decide) with ⟨h1, h2⟩ | ⟨h1, h2, h3⟩ | ⟨k, hk, rfl, r1, r2, r3⟩
    · exact ⟨-3, nI m, w10, w11, 0, all, by rw [if_pos h1], by rw [h2]; rfl, hR⟩
    · exact ⟨-3, nI m, w10, w11, 0, all, by rw [if_neg h1, if_neg (show ¬ u ≤ 9 from h2)], by rw [h3]; rfl, hR⟩
    · have hv : pairZ (B 0) v.toInt = true := by
        unfold whyN at hz
        split at hz
        · assumption
        · omega
      obtain ⟨a, b, hab, hb, rfl⟩ := pairZ_of h12 hv
      rw [show (nI (20 * a + b)).toInt = ((20 * a + b : Nat) : Int) from nI_toInt (by omega), whyN_pair hab hb h12] at hz
      obtain ⟨ht, hx⟩ := ref0 hz
      obtain ⟨P', pr, kn, g1, g2⟩ := add7 hL hB hab hb ht hx hk
      obtain ⟨A', s1, s2, s3⟩ := sets8 (v := k + 1) hM (show 186 ≤ 558 by decide) (by decide) (show a < 12 by omega) (show b < 12 by omega)
      have hB' := WF_set hB hab hb (show k + 1 ≤ 10 by omega) (Or.inr (Or.inr hx))
      rw [if_neg r1, if_pos (show nI k ≤ 9 from r2), r3, bd1_some, if_neg (show ¬ (1 : Int32) = 0 by decide), g1, bd3_some, rem20 (by omega) (by omega), div20 (by omega) (by omega), nI_inc, s1, bd1_some, strings8 s2 hB', bd1_some, num_list g2.2.1 hB']
      exact ⟨nI (m + 1), nI (m + 1), pr, kn, 0, A', rfl, rfl, ⟨setB B a b (k + 1), hB', s2, CR_set hc hB hw g2⟩, hT, hF, hRw, imgs_keep hI s3⟩
  · rw [if_neg (by rw [n0, eq_nI (by omega) (by decide)]; exact hz), if_neg (by rw [n0, eq_nI (by omega) (by decide)]; exact hz)]
    exact ⟨_, nI m, w10, w11, 0, all, rfl, rfl, hR⟩
theorem st_cut : Step_cut Rel0 := by
  intro w0 w1 w2 w3 w4 w5 w6 w7 w8 w9 w10 w11 xt xn xf xp rs rz rv made im all has mt mn mf mp so ma nu th v hR
  obtain ⟨⟨B, hB, hM, hC⟩, hT, hF, hRw, hI⟩ := id hR
  obtain ⟨e0, e4, e2, e3, e5, e1, ⟨m, P, em, hL⟩, hc, hw⟩ := hC
  dsimp only at e0 e4 e2 e3 e5 e1 em hL hc hw
  subst e0 e4 e2 e3 e5 e1 em
  have h12 := hB.1
  have h21 := hL.1
  unfold fX7_cut fX8_cut
  rw [isPair8 hM hB, bd1_some, Int32.toInt_toInt64, bI_0']
  rcases idx7 hL v with ⟨j, hj, rfl, h3⟩ | ⟨h1, h2⟩
  · have p0 := hL.2.1.1 j hj
    have hz : pairZ (B 0) (nI (P j)).toInt = true := by
      rw [nI_toInt (by omega), pairZ_nat]; exact decide_eq_true ⟨p0.1, p0.2.1⟩
    obtain ⟨P', pr, kn, g1, g2⟩ := rem7 hL hB hj
    obtain ⟨A', s1, s2, s3⟩ := sets8 (v := 0) hM (show 186 ≤ 558 by decide) (by decide) (show P j / 20 < 12 by omega) (show P j % 20 < 12 by omega)
    have hB' := WF_set hB p0.1 p0.2.1 (show 0 ≤ 10 by omega) (Or.inl rfl)
    replace s1 : fX8_sets 558 all (nI (P j / 20)) (nI (P j % 20)) 0 = some A' := s1
    have d1 : nI (P j) / 20 = nI (P j / 20) := by rw [lit 20, pk_div (by omega) (by decide) (by decide)]
    have d2 : nI (P j) - nI (P j / 20) * 20 = nI (P j % 20) := by rw [← d1, lit 20, pk_rem (by omega) (by decide) (by decide)]
    rw [h3, bd1_some, if_neg (m1_ne (by omega)), g1, bd3_some, hz, d1, d2, isTied8 hM hB (by omega) (by omega), p0.2.2, s1]
    simp only [if_true, bd1_some, bI_0']
    rw [strings8 s2 hB', bd1_some, num_list g2.2.1 hB']
    exact ⟨nI (m - 1), nI (m - 1), pr, kn, 0, A', rfl, rfl, ⟨_, hB', s2, CR_set hc hB hw g2⟩, hT, hF, hRw, imgs_keep hI s3⟩
  · rw [h2, bd1_some, if_pos rfl]
    cases hv : pairZ (B 0) v.toInt with
    | false => exact ⟨-2, nI m, w10, w11, 0, all, rfl, rfl, hR⟩
    | true =>
      obtain ⟨a, b, hab, hb, rfl⟩ := pairZ_of h12 hv
      have ht : tied B a b = false := by
        cases ht : tied B a b with
        | false => rfl
        | true =>
          obtain ⟨i, hi, e⟩ := hL.2.1.2.2 a b hab hb ht
          exact absurd (by rw [e]) (h1 i hi)
      rw [rem20 (by omega) (by omega), div20 (by omega) (by omega), isTied8 hM hB (by omega) (by omega), ht]
      exact ⟨-2, nI m, w10, w11, 0, all, rfl, rfl, hR⟩
theorem CL_knot {m : Nat} {P : Nat → Nat} {pairs knots : Nat → Int32} {B : Nat → Nat} (h : CL m P pairs knots B) (hB : WF B) {j v : Nat} (hj : j < m) (hv : 0 < v) : CL m P pairs (upd knots j (nI (v - 1))) (setB B (P j / 20) (P j % 20) v) := by
  have h12 := hB.1
  have p0 := h.2.1.1 j hj
  have hne : ∀ i, i < m → i ≠ j → P i ≠ P j := by
    intro i hi hne
    rcases Nat.lt_or_gt_of_ne hne with q | q
    · have := h.2.1.2.1 i j q hj; omega
    · have := h.2.1.2.1 j i q hi; omega
  refine ⟨h.1, ⟨fun i hi => ?_, h.2.1.2.1, fun c d hcd hd hT => ?_⟩, fun i hi => ?_⟩
  · have := h.2.1.1 i hi
    rw [setB_lo B (show 0 < 42 by omega), tied_set (by omega) (by omega) (by omega) (by omega)]
    refine ⟨this.1, this.2.1, ?_⟩
    split
    · exact decide_eq_true hv
    · exact this.2.2
  · rw [setB_lo B (show 0 < 42 by omega)] at hd
    rw [tied_set (by omega) (by omega) (by omega) (by omega)] at hT
    by_cases q1 : (c = P j / 20 ∧ d = P j % 20) ∨ (c = P j % 20 ∧ d = P j / 20)
    · exact ⟨j, hj, by omega⟩
    · rw [if_neg q1] at hT; exact h.2.1.2.2 c d hcd hd hT
  · have := h.2.1.1 i hi
    refine ⟨(h.2.2 i hi).1, ?_⟩
    unfold upd
    rw [setB_at B (by omega) (by omega) (by omega) (by omega)]
    by_cases q : i = j
    · subst q; rw [if_pos rfl, if_pos (by omega)]
    · have := hne i hi q
      rw [if_neg q, if_neg (by omega)]; exact (h.2.2 i hi).2
theorem st_knot : Step_knot Rel0 := by
  intro w0 w1 w2 w3 w4 w5 w6 w7 w8 w9 w10 w11 xt xn xf xp rs rz rv made im all has mt mn mf mp so ma nu th v hR
  obtain ⟨⟨B, hB, hM, hC⟩, hT, hF, hRw, hI⟩ := id hR
  obtain ⟨e0, e4, e2, e3, e5, e1, ⟨m, P, em, hL⟩, hc, hw⟩ := hC
  dsimp only at e0 e4 e2 e3 e5 e1 em hL hc hw
  subst e0 e4 e2 e3 e5 e1 em
  have h12 := hB.1
  have h21 := hL.1
  unfold fX7_knot fX8_knot
  rw [isPair8 hM hB, bd1_some, Int32.toInt_toInt64, bI_0']
  rcases idx7 hL v with ⟨j, hj, rfl, h3⟩ | ⟨h1, h2⟩
  · have p0 := hL.2.1.1 j hj
    have hz : pairZ (B 0) (nI (P j)).toInt = true := by
      rw [nI_toInt (by omega), pairZ_nat]; exact decide_eq_true ⟨p0.1, p0.2.1⟩
    have hk := hB.2.2.2.2.2.2.2.2.2.1 (P j / 20) (P j % 20) (by omega) (by omega)
    have h0 : 0 < B (42 + 12 * (P j / 20) + P j % 20) := by have := p0.2.2; unfold tied at this; simpa using this
    have d1 : nI (P j) / 20 = nI (P j / 20) := by rw [lit 20, pk_div (by omega) (by decide) (by decide)]
    have d2 : nI (P j) - nI (P j / 20) * 20 = nI (P j % 20) := by rw [← d1, lit 20, pk_rem (by omega) (by decide) (by decide)]
    rw [h3, bd1_some, if_neg (m1_ne (by omega)), rdI_nI (by omega) (by decide), (hL.2.2 j hj).2, hz, d1, d2, isTied8 hM hB (by omega) (by omega), p0.2.2, knots8 hM (by omega) (by omega)]
    simp only [if_true, bd1_some, bI_0']
    generalize hb : B (42 + 12 * (P j / 20) + P j % 20) = z at *
    rw [show (nI z - 1 : Int32) = nI (z - 1) from sub1 h0]
    by_cases h9 : z = 10
    · subst h9
      exact ⟨-4, w11, 0, all, rfl, rfl, hR⟩
    · obtain ⟨A', s1, s2, s3⟩ := sets8 (v := z + 1) hM (show 186 ≤ 558 by decide) (by decide) (show P j / 20 < 12 by omega) (show P j % 20 < 12 by omega)
      have hB' := WF_set hB p0.1 p0.2.1 (show z + 1 ≤ 10 by omega) (Or.inr (Or.inl p0.2.2))
      have g2 := CL_knot hL hB hj (show 0 < z + 1 by omega)
      rw [if_pos (by rw [lit 9, lt_nI (by omega) (by omega)]; omega), rdI_nI (by omega) (by decide), (hL.2.2 j hj).2, hb, wrI_nI (by omega) (by decide), rdI_nI (by omega) (by decide), nI_inc, show z - 1 + 1 = z by omega, if_neg (by rw [lit 9, eq_nI (by omega) (by omega)]; omega), show (nI (z - 1) + 2 : Int32) = nI (z + 1) by rw [lit 2, nI_add, show z - 1 + 2 = z + 1 by omega], s1, bd1_some, show upd w11 j (nI z) j = nI z from pk_us]
      exact ⟨nI z, upd w11 j (nI z), 0, A', rfl, rfl, ⟨_, hB', s2, CR_set hc hB hw g2⟩, hT, hF, hRw, imgs_keep hI s3⟩
  · rw [h2, bd1_some, if_pos rfl]
    cases hv : pairZ (B 0) v.toInt with
    | false => exact ⟨-2, w11, 0, all, rfl, rfl, hR⟩
    | true =>
      obtain ⟨a, b, hab, hb, rfl⟩ := pairZ_of h12 hv
      have ht : tied B a b = false := by
        cases ht : tied B a b with
        | false => rfl
        | true =>
          obtain ⟨i, hi, e⟩ := hL.2.1.2.2 a b hab hb ht
          exact absurd (by rw [e]) (h1 i hi)
      rw [rem20 (by omega) (by omega), div20 (by omega) (by omega), isTied8 hM hB (by omega) (by omega), ht]
      exact ⟨-2, w11, 0, all, rfl, rfl, hR⟩
