-- uses: a_lib b_court c_leaf8 d_loop8 e_list f_why g_leaf h_rel i_state j_gen k_list l_cut m_fill m_img n_rows o_rows2 p_pairs
/-! tieAll, gust, more: both courts go on together -/
def CS (B0 : Nat → Nat) (A0 : Nat → Int32) (B : Nat → Nat) (m : Nat) (pr kn A : Nat → Int32) : Prop := WF B ∧ (∀ j, j < 42 → B j = B0 j) ∧ (∃ P, CL m P pr kn B) ∧ MB A 0 B ∧ ∀ j, 186 ≤ j → A j = A0 j
theorem setB_sym (B : Nat → Nat) (a b v : Nat) : setB B b a v = setB B a b v := by
  funext j
  unfold setB va_up
  by_cases h1 : j = 42 + 12 * a + b
  · rw [if_pos h1, if_pos h1]; split <;> rfl
  · rw [if_neg h1, if_neg h1]
theorem CR_lo {B B' : Nat → Nat} {m' : Nat} {P' : Nat → Nat} {w7 w8 w9 pairs' knots' : Nat → Int32} (hB : WF B) (hc : ∀ w, w < B 0 → w7 w = nI (B (6 + w))) (hw : CWs w8 w9 B) (hlo : ∀ j, j < 42 → B' j = B j) (hL : CL m' P' pairs' knots' B') :
    CR (nI (B 0), nI (B 4), nI (B 2), nI (B 3), nI (B 5), nI (B 1), nI m', w7, w8, w9, pairs', knots') B' := by
  have h12 := hB.1
  have h4 := hB.2.2.2.2.2.1
  refine ⟨by rw [hlo _ (by omega)], by rw [hlo _ (by omega)], by rw [hlo _ (by omega)], by rw [hlo _ (by omega)], by rw [hlo _ (by omega)], by rw [hlo _ (by omega)], ⟨m', P', rfl, hL⟩, fun w h => ?_, fun k hk => ?_⟩
  · rw [hlo _ (by omega)] at h
    rw [hlo _ (by omega)]; exact hc w h
  · rw [hlo _ (by omega)] at hk
    rw [hlo _ (by omega), hlo _ (by omega), hlo _ (by omega)]; exact hw k hk
theorem CS_add {B0 : Nat → Nat} {A0 : Nat → Int32} {B : Nat → Nat} {m : Nat} {pr kn A : Nat → Int32} (h : CS B0 A0 B m pr kn A) {a b q : Nat} (hab : a < b) (hb : b < B 0) (hr : refN B a b = 0) (hq : q ≤ 9) :
    ∃ pr' kn' A', fX1_addString (nI m) pr kn (nI (20 * a + b)) (nI q) = some (nI (m + 1), pr', kn') ∧ fX8_sets 558 A (nI a) (nI b) (nI (q + 1)) = some A' ∧ CS B0 A0 (setB B a b (q + 1)) (m + 1) pr' kn' A' := by
  obtain ⟨hB, hlo, ⟨P, hL⟩, hM, hhi⟩ := h
  have h12 := hB.1
  obtain ⟨ht, hx⟩ := ref0 hr
  obtain ⟨P', pr', kn', g1, g2⟩ := add7 hL hB hab hb ht hx hq
  obtain ⟨A', s1, s2, s3⟩ := sets8 (v := q + 1) hM (show 186 ≤ 558 by decide) (by decide) (show a < 12 by omega) (show b < 12 by omega)
  exact ⟨pr', kn', A', g1, s1, WF_set hB hab hb (by omega) (Or.inr (Or.inr hx)), fun j hj => by rw [setB_lo B hj]; exact hlo j hj, ⟨P', g2⟩, s2, fun j hj => by rw [s3 j hj]; exact hhi j hj⟩
/-- a number of a row, as both see it -/
theorem tie_cases {B : Nat → Nat} (hB : WF B) (x : Int64) : (pairZ (B 0) x.toInt = false ∧ whyN B x.toInt = 1) ∨ ∃ a b, a < b ∧ b < B 0 ∧ x.toInt32 = nI (20 * a + b) ∧ pairZ (B 0) x.toInt = true ∧ whyN B x.toInt = refN B a b ∧ whyN B (nI (20 * a + b)).toInt = refN B a b := by
  have h12 := hB.1
  cases hp : pairZ (B 0) x.toInt with
  | false => exact Or.inl ⟨rfl, by unfold whyN; rw [hp]; rfl⟩
  | true =>
    obtain ⟨a, b, h1, h2, h3, h4⟩ := pairZ_L h12 hp
    have e : x.toInt = ((20 * a + b : Nat) : Int) := by rw [h3]; exact lN_toInt (by omega)
    refine Or.inr ⟨a, b, h1, h2, h4, rfl, ?_, ?_⟩
    · rw [e, whyN_pair h1 h2 h12]
    · rw [nI_toInt (by omega), whyN_pair h1 h2 h12]
theorem cans_lo {B B0 : Nat → Nat} (hB : WF B) (hlo : ∀ j, j < 42 → B j = B0 j) {w7 : Nat → Int32} (hc : ∀ w, w < B0 0 → w7 w = nI (B0 (6 + w))) : ∀ w, w < B 0 → w7 w = nI (B (6 + w)) := by
  intro w hw
  have h12 := hB.1
  have hw2 := hw
  rw [hlo _ (by omega)] at hw2
  rw [hlo _ (by omega)]
  exact hc w hw2
theorem tieAll_loop {B0 : Nat → Nat} {A0 w7 ma : Nat → Int32} {f nu : Nat → Int64} {c k : Nat} (hc40 : c ≤ 40) (hk : k < 4) (em : ma k = nI c) (hf : ∀ j, j < c → f j = nu (40 * k + j)) (hc : ∀ w, w < B0 0 → w7 w = nI (B0 (6 + w)))
    (K7 : Int32 → Int32 → (Nat → Int32) → (Nat → Int32) → Option (Int32 × Int32 × (Nat → Int32) × (Nat → Int32))) (K8 : Int32 → (Nat → Int32) → Option (Int32 × Int32 × (Nat → Int32))) :
    ∀ l i F G n B m pr kn A, i + l = c → l < F → l < G → CS B0 A0 B m pr kn A →
    ∃ n' B' m' pr' kn' A', fX7_tieAll_25 (nI (B0 0)) w7 f (nI c) K7 F (nI n) (nI i) (nI m) pr kn = K7 (nI n') (nI m') pr' kn' ∧ fX8_tieAll_37 (nI k) ma nu K8 G (nI n) (nI i) A = K8 (nI n') A' ∧ CS B0 A0 B' m' pr' kn' A' := by
  intro l
  induction l with
  | zero =>
    intro i F G n B m pr kn A hi hF hG h
    obtain ⟨F, rfl⟩ : ∃ m, F = m + 1 := ⟨F - 1, by omega⟩
    obtain ⟨G, rfl⟩ : ∃ m, G = m + 1 := ⟨G - 1, by omega⟩
    refine ⟨n, B, m, pr, kn, A, ?_, ?_, h⟩
    · rw [fX7_tieAll_25, if_pos (ile (by omega) (by omega))]
    · rw [fX8_tieAll_37, rdI_nI hk (by decide), em, if_pos (ile (by omega) (by omega))]
  | succ l ih =>
    intro i F G n B m pr kn A hi hF hG h
    obtain ⟨F, rfl⟩ : ∃ m, F = m + 1 := ⟨F - 1, by omega⟩
    obtain ⟨G, rfl⟩ : ∃ m, G = m + 1 := ⟨G - 1, by omega⟩
    obtain ⟨hB, hlo, ⟨P, hL⟩, hM, hhi⟩ := id h
    have h12 := hB.1
    have e0 : B0 0 = B 0 := (hlo 0 (by omega)).symm
    rw [fX7_tieAll_25, if_neg (inle (by omega) (by omega)), numAt7 hc40 (by omega), bd1_some, e0, hasP_eq h12, bd1_some, bI_0', fX8_tieAll_37, rdI_nI hk (by decide), em, if_neg (inle (by omega) (by omega)), row_at (c := 0) hk, rdL_nI (by omega) (by decide), ← hf i (by omega), refuses8 hM hB, bd1_some, ← e0]
    rcases tie_cases hB (f i) with ⟨t1, t2⟩ | ⟨a, b, hab, hb, t1, t2, t3, t4⟩
    · rw [← e0] at t1
      rw [t1, t2, if_neg (show ¬ nI 1 = 0 by decide)]
      simp only [Bool.false_eq_true, if_false, nI_inc]
      exact ih (i + 1) F G n B m pr kn A (by omega) (by omega) (by omega) h
    · rw [← e0] at t2
      rw [t2, t1, t3]
      simp only [if_true]
      rw [e0, why7 hL hB (cans_lo hB hlo hc), ← e0, t4, bd1_some]
      have hle := refN_le B a b
      by_cases hr : refN B a b = 0
      · obtain ⟨pr', kn', A', g1, g2, g3⟩ := CS_add h hab hb hr (show 0 ≤ 9 by omega)
        replace g1 : fX1_addString (nI m) pr kn (nI (20 * a + b)) 0 = some (nI (m + 1), pr', kn') := g1
        replace g2 : fX8_sets 558 A (nI a) (nI b) 1 = some A' := g2
        rw [hr, if_pos (show nI 0 = 0 from rfl), if_pos (show nI 0 = 0 from rfl), g1, bd3_some, rem20 (by omega) (by omega), div20 (by omega) (by omega), g2, bd1_some, nI_inc, nI_inc]
        exact ih (i + 1) F G (n + 1) _ _ _ _ _ (by omega) (by omega) (by omega) g3
      · have hne : ¬ nI (refN B a b) = 0 := by rw [n0]; exact ine hr (by omega) (by decide)
        rw [if_neg hne, if_neg hne, nI_inc]
        exact ih (i + 1) F G n B m pr kn A (by omega) (by omega) (by omega) h
theorem st_tieAll : Step_tieAll Rel0 := by
  intro w0 w1 w2 w3 w4 w5 w6 w7 w8 w9 w10 w11 xt xn xf xp rs rz rv made im all has mt mn mf mp so ma nu th v i ei hR
  obtain ⟨⟨B, hB, hM, hC⟩, hT, hF, hRw, hI⟩ := id hR
  obtain ⟨e0, e4, e2, e3, e5, e1, ⟨m, P, em, hL⟩, hc, hw⟩ := id hC
  dsimp only at e0 e4 e2 e3 e5 e1 em hL hc hw
  subst e0 e4 e2 e3 e5 e1 em
  have h12 := hB.1
  unfold fX7_tieAll fX8_tieAll
  rcases row_cases v with ⟨h1, h2⟩ | ⟨k, hk, rfl, h1, h2⟩
  · exact ⟨-2, nI m, w10, w11, 0, all, by rw [refusal7_no h1]; rfl, by rw [h2]; rfl, hR⟩
  · rw [refusal7 hk, h2, bd1_some, bd1_some, if_neg (show ¬ (1 : Int32) = 0 by decide), rdI_nI hk (by decide)]
    rw [rix_nI hk] at ei
    subst ei
    rcases hRw i hk with ⟨z1, z2⟩ | ⟨c, q, z1, z2, z3, z4, z5, z6, z7⟩
    · rw [z1, z2]
      exact ⟨-6, nI m, w10, w11, 0, all, rfl, rfl, hR⟩
    · rw [z3, z6, if_neg (m1_ne (by omega)), if_pos rfl, if_neg (m1_q z2), ckI_nI hk (by decide)]
      obtain ⟨n', B', m', pr', kn', A', g1, g2, g3, g4, ⟨P', g5⟩, g6, g7⟩ := tieAll_loop z1 hk z4 z7 hc (fun (w_17 : Int32) (now_strings_18 : Int32) (now_pairs_19 : Nat → Int32) (now_knots_20 : Nat → Int32) => some (w_17, now_strings_18, now_pairs_19, now_knots_20)) (fun (w_17 : Int32) (t_all_18 : Nat → Int32) => some (w_17, (0 : Int32), t_all_18)) c 0 FU FU 0 B m w10 w11 all (by omega) (FU_big (by omega)) (FU_big (by omega)) ⟨hB, fun _ _ => rfl, ⟨P, hL⟩, hM, fun _ _ => rfl⟩
      exact ⟨nI n', nI m', pr', kn', 0, A', g1, g2, ⟨B', g3, g6, CR_lo hB hc hw g4 g5⟩, hT, hF, hRw, imgs_keep hI g7⟩
