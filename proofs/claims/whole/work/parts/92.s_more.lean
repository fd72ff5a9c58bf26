-- uses: a_lib b_court c_leaf8 d_loop8 e_list f_why g_leaf h_rel i_state j_gen k_list l_cut m_fill m_img n_rows o_rows2 p_pairs q_gust r_gust
/-! more, count -/
def moG (s : (Nat → Nat) × Nat) (a b : Nat) : (Nat → Nat) × Nat := if refN s.1 a b = 0 then (setB s.1 a b 1, s.2 + 1) else s
theorem more7 {B0 : Nat → Nat} {w7 : Nat → Int32} {m0 : Nat} {P : Nat → Nat} {pr kn : Nat → Int32} (hB : WF B0) (hc : ∀ w, w < B0 0 → w7 w = nI (B0 (6 + w))) (hL : CL m0 P pr kn B0) (K : Int32 → (Nat → Int32) → (Nat → Int32) → Option (Int32 × Int32 × Int32 × Int32 × Int32 × Int32 × Int32 × Int32 × (Nat → Int32) × (Nat → Int32) × (Nat → Int32) × (Nat → Int32) × (Nat → Int32))) :
    ∃ pr' kn', fX7_more_13 (nI (B0 0)) w7 K FU (nI 0) (nI m0) pr kn = K (nI (m0 + (fold2 (B0 0) moG 0 (B0 0) (B0, 0)).2)) pr' kn' := by
  have h12 := hB.1
  obtain ⟨t, ⟨-, -, m, -, e1, e2, -⟩, h2⟩ := loop2 (n := B0 0) (g := moG) (fun (s : (Nat → Nat) × Nat) (t : Int32 × (Nat → Int32) × (Nat → Int32)) => WF s.1 ∧ (∀ j, j < 42 → s.1 j = B0 j) ∧ ∃ m P, t.1 = nI m ∧ m = m0 + s.2 ∧ CL m P t.2.1 t.2.2 s.1)
    (fun F t a => fX7_more_13 (nI (B0 0)) w7 K F (nI a) t.1 t.2.1 t.2.2) (fun F G t a b => fX7_more_28 (nI a) (nI (B0 0)) w7 (fun x y z => fX7_more_13 (nI (B0 0)) w7 K F (nI (a + 1)) x y z) G (nI b) t.1 t.2.1 t.2.2) (fun t => K t.1 t.2.1 t.2.2) (FU_big (by omega))
    (fun F s t e => by rw [fX7_more_13, if_pos (ile (by omega) (by omega))])
    (fun F s t a ha e => by rw [fX7_more_13, if_neg (inle ha (by omega)), bnd_e, nI_inc])
    (fun F G s t a ha e => by rw [fX7_more_28, if_pos (ile (by omega) (by omega))])
    (fun F G s t a b hab hb e => by
      obtain ⟨B, c⟩ := s
      obtain ⟨t1, t2, t3⟩ := t
      obtain ⟨hB1, hlo, m, P1, e1, e2, hL1⟩ := e
      dsimp only at hB1 hlo e1 e2 hL1 ⊢
      subst e1 e2
      have e0 : B0 0 = B 0 := (hlo 0 (by omega)).symm
      rw [fX7_more_28, if_neg (inle hb (by omega)), pairOf7 (by omega) (by omega), bd1_some, Nat.min_eq_left (by omega), Nat.max_eq_right (by omega), e0, why7 hL1 hB1 (cans_lo hB1 hlo hc), bd1_some, nI_toInt (by omega), whyN_pair hab (by omega) (by omega), bd1_some, nI_inc]
      have hle := refN_le B a b
      unfold moG
      by_cases hr : refN B a b = 0
      · obtain ⟨ht, hx⟩ := ref0 hr
        obtain ⟨P', pr', kn', g1, g2⟩ := add7 hL1 hB1 hab (by omega) ht hx (show 0 ≤ 9 by omega)
        replace g1 : fX1_addString (nI (m0 + c)) t2 t3 (nI (20 * a + b)) 0 = some (nI (m0 + c + 1), pr', kn') := g1
        rw [if_pos hr, hr, if_pos (show nI 0 = 0 from rfl), g1, bd3_some]
        exact ⟨(nI (m0 + c + 1), pr', kn'), ⟨WF_set hB1 hab (by omega) (by omega) (Or.inr (Or.inr hx)), fun j hj => (setB_lo B hj).trans (hlo j hj), m0 + c + 1, P', rfl, by show m0 + c + 1 = m0 + (c + 1); omega, g2⟩, rfl⟩
      · rw [if_neg hr, if_neg (by rw [n0]; exact ine hr (by omega) (by decide))]
        exact ⟨(nI (m0 + c), t2, t3), ⟨hB1, hlo, m0 + c, P1, rfl, rfl, hL1⟩, rfl⟩) (B0 0) 0 (B0, 0) (nI m0, pr, kn) FU (by omega) (FU_big (by omega)) ⟨hB, fun _ _ => rfl, m0, P, rfl, rfl, hL⟩
  refine ⟨t.2.1, t.2.2, h2.trans ?_⟩
  rw [e1, e2]
theorem more8 {B0 : Nat → Nat} {A0 : Nat → Int32} (hB : WF B0) (hM : MB A0 0 B0) (K : Int32 → (Nat → Int32) → Option (Int32 × Int32 × (Nat → Int32) × (Nat → Int32))) :
    ∃ A', fX8_more_36 K FU (nI 0) (nI 0) A0 = K (nI (fold2 (B0 0) moG 0 (B0 0) (B0, 0)).2) A' ∧ ∀ j, 186 ≤ j → A' j = A0 j := by
  have h12 := hB.1
  obtain ⟨t, ⟨-, -, e1, -, e2⟩, h2⟩ := loop2 (n := B0 0) (g := moG) (fun (s : (Nat → Nat) × Nat) (t : Int32 × (Nat → Int32)) => WF s.1 ∧ (∀ j, j < 42 → s.1 j = B0 j) ∧ t.1 = nI s.2 ∧ MB t.2 0 s.1 ∧ ∀ j, 186 ≤ j → t.2 j = A0 j)
    (fun F t a => fX8_more_36 K F t.1 (nI a) t.2) (fun F G t a b => fX8_more_50 (nI a) (fun x y => fX8_more_36 K F x (nI (a + 1)) y) G t.1 (nI b) t.2) (fun t => K t.1 t.2) (FU_big (by omega))
    (fun F s t e => by rw [fX8_more_36, n0, rd_MB e.2.2.2.1 (by omega) (by omega) (by decide), e.2.1 0 (by omega), if_pos (ile (by omega) (by omega))])
    (fun F s t a ha e => by rw [fX8_more_36, n0, rd_MB e.2.2.2.1 (by omega) (by omega) (by decide), e.2.1 0 (by omega), if_neg (inle ha (by omega)), bnd_e, nI_inc])
    (fun F G s t a ha e => by rw [fX8_more_50, n0, rd_MB e.2.2.2.1 (by omega) (by omega) (by decide), e.2.1 0 (by omega), if_pos (ile (by omega) (by omega))])
    (fun F G s t a b hab hb e => by
      obtain ⟨B, c⟩ := s
      obtain ⟨t1, t2⟩ := t
      obtain ⟨hB1, hlo, e1, hM1, e2⟩ := e
      dsimp only at hB1 hlo e1 e2 hM1 ⊢
      subst e1
      have e0 : B0 0 = B 0 := (hlo 0 (by omega)).symm
      rw [fX8_more_50, n0, rd_MB hM1 (by omega) (by omega) (by decide), ← e0, if_neg (inle hb (by omega)), ref8 hM1 hB1 (by decide) (by decide) (by omega) (by omega), bd1_some, nI_inc, nI_inc]
      have hle := refN_le B a b
      unfold moG
      by_cases hr : refN B a b = 0
      · obtain ⟨ht, hx⟩ := ref0 hr
        obtain ⟨A', s1, s2, s3⟩ := sets8 (v := 1) hM1 (show 186 ≤ 558 by decide) (by decide) (show a < 12 by omega) (show b < 12 by omega)
        rw [if_pos hr, hr, if_pos (show nI 0 = nI 0 from rfl), n1, s1, bd1_some]
        exact ⟨(nI (c + 1), A'), ⟨WF_set hB1 hab (by omega) (by omega) (Or.inr (Or.inr hx)), fun j hj => (setB_lo B hj).trans (hlo j hj), rfl, s2, fun j hj => (s3 j hj).trans (e2 j hj)⟩, rfl⟩
      · rw [if_neg hr, if_neg (ine hr (by omega) (by decide))]
        exact ⟨(nI c, t2), ⟨hB1, hlo, rfl, hM1, e2⟩, rfl⟩) (B0 0) 0 (B0, 0) (nI 0, A0) FU (by omega) (FU_big (by omega)) ⟨hB, fun _ _ => rfl, rfl, hM, fun _ _ => rfl⟩
  exact ⟨t.2, h2.trans (by rw [e1]), e2⟩
theorem kept8 {A : Nat → Int32} (K : (Nat → Int32) → Option (Int32 × Int32 × (Nat → Int32) × (Nat → Int32))) : ∀ k i n f, i + k = 186 → k < n → (∀ j, j < i → f j = A j) → ∃ f', fX8_more_7 A K n (nI i) f = K f' ∧ ∀ j, j < 186 → f' j = A j := by
  intro k
  induction k with
  | zero =>
    intro i n f hi hn h
    obtain ⟨n, rfl⟩ : ∃ m, n = m + 1 := ⟨n - 1, by omega⟩
    obtain rfl : i = 186 := by omega
    exact ⟨f, by rw [fX8_more_7, if_pos (by decide)], h⟩
  | succ k ih =>
    intro i n f hi hn h
    obtain ⟨n, rfl⟩ : ∃ m, n = m + 1 := ⟨n - 1, by omega⟩
    rw [fX8_more_7, lit 186, if_neg (inle (by omega) (by omega)), rdI_nI (by omega) (by decide), wrI_nI (by omega) (by decide), nI_inc]
    refine ih (i + 1) n _ (by omega) (by omega) (fun j hj => ?_)
    unfold upd
    by_cases q : j = i
    · rw [if_pos q, q]
    · rw [if_neg q]; exact h j (by omega)
theorem back8 {ke : Nat → Int32} (K : (Nat → Int32) → Option (Int32 × Int32 × (Nat → Int32) × (Nat → Int32))) : ∀ k i n (f g : Nat → Int32), i + k = 186 → k < n → (∀ j, j < i → f j = ke j) → (∀ j, 186 ≤ j → f j = g j) → ∃ f', fX8_more_102 ke K n (nI i) f = K f' ∧ (∀ j, j < 186 → f' j = ke j) ∧ (∀ j, 186 ≤ j → f' j = g j) := by
  intro k
  induction k with
  | zero =>
    intro i n f g hi hn h h2
    obtain ⟨n, rfl⟩ : ∃ m, n = m + 1 := ⟨n - 1, by omega⟩
    obtain rfl : i = 186 := by omega
    exact ⟨f, by rw [fX8_more_102, if_pos (by decide)], h, h2⟩
  | succ k ih =>
    intro i n f g hi hn h h2
    obtain ⟨n, rfl⟩ : ∃ m, n = m + 1 := ⟨n - 1, by omega⟩
    rw [fX8_more_102, lit 186, if_neg (inle (by omega) (by omega)), rdI_nI (by omega) (by decide), wrI_nI (by omega) (by decide), nI_inc]
    refine ih (i + 1) n _ g (by omega) (by omega) (fun j hj => ?_) (fun j hj => ?_)
    · unfold upd
      by_cases q : j = i
      · rw [if_pos q, q]
      · rw [if_neg q]; exact h j (by omega)
    · unfold upd; rw [if_neg (by omega)]; exact h2 j hj
theorem st_more : Step_more Rel0 := by
  intro w0 w1 w2 w3 w4 w5 w6 w7 w8 w9 w10 w11 xt xn xf xp rs rz rv made im all has mt mn mf mp so ma nu s0 s1 s2 s3 s4 s5 s6 s7 s8 s9 s10 s11 th ke hR
  obtain ⟨⟨B, hB, hM, hC⟩, hT, hF, hRw, hI⟩ := id hR
  obtain ⟨c7, c8, c9, c10, c11, g1, g2⟩ := take7 s0 s1 s2 s3 s4 s5 s6 s7 s8 s9 s10 s11 w0 w1 w2 w3 w4 w5 w6 w7 w8 w9 w10 w11
  obtain ⟨e0, e4, e2, e3, e5, e1, ⟨m, P, em, hL⟩, hc, hw⟩ := g2 B hB hC
  dsimp only at e0 e4 e2 e3 e5 e1 em hL hc hw
  subst e0 e4 e2 e3 e5 e1 em
  have h21 := hL.1
  unfold fX7_more fX8_more
  rw [g1, bd12_some]
  obtain ⟨pr', kn', k1⟩ := more7 hB hc hL (fun (sp_strings_31 : Int32) (sp_pairs_32 : Nat → Int32) (sp_knots_33 : Nat → Int32) => some ((sp_strings_31 - nI m), nI (B 0), nI (B 4), nI (B 2), nI (B 3), nI (B 5), nI (B 1), sp_strings_31, c7, c8, c9, sp_pairs_32, sp_knots_33))
  obtain ⟨ke', k2, k3⟩ := kept8 (A := all) (fun (t_kept_6 : Nat → Int32) => fX8_more_36 (fun (w_21 : Int32) (t_all_22 : Nat → Int32) => fX8_more_102 t_kept_6 (fun (t_all_28 : Nat → Int32) => some (w_21, (0 : Int32), t_all_28, t_kept_6)) FU 0 t_all_22) FU 0 0 all) 186 0 FU ke rfl (FU_big (by decide)) (fun j hj => absurd hj (by omega))
  obtain ⟨A1, k4, k5⟩ := more8 hB hM (fun (w_21 : Int32) (t_all_22 : Nat → Int32) => fX8_more_102 ke' (fun (t_all_28 : Nat → Int32) => some (w_21, (0 : Int32), t_all_28, ke')) FU 0 t_all_22)
  obtain ⟨A2, k6, k7, k8⟩ := back8 (ke := ke') (fun (t_all_28 : Nat → Int32) => some (nI (fold2 (B 0) moG 0 (B 0) (B, 0)).2, (0 : Int32), t_all_28, ke')) 186 0 FU A1 all rfl (FU_big (by decide)) (fun j hj => absurd hj (by omega)) k5
  have eA : A2 = all := by
    funext j
    by_cases q : j < 186
    · rw [k7 j q, k3 j q]
    · exact k8 j (by omega)
  subst eA
  have k9 := k2.trans (k4.trans k6)
  rw [pk_sub (by omega), Nat.add_sub_cancel_left] at k1
  exact ⟨_, _, _, _, _, _, _, _, _, _, _, _, _, 0, A2, ke', k1, k9, hR⟩
def cuG (B : Nat → Nat) (s : Nat × Nat) (a b : Nat) : Nat × Nat := (s.1 + (if slackN B (B 1) a b then 1 else 0), s.2 + lenN B a b)
theorem count8 {A : Nat → Int32} {B : Nat → Nat} (h : MB A 0 B) (hB : WF B) (K : Int32 → Int32 → Option (Int32 × Int32)) :
    fX8_count_12 A K FU (nI 0) (nI 0) (nI 0) = K (nI (fold2 (B 0) (fun s a b => if tied B a b then cuG B s a b else s) 0 (B 0) (0, 0)).1) (nI (fold2 (B 0) (fun s a b => if tied B a b then cuG B s a b else s) 0 (B 0) (0, 0)).2) := by
  have h12 := hB.1
  obtain ⟨t, ⟨h1, h1'⟩, h2⟩ := loop2 (n := B 0) (g := fun s a b => if tied B a b then cuG B s a b else s) (fun (s : Nat × Nat) (t : Int32 × Int32) => t.1 = nI s.1 ∧ t.2 = nI s.2)
    (fun F t a => fX8_count_12 A K F t.1 t.2 (nI a)) (fun F G t a b => fX8_count_29 (nI a) A (fun w f => fX8_count_12 A K F w f (nI (a + 1))) G t.1 t.2 (nI b)) (fun t => K t.1 t.2) (FU_big (by omega))
    (fun F s t e => by rw [fX8_count_12, n0, rd_MB h (by omega) (by omega) (by decide), if_pos (ile (by omega) (by omega))])
    (fun F s t a ha e => by rw [fX8_count_12, n0, rd_MB h (by omega) (by omega) (by decide), if_neg (inle ha (by omega)), bnd_e, nI_inc])
    (fun F G s t a ha e => by rw [fX8_count_29, n0, rd_MB h (by omega) (by omega) (by decide), if_pos (ile (by omega) (by omega))])
    (fun F G s t a b hab hb e => by
      obtain ⟨t1, t2⟩ := t
      obtain ⟨e1, e2⟩ := e
      dsimp only at e1 e2
      subst e1 e2
      rw [fX8_count_29, show (0 : Int32) = nI 0 from rfl, rd_MB h (by omega) (by omega) (by decide), if_neg (inle hb (by omega)), isTied8 h hB (by omega) (by omega), bd1_some, show nI 0 = (0 : Int32) from rfl, bI_0', nI_inc]
      cases tied B a b
      · exact ⟨(nI s.1, nI s.2), ⟨rfl, rfl⟩, rfl⟩
      · simp only [if_true]
        rw [slackNow8 h hB (by omega) (by omega), bd1_some, jn1, bI_0', bnd_e, len8 h hB (by omega) hb, bd1_some, bnd_e, nI_add]
        unfold cuG
        cases slackN B (B 1) a b
        · exact ⟨(nI (s.1 + 0), nI (s.2 + lenN B a b)), ⟨rfl, rfl⟩, by simp⟩
        · refine ⟨(nI (s.1 + 1), nI (s.2 + lenN B a b)), ⟨rfl, rfl⟩, ?_⟩
          simp only [if_true, n1, nI_add]) (B 0) 0 (0, 0) (nI 0, nI 0) FU (by omega) (FU_big (by omega)) ⟨rfl, rfl⟩
  refine h2.trans ?_
  rw [h1, h1']
theorem slackStr7 {m : Nat} {P : Nat → Nat} {pairs knots w8 w9 : Nat → Int32} {B : Nat → Nat} (h : CL m P pairs knots B) (hB : WF B) (hw : CWs w8 w9 B) : ∀ k i n s, i + k = m → k < n → fX1_slackStrings_4 (nI (B 4)) (nI (B 1)) (nI m) w8 w9 pairs (fun w => some w) n (nI s) (nI i) = some (nI (fold1 (fun c i => c + (if slackN B (B 1) (P i / 20) (P i % 20) then 1 else 0)) i k s)) := by
  have h21 := h.1
  have hh := hB.2.2.1
  intro k
  induction k with
  | zero =>
    intro i n s hi hn
    obtain ⟨n, rfl⟩ : ∃ m, n = m + 1 := ⟨n - 1, by omega⟩
    rw [fX1_slackStrings_4, if_pos (ile (by omega) (by omega))]; rfl
  | succ k ih =>
    intro i n s hi hn
    obtain ⟨n, rfl⟩ : ∃ m, n = m + 1 := ⟨n - 1, by omega⟩
    have p := h.2.1.1 i (by omega)
    have hs := slack7 hw hB p.2.1 p.1 (show B 1 < 100000 by omega)
    rw [show 20 * (P i / 20) + P i % 20 = P i by omega] at hs
    rw [fX1_slackStrings_4, if_neg (inle (by omega) (by omega)), rdI_nI (by omega) (by decide), (h.2.2 i (by omega)).1, hs, bd1_some, bI_0', nI_inc, nI_inc, ih _ _ _ (by omega) (by omega), ih _ _ _ (by omega) (by omega), fold1]
    cases slackN B (B 1) (P i / 20) (P i % 20) <;> simp
theorem lenStr7 {m : Nat} {P : Nat → Nat} {pairs knots : Nat → Int32} {B : Nat → Nat} (h : CL m P pairs knots B) (hB : WF B) : ∀ k i n s, i + k = m → k < n → fX1_lengthOfStrings_4 (nI (B 0)) (nI m) pairs (fun w => some w) n (nI s) (nI i) = some (nI (fold1 (fun c i => c + lenN B (P i / 20) (P i % 20)) i k s)) := by
  have h21 := h.1
  intro k
  induction k with
  | zero =>
    intro i n s hi hn
    obtain ⟨n, rfl⟩ : ∃ m, n = m + 1 := ⟨n - 1, by omega⟩
    rw [fX1_lengthOfStrings_4, if_pos (ile (by omega) (by omega))]; rfl
  | succ k ih =>
    intro i n s hi hn
    obtain ⟨n, rfl⟩ : ∃ m, n = m + 1 := ⟨n - 1, by omega⟩
    have p := h.2.1.1 i (by omega)
    have hs := len7 hB p.1 p.2.1
    rw [show 20 * (P i / 20) + P i % 20 = P i by omega] at hs
    rw [fX1_lengthOfStrings_4, if_neg (inle (by omega) (by omega)), rdI_nI (by omega) (by decide), (h.2.2 i (by omega)).1, hs, bd1_some, bnd_e, nI_add, nI_inc, ih _ _ _ (by omega) (by omega), fold1]
theorem cu_split (B P : Nat → Nat) : ∀ k i s, fold1 (fun s i => cuG B s (P i / 20) (P i % 20)) i k s = (fold1 (fun c i => c + (if slackN B (B 1) (P i / 20) (P i % 20) then 1 else 0)) i k s.1, fold1 (fun c i => c + lenN B (P i / 20) (P i % 20)) i k s.2)
  | 0, _, _ => rfl
  | k + 1, i, s => by rw [fold1, cu_split B P k, fold1, fold1]; rfl
theorem fin1 {x : Option Int32} {y z : Option (Int32 × Int32)} {R : Prop} (h1 : y = z) (h2 : ∃ r, x = some r ∧ z = some (r, 0)) (hR : R) : ∃ (r : Int32) (th : Int32), x = some r ∧ y = some (r, th) ∧ R := by
  obtain ⟨r, h3, h4⟩ := h2
  exact ⟨r, 0, h3, h1.trans h4, hR⟩
theorem st_count : Step_count Rel0 := by
  intro w0 w1 w2 w3 w4 w5 w6 w7 w8 w9 w10 w11 xt xn xf xp rs rz rv made im all has mt mn mf mp so ma nu th v hR
  obtain ⟨⟨B, hB, hM, hC⟩, hT, hF, hRw, hI⟩ := id hR
  obtain ⟨e0, e4, e2, e3, e5, e1, ⟨m, P, em, hL⟩, hc, hw⟩ := id hC
  dsimp only at e0 e4 e2 e3 e5 e1 em hL hc hw
  subst e0 e4 e2 e3 e5 e1 em
  have h21 := hL.1
  obtain ⟨t, -, t1, t2, -⟩ := id hT
  subst t1 t2
  unfold fX7_count fX8_count
  have k8 := count8 hM hB (fun (w_22 : Int32) (w_23 : Int32) => if v = 0 then rdI 558 all 0 (fun x_25 => some (x_25, (0 : Int32))) else if v = 1 then bd1 (fX8_strings all) (fun r_28 => some (r_28, (0 : Int32))) else if v = 2 then rdI 558 all 1 (fun x_31 => some (x_31, (0 : Int32))) else if v = 3 then rdI 558 all 2 (fun x_34 => some (x_34, (0 : Int32))) else if v = 4 then rdI 558 all 3 (fun x_37 => some (x_37, (0 : Int32))) else if v = 5 then rdI 558 all 4 (fun x_40 => some (x_40, (0 : Int32))) else if v = 6 then some (w_22, (0 : Int32)) else if v = 7 then some (w_23, (0 : Int32)) else if v = 8 then some (nI t, (0 : Int32)) else if v = 9 then rdI 558 all 5 (fun x_46 => some (x_46, (0 : Int32))) else some ((-1 : Int32), (0 : Int32)))
  rw [fold_list (t := fun a b => tied B a b) (cuG B) hB.1 hL.2.1.1 hL.2.1.2.1 hL.2.1.2.2, cu_split] at k8
  have s7 := slackStr7 hL hB hw m 0 FU 0 (by omega) (FU_big (by omega))
  have l7 := lenStr7 hL hB m 0 FU 0 (by omega) (FU_big (by omega))
  have r0 : ∀ {β : Type} (k : Int32 → Option β), rdI 558 all 0 k = k (nI (B 0)) := fun k => rd_MB hM (show 0 < 186 by omega) (show 0 < 558 by omega) (by decide)
  have r1 : ∀ {β : Type} (k : Int32 → Option β), rdI 558 all 1 k = k (nI (B 1)) := fun k => rd_MB hM (show 1 < 186 by omega) (show 1 < 558 by omega) (by decide)
  have r2 : ∀ {β : Type} (k : Int32 → Option β), rdI 558 all 2 k = k (nI (B 2)) := fun k => rd_MB hM (show 2 < 186 by omega) (show 2 < 558 by omega) (by decide)
  have r3 : ∀ {β : Type} (k : Int32 → Option β), rdI 558 all 3 k = k (nI (B 3)) := fun k => rd_MB hM (show 3 < 186 by omega) (show 3 < 558 by omega) (by decide)
  have r4 : ∀ {β : Type} (k : Int32 → Option β), rdI 558 all 4 k = k (nI (B 4)) := fun k => rd_MB hM (show 4 < 186 by omega) (show 4 < 558 by omega) (by decide)
  have r5 : ∀ {β : Type} (k : Int32 → Option β), rdI 558 all 5 k = k (nI (B 5)) := fun k => rd_MB hM (show 5 < 186 by omega) (show 5 < 558 by omega) (by decide)
  unfold fX1_slackStrings fX1_lengthOfStrings
  rw [show fX1_slackStrings_4 (nI (B 4)) (nI (B 1)) (nI m) w8 w9 w10 (fun w_7 => some w_7) FU 0 0 = _ from s7, show fX1_lengthOfStrings_4 (nI (B 0)) (nI m) w10 (fun w_7 => some w_7) FU 0 0 = _ from l7, bd1_some, bd1_some]
  refine fin1 k8 ?_ hR
  rw [r0, r1, r2, r3, r4, r5, strings8 hM hB, bd1_some, num_list hL.2.1 hB]
  by_cases c0 : v = 0
  · exact ⟨_, by rw [if_pos c0], by rw [if_pos c0]⟩
  rw [if_neg c0, if_neg c0]
  by_cases c1 : v = 1
  · exact ⟨_, by rw [if_pos c1], by rw [if_pos c1]⟩
  rw [if_neg c1, if_neg c1]
  by_cases c2 : v = 2
  · exact ⟨_, by rw [if_pos c2], by rw [if_pos c2]⟩
  rw [if_neg c2, if_neg c2]
  by_cases c3 : v = 3
  · exact ⟨_, by rw [if_pos c3], by rw [if_pos c3]⟩
  rw [if_neg c3, if_neg c3]
  by_cases c4 : v = 4
  · exact ⟨_, by rw [if_pos c4], by rw [if_pos c4]⟩
  rw [if_neg c4, if_neg c4]
  by_cases c5 : v = 5
  · exact ⟨_, by rw [if_pos c5], by rw [if_pos c5]⟩
  rw [if_neg c5, if_neg c5]
  by_cases c6 : v = 6
  · exact ⟨_, by rw [if_pos c6], by rw [if_pos c6]⟩
  rw [if_neg c6, if_neg c6]
  by_cases c7 : v = 7
  · exact ⟨_, by rw [if_pos c7], by rw [if_pos c7]⟩
  rw [if_neg c7, if_neg c7]
  by_cases c8 : v = 8
  · exact ⟨_, by rw [if_pos c8], by rw [if_pos c8]⟩
  rw [if_neg c8, if_neg c8]
  by_cases c9 : v = 9
  · exact ⟨_, by rw [if_pos c9], by rw [if_pos c9]⟩
  rw [if_neg c9, if_neg c9]
  exact ⟨_, rfl, rfl⟩
