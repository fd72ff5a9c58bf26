-- uses: a_lib b_court c_leaf8 d_loop8 e_list f_why g_leaf h_rel i_state j_gen k_list l_cut m_fill m_img n_rows o_rows2 p_pairs q_gust
/-! gust, more -/
def nd (x : Int32) : Int32 := 1103515245 * x + 12345
def dr (x n : Int32) : Int32 := ((Int32.toUInt32 x >>> (Int32.toUInt32 16 &&& Int32.toUInt32 31)).toInt32) - ((Int32.toUInt32 x >>> (Int32.toUInt32 16 &&& Int32.toUInt32 31)).toInt32) / n * n
theorem shr16 (x : Int32) : ∃ k, k < 65536 ∧ (Int32.toUInt32 x >>> (Int32.toUInt32 16 &&& Int32.toUInt32 31)).toInt32 = nI k := by
  refine ⟨x.toUInt32.toNat / 65536, ?_, ?_⟩
  · have := x.toUInt32.toNat_lt; omega
  · have e : (Int32.toUInt32 16 &&& Int32.toUInt32 31) = 16 := rfl
    rw [e]
    apply Int32.toInt_inj.mp
    have h1 : (x.toUInt32 >>> 16).toNat = x.toUInt32.toNat / 65536 := by
      rw [UInt32.toNat_shiftRight]
      show x.toUInt32.toNat >>> (16 % 32) = _
      rw [Nat.shiftRight_eq_div_pow]
    have h2 := x.toUInt32.toNat_lt
    rw [nI_toInt (by omega)]
    have h3 : (x.toUInt32 >>> 16).toInt32 = nI (x.toUInt32 >>> 16).toNat := by
      show _ = (⟨UInt32.ofNat _⟩ : Int32)
      rw [UInt32.ofNat_toNat]
      rfl
    rw [h3, nI_toInt (by omega), h1]
theorem dr_lt (x : Int32) {n : Nat} (h1 : 1 ≤ n) (h2 : n ≤ 12) : ∃ d, d < n ∧ dr x (nI n) = nI d := by
  obtain ⟨k, hk, e⟩ := shr16 x
  unfold dr
  rw [e]
  exact ⟨k % n, Nat.mod_lt _ (by omega), by rw [pk_rem (by omega) (by omega) (by omega)]⟩
theorem drawn7 (x : Int32) {n : Nat} (h1 : 1 ≤ n) (h2 : n ≤ 12) : fX7_drawn x (nI n) = some (dr x (nI n)) := by
  unfold fX7_drawn nzI
  rw [n1, if_pos (ile h1 (by omega)), if_neg (by rw [n0]; exact ine (by omega) (by omega) (by omega))]
  rfl
theorem draw8 (x : Int32) {n : Nat} (h1 : 1 ≤ n) (h2 : n ≤ 12) : fX8_draw x (nI n) = some (dr (nd x) (nI n), nd x) := by
  unfold fX8_draw nzI
  rw [bnd_e, if_neg (by rw [n0]; exact ine (by omega) (by omega) (by omega))]
  rfl
theorem next7 (x : Int32) : fX7_nextDraw x = some (nd x) := rfl
theorem pairOf7 {a b : Nat} (ha : a < 1000) (hb : b < 1000) : fX7_pairOf (nI a) (nI b) = some (nI (20 * min a b + max a b)) := by
  unfold fX7_pairOf
  rw [bnd_e, bnd_e]
  have e1 : (if nI b < nI a then nI b else nI a) = nI (min a b) := by
    by_cases h : b < a
    · rw [if_pos (ilt h (by omega)), Nat.min_eq_right (by omega)]
    · rw [if_neg (inlt (by omega) (by omega)), Nat.min_eq_left (by omega)]
  have e2 : (if nI a < nI b then nI b else nI a) = nI (max a b) := by
    by_cases h : a < b
    · rw [if_pos (ilt h (by omega)), Nat.max_eq_right (by omega)]
    · rw [if_neg (inlt (by omega) (by omega)), Nat.max_eq_left (by omega)]
  rw [e1, e2, lit 20, pk_mul, nI_add]
theorem tied_sym {B : Nat → Nat} (hB : WF B) {a b : Nat} (ha : a < 12) (hb : b < 12) : tied B a b = tied B b a := by
  unfold tied
  rw [(hB.2.2.2.2.2.2.2.2.2.1 a b ha hb).2.1]
theorem refN_sym {B : Nat → Nat} (hB : WF B) {a b : Nat} (ha : a < 12) (hb : b < 12) : refN B a b = refN B b a := by
  unfold refN
  rw [tied_sym hB ha hb]
  have e1 : (B (6 + a) ≤ degN B a ∨ B (6 + b) ≤ degN B b) = (B (6 + b) ≤ degN B b ∨ B (6 + a) ≤ degN B a) := propext Or.comm
  have e2 : crossesN B a b = crossesN B b a := by unfold crossesN; rw [Nat.min_comm, Nat.max_comm]
  simp only [e1, e2]
theorem CS_rem {B0 : Nat → Nat} {A0 : Nat → Int32} {B : Nat → Nat} {m : Nat} {pr kn A : Nat → Int32} (h : CS B0 A0 B m pr kn A) {a b : Nat} (hab : a < b) (hb : b < B 0) (ht : tied B a b = true) :
    ∃ j pr' kn' A', fX1_indexOf (nI m) pr (nI (20 * a + b)) = some (nI j) ∧ j < m ∧ fX1_removeString (nI m) pr kn (nI j) = some (nI (m - 1), pr', kn') ∧ fX8_sets 558 A (nI a) (nI b) (nI 0) = some A' ∧ CS B0 A0 (setB B a b 0) (m - 1) pr' kn' A' := by
  obtain ⟨hB, hlo, ⟨P, hL⟩, hM, hhi⟩ := h
  have h12 := hB.1
  rcases idx7_pair hL hB hab hb with ⟨_, j, h1, h2, h3⟩ | ⟨h1, _⟩
  · obtain ⟨P', pr', kn', g1, g2⟩ := rem7 hL hB h1
    rw [h2, show (20 * a + b) / 20 = a by omega, show (20 * a + b) % 20 = b by omega] at g2
    obtain ⟨A', s1, s2, s3⟩ := sets8 (v := 0) hM (show 186 ≤ 558 by decide) (by decide) (show a < 12 by omega) (show b < 12 by omega)
    exact ⟨j, pr', kn', A', h3, h1, g1, s1, WF_set hB hab hb (by omega) (Or.inl rfl), fun j hj => by rw [setB_lo B hj]; exact hlo j hj, ⟨P', g2⟩, s2, fun j hj => by rw [s3 j hj]; exact hhi j hj⟩
  · rw [ht] at h1; exact absurd h1 (by decide)
theorem sets_sym {A : Nat → Int32} {B : Nat → Nat} {a b v : Nat} (h : MB A 0 B) (ha : a < 12) (hb : b < 12) (hab : a ≠ b) : fX8_sets 558 A (nI b) (nI a) (nI v) = fX8_sets 558 A (nI a) (nI b) (nI v) := by
  unfold fX8_sets
  rw [idx8, idx8, wrI_nI (by omega) (by decide), wrI_nI (by omega) (by decide), wrI_nI (by omega) (by decide), wrI_nI (by omega) (by decide), fa_upd_swap A (by omega)]
theorem blow_step {B0 : Nat → Nat} {A0 w7 : Nat → Int32} (hc : ∀ w, w < B0 0 → w7 w = nI (B0 (6 + w))) {B : Nat → Nat} {m : Nat} {pr kn A : Nat → Int32} (h : CS B0 A0 B m pr kn A) (hn : 1 ≤ B 0) (x : Int32) :
    ∃ x' B' m' pr' kn' A', fX7_blow (nI (B0 0)) (nI m) w7 pr kn x = some (x', nI m', pr', kn') ∧ CS B0 A0 B' m' pr' kn' A' ∧
      ∀ v2 K n l3, fX8_gust_39 v2 K (n + 1) l3 A x = if v2 ≤ l3 then K A x else fX8_gust_39 v2 K n (l3 + 1) A' x' := by
  obtain ⟨hB, hlo, ⟨P, hL⟩, hM, hhi⟩ := id h
  have h12 := hB.1
  have e0 : B0 0 = B 0 := (hlo 0 (by omega)).symm
  have h21 := hL.1
  obtain ⟨a, ha, ea⟩ := dr_lt (nd x) hn h12
  obtain ⟨b, hb, eb⟩ := dr_lt (nd (nd x)) hn h12
  obtain ⟨q, hq, eq⟩ := dr_lt (nd (nd (nd x))) (show 1 ≤ 3 by omega) (by omega)
  have e8 : ∀ v2 K n l3, fX8_gust_39 v2 K (n + 1) l3 A x = if v2 ≤ l3 then K A x else (if nI a = nI b then fX8_gust_39 v2 K n (l3 + 1) A (nd (nd x)) else bd1 (fX8_isTied A (nI a) (nI b)) (fun r_19 => if r_19 = 0 then bd1 (fX8_refusesIn 558 A (nI a) (nI b)) (fun r_22 => if r_22 = 0 then bd1 (fX8_sets 558 A (nI a) (nI b) (nI (q + 1))) (fun t_all_28 => fX8_gust_39 v2 K n (l3 + 1) t_all_28 (nd (nd (nd x)))) else fX8_gust_39 v2 K n (l3 + 1) A (nd (nd x))) else bd1 (fX8_sets 558 A (nI a) (nI b) (nI 0)) (fun t_all_30 => fX8_gust_39 v2 K n (l3 + 1) t_all_30 (nd (nd x))))) := by
    intro v2 K n l3
    rw [fX8_gust_39]
    by_cases hv : v2 ≤ l3
    · rw [if_pos hv, if_pos hv]
    · rw [if_neg hv, if_neg hv, show (0 : Int32) = nI 0 from rfl, rd_MB hM (by omega) (by omega) (by decide), draw8 x hn h12, bd2_some, rd_MB hM (by omega) (by omega) (by decide), draw8 (nd x) hn h12, bd2_some, ea, eb, lit 3, draw8 (nd (nd x)) (by omega) (by omega), eq]
      simp only [bd2_some, n1, nI_add, Nat.add_comm 1 q]
  have e7 : fX7_blow (nI (B0 0)) (nI m) w7 pr kn x = bd1 (fX1_indexOf (nI m) pr (nI (20 * min a b + max a b))) (fun r_11 => if r_11 = (-1) then bd1 (fX1_whyNot (nI (B 0)) (nI m) w7 pr (nI (20 * min a b + max a b))) (fun r_14 => if r_14 = 0 then bd3 (fX1_addString (nI m) pr kn (nI (20 * min a b + max a b)) (nI q)) (fun now_strings_21 now_pairs_22 now_knots_23 => some (nd (nd (nd x)), now_strings_21, now_pairs_22, now_knots_23)) else some (nd (nd x), nI m, pr, kn)) else bd3 (fX1_removeString (nI m) pr kn r_11) (fun now_strings_25 now_pairs_26 now_knots_27 => some (nd (nd x), now_strings_25, now_pairs_26, now_knots_27))) := by
    unfold fX7_blow
    rw [next7, bd1_some, e0, drawn7 _ hn h12, bd1_some, next7, bd1_some, drawn7 _ hn h12, bd1_some, ea, eb, pairOf7 (by omega) (by omega), bd1_some]
    simp only [next7, bd1_some]
    rw [lit 3, drawn7 _ (by omega) (by omega), eq]
    rfl
  rw [e7]
  by_cases hab : a = b
  · subst hab
    rw [Nat.min_self, Nat.max_self]
    have hnp : whyN B (nI (20 * a + a)).toInt = 1 := by
      unfold whyN
      rw [nI_toInt (by omega), pairZ_nat, show (20 * a + a) / 20 = a by omega, show (20 * a + a) % 20 = a by omega, if_neg (by simp)]
    refine ⟨nd (nd x), B, m, pr, kn, A, ?_, h, fun v2 K n l3 => by rw [e8, if_pos rfl]⟩
    rcases idx7 hL (nI (20 * a + a)) with ⟨j, h1, h2, h3⟩ | ⟨h1, h2⟩
    · have p1 := hL.2.1.1 j h1
      have := (nI_eq (by omega) (by omega)).mp h2
      omega
    · rw [h2, bd1_some, if_pos rfl, why7 hL hB (cans_lo hB hlo hc), hnp]
      rfl
  · have hA : ∀ v, fX8_sets 558 A (nI a) (nI b) (nI v) = fX8_sets 558 A (nI (min a b)) (nI (max a b)) (nI v) := by
      intro v
      by_cases q : a < b
      · rw [Nat.min_eq_left (by omega), Nat.max_eq_right (by omega)]
      · rw [Nat.min_eq_right (by omega), Nat.max_eq_left (by omega)]; exact sets_sym hM (by omega) (by omega) (by omega)
    have hT : tied B a b = tied B (min a b) (max a b) := by
      by_cases q : a < b
      · rw [Nat.min_eq_left (by omega), Nat.max_eq_right (by omega)]
      · rw [Nat.min_eq_right (by omega), Nat.max_eq_left (by omega)]; exact tied_sym hB (by omega) (by omega)
    have hR : refN B a b = refN B (min a b) (max a b) := by
      by_cases q : a < b
      · rw [Nat.min_eq_left (by omega), Nat.max_eq_right (by omega)]
      · rw [Nat.min_eq_right (by omega), Nat.max_eq_left (by omega)]; exact refN_sym hB (by omega) (by omega)
    have e9 : ∀ v2 K n l3, fX8_gust_39 v2 K (n + 1) l3 A x = if v2 ≤ l3 then K A x else (if tied B (min a b) (max a b) then bd1 (fX8_sets 558 A (nI (min a b)) (nI (max a b)) (nI 0)) (fun t_all_30 => fX8_gust_39 v2 K n (l3 + 1) t_all_30 (nd (nd x))) else if nI (refN B (min a b) (max a b)) = 0 then bd1 (fX8_sets 558 A (nI (min a b)) (nI (max a b)) (nI (q + 1))) (fun t_all_28 => fX8_gust_39 v2 K n (l3 + 1) t_all_28 (nd (nd (nd x)))) else fX8_gust_39 v2 K n (l3 + 1) A (nd (nd x))) := by
      intro v2 K n l3
      rw [e8, if_neg (ine hab (by omega) (by omega)), isTied8 hM hB (by omega) (by omega), bd1_some, bI_0', ref8 hM hB (by decide) (by decide) (by omega) (by omega), bd1_some, hA, hA, hT, hR]
    generalize hlow : min a b = c at *
    generalize hhig : max a b = d at *
    have hcd : c < d := by omega
    have hd : d < B 0 := by omega
    cases ht : tied B c d with
    | true =>
      obtain ⟨j, pr', kn', A', g1, g2, g3, g4, g5⟩ := CS_rem h hcd hd ht
      refine ⟨nd (nd x), _, _, pr', kn', A', ?_, g5, fun v2 K n l3 => ?_⟩
      · rw [g1, bd1_some, if_neg (m1_ne (by omega)), g3]; rfl
      · rw [e9, ht, g4, bd1_some]; rfl
    | false =>
      have hidx : fX1_indexOf (nI m) pr (nI (20 * c + d)) = some (-1) := by
        rcases idx7_pair hL hB hcd hd with ⟨h1, _⟩ | ⟨_, h2⟩
        · rw [ht] at h1; exact absurd h1 (by decide)
        · exact h2
      have hwhy : fX1_whyNot (nI (B 0)) (nI m) w7 pr (nI (20 * c + d)) = some (nI (refN B c d)) := by
        rw [why7 hL hB (cans_lo hB hlo hc), nI_toInt (by omega), whyN_pair hcd hd h12]
      rw [hidx, bd1_some, if_pos rfl, hwhy, bd1_some]
      have hle := refN_le B c d
      by_cases hr : refN B c d = 0
      · obtain ⟨pr', kn', A', g1, g2, g3⟩ := CS_add h hcd hd hr (show q ≤ 9 by omega)
        refine ⟨nd (nd (nd x)), _, _, pr', kn', A', ?_, g3, fun v2 K n l3 => ?_⟩
        · rw [hr, if_pos (show nI 0 = 0 from rfl), g1]; rfl
        · rw [e9, ht, hr, if_pos (show nI 0 = 0 from rfl), g2, bd1_some]; rfl
      · have hne : ¬ nI (refN B c d) = 0 := by rw [n0]; exact ine hr (by omega) (by decide)
        refine ⟨nd (nd x), B, m, pr, kn, A, by rw [if_neg hne], h, fun v2 K n l3 => ?_⟩
        rw [e9, ht, if_neg hne]; rfl
theorem gust_loop {B0 : Nat → Nat} {A0 w7 : Nat → Int32} (hc : ∀ w, w < B0 0 → w7 w = nI (B0 (6 + w))) (hn : 1 ≤ B0 0) {t : Nat} (ht : t ≤ 60) (K7 : Int32 → (Nat → Int32) → (Nat → Int32) → Option (Int32 × Int32 × (Nat → Int32) × (Nat → Int32))) (K8 : (Nat → Int32) → Int32 → Option (Int32 × Int32 × (Nat → Int32) × Int32)) :
    ∀ l i F G x B m pr kn A, i + l = t → l < F → l < G → CS B0 A0 B m pr kn A →
    ∃ x' B' m' pr' kn' A', fX7_gust_33 (nI t) (nI (B0 0)) w7 K7 F x (nI i) (nI m) pr kn = K7 (nI m') pr' kn' ∧ fX8_gust_39 (nI t) K8 G (nI i) A x = K8 A' x' ∧ CS B0 A0 B' m' pr' kn' A' := by
  intro l
  induction l with
  | zero =>
    intro i F G x B m pr kn A hi hF hG h
    obtain ⟨F, rfl⟩ : ∃ m, F = m + 1 := ⟨F - 1, by omega⟩
    obtain ⟨G, rfl⟩ : ∃ m, G = m + 1 := ⟨G - 1, by omega⟩
    refine ⟨x, B, m, pr, kn, A, ?_, ?_, h⟩
    · rw [fX7_gust_33, if_pos (ile (by omega) (by omega))]
    · rw [fX8_gust_39, if_pos (ile (by omega) (by omega))]
  | succ l ih =>
    intro i F G x B m pr kn A hi hF hG h
    obtain ⟨F, rfl⟩ : ∃ m, F = m + 1 := ⟨F - 1, by omega⟩
    obtain ⟨G, rfl⟩ : ∃ m, G = m + 1 := ⟨G - 1, by omega⟩
    obtain ⟨x', B', m', pr', kn', A', g1, g2, g3⟩ := blow_step hc h (by rw [h.2.1 0 (by omega)]; exact hn) x
    rw [fX7_gust_33, if_neg (inle (by omega) (by omega)), g1, bd4_some, g3, if_neg (inle (by omega) (by omega)), nI_inc]
    exact ih (i + 1) F G x' B' m' pr' kn' A' (by omega) (by omega) (by omega) g2
theorem st_gust : Step_gust Rel0 := by
  intro w0 w1 w2 w3 w4 w5 w6 w7 w8 w9 w10 w11 xt xn xf xp rs rz rv made im all has mt mn mf mp so ma nu th mx v u hR
  obtain ⟨⟨B, hB, hM, hC⟩, hT, hF, hRw, hI⟩ := id hR
  obtain ⟨e0, e4, e2, e3, e5, e1, ⟨m, P, em, hL⟩, hc, hw⟩ := id hC
  dsimp only at e0 e4 e2 e3 e5 e1 em hL hc hw
  subst e0 e4 e2 e3 e5 e1 em
  have h12 := hB.1
  unfold fX7_gust fX8_gust
  rw [show (0 : Int32) = nI 0 from rfl, rd_MB hM (by omega) (by omega) (by decide), n1]
  by_cases hn : B 0 = 0
  · rw [if_neg (inle (by omega) (by decide)), if_pos (by rw [hn])]
    exact ⟨-5, nI m, w10, w11, nI 0, all, mx, rfl, rfl, hR⟩
  · rw [if_pos (ile (by omega) (by omega)), if_neg (ine hn (by omega) (by decide)), within_eq, show (1 : Int64).toInt = 1 from rfl, show (60 : Int64).toInt = 60 from rfl, Int32.toInt_toInt64, bd1_some, show nI 0 = (0 : Int32) from rfl, bI_0']
    have ee1 : (u < nI 1) = (u.toInt < 1) := by rw [Int32.lt_iff_toInt_lt]; rfl
    have ee2 : (u ≤ 60) = (u.toInt ≤ 60) := by rw [Int32.le_iff_toInt_le]; rfl
    by_cases h1 : u.toInt < 1
    · exact ⟨-3, nI m, w10, w11, 0, all, mx, by rw [if_pos (by rw [ee1]; exact h1)], by rw [decide_eq_false (by omega)]; rfl, hR⟩
    · by_cases h2 : u.toInt ≤ 60
      · obtain ⟨t, ht, rfl⟩ : ∃ t, t ≤ 60 ∧ u = nI t := ⟨u.toInt.toNat, by omega, by
          apply Int32.toInt_inj.mp
          rw [nI_toInt (by omega)]
          omega⟩
        rw [if_neg (by rw [ee1]; exact h1), if_pos (by rw [ee2]; exact h2), decide_eq_true (by omega), if_pos rfl]
        obtain ⟨x', B', m', pr', kn', A', g1, g2, g3, g4, ⟨P', g5⟩, g6, g7⟩ := gust_loop hc (show 1 ≤ B 0 by omega) ht (fun (now_strings_10 : Int32) (now_pairs_11 : Nat → Int32) (now_knots_12 : Nat → Int32) => some (now_strings_10, now_strings_10, now_pairs_11, now_knots_12)) (fun (t_all_32 : Nat → Int32) (t_x_33 : Int32) => bd1 (fX8_strings t_all_32) (fun r_34 => some (r_34, (0 : Int32), t_all_32, t_x_33))) t 0 FU FU v B m w10 w11 all (by omega) (FU_big (by omega)) (FU_big (by omega)) ⟨hB, fun _ _ => rfl, ⟨P, hL⟩, hM, fun _ _ => rfl⟩
        rw [strings8 g6 g3, bd1_some, num_list g5.2.1 g3] at g2
        exact ⟨nI m', nI m', pr', kn', 0, A', x', g1, g2, ⟨B', g3, g6, CR_lo hB hc hw g4 g5⟩, hT, hF, hRw, imgs_keep hI g7⟩
      · exact ⟨-3, nI m, w10, w11, 0, all, mx, by rw [if_neg (by rw [ee1]; exact h1), if_neg (by rw [ee2]; exact h2)], by rw [decide_eq_false (by omega)]; rfl, hR⟩
