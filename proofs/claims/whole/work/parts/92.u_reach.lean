-- uses: a_lib b_court c_leaf8 d_loop8 e_list f_why g_leaf h_rel i_state j_gen k_list l_cut m_fill m_img n_rows o_rows2 p_pairs q_gust r_gust s_more t_links
/-! what a window can reach -/
def Reach (p : Nat → Nat → Prop) (w v : Nat) : Prop := ∀ S : Nat → Prop, S w → (∀ a b, S a → p a b → S b) → S v
theorem Reach.here {p : Nat → Nat → Prop} {w : Nat} : Reach p w w := fun _ h _ => h
theorem Reach.on {p : Nat → Nat → Prop} {w u v : Nat} (h : Reach p w u) (hp : p u v) : Reach p w v := fun S h1 h2 => h2 u v (h S h1 h2) hp
theorem Reach.ind {p : Nat → Nat → Prop} {w : Nat} {motive : Nat → Prop} (here : motive w) (on : ∀ u v, Reach p w u → p u v → motive u → motive v) {v : Nat} (h : Reach p w v) : motive v :=
  (h (fun v => Reach p w v ∧ motive v) ⟨Reach.here, here⟩ (fun a b h1 h2 => ⟨Reach.on h1.1 h2, on a b h1.1 h2 h1.2⟩)).2
theorem ct_lt {p q : Nat → Bool} : ∀ n, (∀ k, k < n → p k = true → q k = true) → (∃ v, v < n ∧ q v = true ∧ p v = false) → fb_ct p n + 1 ≤ fb_ct q n
  | 0, _, ⟨v, h, _⟩ => absurd h (by omega)
  | n + 1, h, ⟨v, h1, h2, h3⟩ => by
    have hm : ∀ m, (∀ k, k < m → p k = true → q k = true) → fb_ct p m ≤ fb_ct q m := by
      intro m
      induction m with
      | zero => intro _; exact Nat.le_refl 0
      | succ m ih =>
        intro h
        have := ih (fun k hk => h k (by omega))
        rw [fb_ct_succ, fb_ct_succ]
        cases hp : p m with
        | false => simp only [Bool.false_eq_true, if_false]; omega
        | true => rw [h m (by omega) hp]; simp only [if_true]; omega
    rw [fb_ct_succ, fb_ct_succ]
    by_cases e : v = n
    · subst e
      rw [h2, h3]
      have := hm v (fun k hk => h k (by omega))
      simp only [Bool.false_eq_true, if_false, if_true]; omega
    · have := ct_lt n (fun k hk => h k (by omega)) ⟨v, by omega, h2, h3⟩
      cases hp : p n with
      | false => simp only [Bool.false_eq_true, if_false]; omega
      | true => rw [h n (by omega) hp]; simp only [if_true]; omega
theorem ct_beyond {p : Nat → Bool} {n : Nat} (h : ∀ k, n ≤ k → p k = false) : ∀ m, fb_ct p (n + m) = fb_ct p n
  | 0 => rfl
  | m + 1 => by rw [← Nat.add_assoc, fb_ct_succ, ct_beyond h m, h (n + m) (by omega)]; rfl
/-- a set that is closed, and no larger than need be -/
theorem closed_reach {p : Nat → Nat → Prop} {w x : Nat} {n : Nat} {q : Nat → Prop} (h : Bits x n q) (h1 : q w) (h2 : ∀ v, q v → Reach p w v) (h3 : ∀ u v, q u → p u v → q v) : Bits x n (Reach p w) := by
  refine h.congr (fun k => ⟨h2 k, fun hk => ?_⟩)
  exact hk q h1 h3
theorem linksOf_loop {links : Nat → Int32} {p : Nat → Nat → Prop} (h : LK links p) {n : Nat} (hn : n ≤ 12) {x : Nat} {q : Nat → Prop} (hx : Bits x 12 q) (K : Int32 → Option Int32) : ∀ k i F y, i + k = n → k < F → Bits y 12 (fun v => ∃ u, u < i ∧ q u ∧ p u v) → ∃ y', fX6_linksOf_4 (nI x) (nI n) links K F (nI y) (nI i) = K (nI y') ∧ Bits y' 12 (fun v => ∃ u, u < n ∧ q u ∧ p u v) := by
  intro k
  induction k with
  | zero =>
    intro i F y hi hF hy
    obtain ⟨F, rfl⟩ : ∃ m, F = m + 1 := ⟨F - 1, by omega⟩
    obtain rfl : i = n := by omega
    exact ⟨y, by rw [fX6_linksOf_4, if_pos (ile (by omega) (by omega))], hy⟩
  | succ k ih =>
    intro i F y hi hF hy
    obtain ⟨F, rfl⟩ : ∃ m, F = m + 1 := ⟨F - 1, by omega⟩
    obtain ⟨z, z1, z2⟩ := h i (by omega)
    have : Decidable (q i) := Classical.propDecidable _
    rw [fX6_linksOf_4, if_neg (inle (by omega) (by omega)), bit_if hx (by omega) (by omega), rdI_nI (by omega) (by decide), bnd_e, z1, fa_or, nI_inc]
    by_cases hq : q i
    · rw [if_pos hq]
      refine ih (i + 1) F _ (by omega) (by omega) ((hy.or z2).congr (fun v => ⟨?_, ?_⟩))
      · rintro (⟨u, h1, h2, h3⟩ | h1)
        · exact ⟨u, by omega, h2, h3⟩
        · exact ⟨i, by omega, hq, h1⟩
      · rintro ⟨u, h1, h2, h3⟩
        by_cases e : u = i
        · subst e; exact Or.inr h3
        · exact Or.inl ⟨u, by omega, h2, h3⟩
    · rw [if_neg hq]
      refine ih (i + 1) F y (by omega) (by omega) (hy.congr (fun v => ⟨?_, ?_⟩))
      · rintro ⟨u, h1, h2, h3⟩; exact ⟨u, by omega, h2, h3⟩
      · rintro ⟨u, h1, h2, h3⟩
        by_cases e : u = i
        · subst e; exact absurd h2 hq
        · exact ⟨u, by omega, h2, h3⟩
theorem linksOf7 {links : Nat → Int32} {p : Nat → Nat → Prop} (h : LK links p) {n : Nat} (hn : n ≤ 12) {x : Nat} {q : Nat → Prop} (hx : Bits x 12 q) (hq : ∀ u, q u → u < n) : ∃ y, fX6_linksOf (nI n) links (nI x) = some (nI y) ∧ Bits y 12 (fun v => ∃ u, q u ∧ p u v) := by
  unfold fX6_linksOf
  obtain ⟨y, h1, h2⟩ := linksOf_loop h hn hx (fun w => some w) n 0 FU 0 (by omega) (FU_big (by omega)) (bits0 (fun k ⟨u, hu, _⟩ => by omega))
  exact ⟨y, h1, h2.congr (fun v => ⟨fun ⟨u, _, a, b⟩ => ⟨u, a, b⟩, fun ⟨u, a, b⟩ => ⟨u, hq u a, a, b⟩⟩)⟩
theorem bits_empty {x n : Nat} {q : Nat → Prop} (h : Bits x n q) (e : x = 0) : ∀ k, ¬ q k := fun k hk => by
  have := (h.2 k).mpr hk
  rw [e, Nat.zero_testBit] at this
  exact absurd this (by decide)
theorem bits_some {x n : Nat} {q : Nat → Prop} (h : Bits x n q) (e : x ≠ 0) : ∃ k, q k := by
  obtain ⟨k, hk⟩ := Nat.exists_testBit_of_ne_zero e
  exact ⟨k, (h.2 k).mp hk⟩
theorem reach_loop {links : Nat → Int32} {p : Nat → Nat → Prop} (h : LK links p) {n w : Nat} (hn : n ≤ 12) (hp : ∀ u v, p u v → v < n) (K : Int32 → Option Int32) : ∀ k i F s W (q r : Nat → Prop), i + k = n → k < F → Bits s 12 q → Bits W 12 r → q w → (∀ v, q v → Reach p w v) → (∀ v, q v → v < n) → (∀ v, r v → q v) → (∀ u v, q u → ¬ r u → p u v → q v) → (W ≠ 0 → i + 1 ≤ fb_ct (fun k => s.testBit k) 12) →
    ∃ x, fX6_reachOf_9 (nI n) links K F (nI s) (nI W) (nI i) = K (nI x) ∧ Bits x 12 (Reach p w) := by
  intro k
  induction k with
  | zero =>
    intro i F s W q r hi hF hs hW h1 h2 h3 h4 h5 h6
    obtain ⟨F, rfl⟩ : ∃ m, F = m + 1 := ⟨F - 1, by omega⟩
    obtain rfl : i = n := by omega
    refine ⟨s, by rw [fX6_reachOf_9, if_pos (ile (by omega) (by omega))], closed_reach hs h1 h2 (fun u v hu hpv => ?_)⟩
    have : W = 0 := by
      rcases Nat.eq_zero_or_pos W with e | e
      · exact e
      · have g1 := h6 (by omega)
        have g2 : ∀ k, i ≤ k → s.testBit k = false := fun k hk => by
          cases e2 : s.testBit k with
          | false => rfl
          | true => have := h3 k ((hs.2 k).mp e2); omega
        have g3 := ct_beyond (p := fun k => s.testBit k) g2 (12 - i)
        rw [show i + (12 - i) = 12 by omega] at g3
        have g4 := fb_ct_le (fun k => s.testBit k) i
        omega
    exact h5 u v hu (bits_empty hW this u) hpv
  | succ k ih =>
    intro i F s W q r hi hF hs hW h1 h2 h3 h4 h5 h6
    obtain ⟨F, rfl⟩ : ∃ m, F = m + 1 := ⟨F - 1, by omega⟩
    rw [fX6_reachOf_9, if_neg (inle (by omega) (by omega))]
    have hW12 := hW.1
    by_cases e : W = 0
    · refine ⟨s, by rw [if_pos (by rw [e]; rfl)], closed_reach hs h1 h2 (fun u v hu hpv => h5 u v hu (bits_empty hW e u) hpv)⟩
    · obtain ⟨y, g1, g2⟩ := linksOf7 h hn hW (fun u hu => h3 u (h4 u hu))
      rw [if_neg (by rw [n0]; exact ine e (by omega) (by decide)), g1, bd1_some, bnd_e, bnd_e, not_nI, fa_and, fa_or, nI_inc]
      have b1 := g2.andnot hs (by omega)
      refine ih (i + 1) F _ _ _ _ (by omega) (by omega) (hs.or b1) b1 (Or.inl h1) ?_ ?_ (fun v hv => Or.inr hv) ?_ (fun hne => ?_)
      · rintro v (hv | ⟨⟨u, hu, hpv⟩, _⟩)
        · exact h2 v hv
        · exact Reach.on (h2 u (h4 u hu)) hpv
      · rintro v (hv | ⟨⟨u, hu, hpv⟩, _⟩)
        · exact h3 v hv
        · exact hp u v hpv
      · rintro u v (hu | hu) hnr hpv
        · by_cases hr : r u
          · by_cases hqv : q v
            · exact Or.inl hqv
            · exact Or.inr ⟨⟨u, hr, hpv⟩, hqv⟩
          · exact Or.inl (h5 u v hu hr hpv)
        · exact absurd hu hnr
      · obtain ⟨v, hv⟩ := bits_some b1 hne
        have g5 := h6 e
        have g6 := ct_lt (p := fun k => s.testBit k) (q := fun k => (s ||| (y &&& (s ^^^ (2 ^ 32 - 1)))).testBit k) 12 (fun k _ hk => ((hs.or b1).2 k).mpr (Or.inl ((hs.2 k).mp hk))) ⟨v, by have := b1.lt hv; omega, ((hs.or b1).2 v).mpr (Or.inr hv), by
          cases e2 : s.testBit v with
          | false => rfl
          | true => exact absurd ((hs.2 v).mp e2) hv.2⟩
        omega
theorem reach7 {links : Nat → Int32} {p : Nat → Nat → Prop} (h : LK links p) {n w : Nat} (hn : n ≤ 12) (hp : ∀ u v, p u v → v < n) (hw : w < n) : ∃ x, fX6_reachOf (nI n) links (nI w) = some (nI x) ∧ Bits x 12 (Reach p w) := by
  unfold fX6_reachOf
  rw [bnd_e, sh1 (by omega)]
  have b := bits1 (show w < 12 by omega)
  exact reach_loop h hn hp (fun w => some w) n 0 FU _ _ _ _ (by omega) (FU_big (by omega)) b b rfl (fun v hv => by subst hv; exact Reach.here) (fun v hv => by omega) (fun v hv => hv) (fun u v hu hnr _ => absurd hu hnr) (fun _ => by
    have := ct_lt (p := fun _ => false) (q := fun k => (2 ^ w).testBit k) 12 (fun k _ hk => absurd hk (by decide)) ⟨w, by omega, (b.2 w).mpr rfl, rfl⟩
    omega)
theorem part8_in {A : Nat → Int32} {B : Nat → Nat} (h : MB A 0 B) (hB : WF B) {x : Nat} {q : Nat → Prop} (hx : Bits x 12 q) (hq : ∀ u, q u → u < B 0) (K : Int32 → Option Int32) : ∀ k i F y (r : Nat → Prop), i + k = B 0 → k < F → Bits y 12 (fun v => r v ∨ ∃ u, u < i ∧ q u ∧ tk B (B 1) u v) → ∃ y', fX8_partOf_16 (nI x) A K F (nI y) (nI i) = K (nI y') ∧ Bits y' 12 (fun v => r v ∨ ∃ u, q u ∧ tk B (B 1) u v) := by
  have h12 := hB.1
  intro k
  induction k with
  | zero =>
    intro i F y r hi hF hy
    obtain ⟨F, rfl⟩ : ∃ m, F = m + 1 := ⟨F - 1, by omega⟩
    refine ⟨y, by rw [fX8_partOf_16, n0, rd_MB h (by omega) (by omega) (by decide), if_pos (ile (by omega) (by omega))], hy.congr (fun v => ⟨?_, ?_⟩)⟩
    · rintro (h1 | ⟨u, _, a, b⟩)
      · exact Or.inl h1
      · exact Or.inr ⟨u, a, b⟩
    · rintro (h1 | ⟨u, a, b⟩)
      · exact Or.inl h1
      · exact Or.inr ⟨u, by have := hq u a; omega, a, b⟩
  | succ k ih =>
    intro i F y r hi hF hy
    obtain ⟨F, rfl⟩ : ∃ m, F = m + 1 := ⟨F - 1, by omega⟩
    obtain ⟨z, z1, z2⟩ := leads8 h hB (show i < 12 by omega)
    have hx30 : x < 2 ^ 30 := Nat.lt_of_lt_of_le hx.1 (by decide)
    rw [fX8_partOf_16, n0, rd_MB h (by omega) (by omega) (by decide), if_neg (inle (by omega) (by omega)), jn_eq]
    by_cases hb : x.testBit i = true
    · have hqi := (hx.2 i).mp hb
      rw [if_pos (by rw [bit_nI hx30 (by omega)]; exact hb), z1, bd1_some]
      dsimp only
      rw [bnd_e, fa_or, nI_inc]
      refine ih (i + 1) F _ r (by omega) (by omega) ((hy.or z2).congr (fun v => ⟨?_, ?_⟩))
      · rintro ((h1 | ⟨u, a, b, c⟩) | h1)
        · exact Or.inl h1
        · exact Or.inr ⟨u, by omega, b, c⟩
        · exact Or.inr ⟨i, by omega, hqi, h1⟩
      · rintro (h1 | ⟨u, a, b, c⟩)
        · exact Or.inl (Or.inl h1)
        · by_cases e : u = i
          · subst e; exact Or.inr c
          · exact Or.inl (Or.inr ⟨u, by omega, b, c⟩)
    · have hqi : ¬ q i := fun hq => hb ((hx.2 i).mpr hq)
      rw [if_neg (by rw [bit_nI hx30 (by omega)]; exact hb)]
      dsimp only
      rw [bnd_e, fa_or, Nat.or_zero, nI_inc]
      refine ih (i + 1) F y r (by omega) (by omega) (hy.congr (fun v => ⟨?_, ?_⟩))
      · rintro (h1 | ⟨u, a, b, c⟩)
        · exact Or.inl h1
        · exact Or.inr ⟨u, by omega, b, c⟩
      · rintro (h1 | ⟨u, a, b, c⟩)
        · exact Or.inl h1
        · by_cases e : u = i
          · subst e; exact absurd b hqi
          · exact Or.inr ⟨u, by omega, b, c⟩
theorem part8_loop {A : Nat → Int32} {B : Nat → Nat} (h : MB A 0 B) (hB : WF B) {w : Nat} (K : Int32 → Option Int32) : ∀ μ F s t (q r : Nat → Prop), 2 * (12 - fb_ct (fun k => s.testBit k) 12) + (if t = s then 0 else 1) ≤ μ → μ < F → Bits s 12 q → Bits t 12 r → q w → (∀ v, q v → Reach (tk B (B 1)) w v) → (∀ v, q v → v < B 0) → (∀ v, r v → q v) → (∀ u v, r u → tk B (B 1) u v → q v) →
    ∃ x, fX8_partOf_6 A K F (nI s) (nI t) = K (nI x) ∧ Bits x 12 (Reach (tk B (B 1)) w) := by
  have h12 := hB.1
  intro μ
  induction μ with
  | zero =>
    intro F s t q r hμ hF hs ht h1 h2 h3 h4 h5
    obtain ⟨F, rfl⟩ : ∃ m, F = m + 1 := ⟨F - 1, by omega⟩
    have e : t = s := by
      by_cases e : t = s
      · exact e
      · rw [if_neg e] at hμ; omega
    refine ⟨s, by rw [fX8_partOf_6, if_pos (by rw [e])], closed_reach hs h1 h2 (fun u v hu hpv => ?_)⟩
    exact h5 u v ((ht.2 u).mp (by rw [e]; exact (hs.2 u).mpr hu)) hpv
  | succ μ ih =>
    intro F s t q r hμ hF hs ht h1 h2 h3 h4 h5
    obtain ⟨F, rfl⟩ : ∃ m, F = m + 1 := ⟨F - 1, by omega⟩
    have hs12 := hs.1
    have ht12 := ht.1
    by_cases e : t = s
    · refine ⟨s, by rw [fX8_partOf_6, if_pos (by rw [e])], closed_reach hs h1 h2 (fun u v hu hpv => ?_)⟩
      exact h5 u v ((ht.2 u).mp (by rw [e]; exact (hs.2 u).mpr hu)) hpv
    · rw [fX8_partOf_6, if_neg (ine e (by omega) (by omega)), n0]
      rw [if_neg e] at hμ
      obtain ⟨y, g1, g2⟩ := part8_in h hB hs h3 (fun (w_12 : Int32) => fX8_partOf_6 A K F w_12 (nI s)) (B 0) 0 FU s q (by omega) (FU_big (by omega)) (hs.congr (fun v => ⟨fun hv => Or.inl hv, fun hv => by
        rcases hv with hv | ⟨u, hu, _⟩
        · exact hv
        · omega⟩))
      rw [g1]
      refine ih F y s _ _ ?_ (by omega) g2 hs (Or.inl h1) ?_ ?_ (fun v hv => Or.inl hv) (fun u v hu hp => Or.inr ⟨u, hu, hp⟩)
      · by_cases e2 : s = y
        · rw [if_pos e2, ← e2]; omega
        · rw [if_neg e2]
          have := ct_lt (p := fun k => s.testBit k) (q := fun k => y.testBit k) 12 (fun k _ hk => (g2.2 k).mpr (Or.inl ((hs.2 k).mp hk))) (by
            obtain ⟨v, hv⟩ := Nat.exists_testBit_ne_of_ne e2
            have hyv : y.testBit v = true ∧ s.testBit v = false := by
              cases e3 : s.testBit v with
              | false => rw [e3] at hv; exact ⟨by simpa using hv, rfl⟩
              | true =>
                have := (g2.2 v).mpr (Or.inl ((hs.2 v).mp e3))
                rw [e3, this] at hv
                exact absurd rfl hv
            exact ⟨v, g2.lt ((g2.2 v).mp hyv.1), hyv.1, hyv.2⟩)
          have h6 := fb_ct_le (fun k => y.testBit k) 12
          omega
      · rintro v (hv | ⟨u, hu, hp⟩)
        · exact h2 v hv
        · exact Reach.on (h2 u hu) hp
      · rintro v (hv | ⟨u, hu, hp⟩)
        · exact h3 v hv
        · exact (talk_in hB hp.1 hp.2.1 hp.2.2).2.2
theorem part8 {A : Nat → Int32} {B : Nat → Nat} (h : MB A 0 B) (hB : WF B) {w : Nat} (hw : w < B 0) : ∃ x, fX8_partOf A (nI w) = some (nI x) ∧ Bits x 12 (Reach (tk B (B 1)) w) := by
  have h12 := hB.1
  unfold fX8_partOf
  rw [bnd_e, sh1 (by omega)]
  have b := bits1 (show w < 12 by omega)
  exact part8_loop h hB (fun w => some w) 100 FU _ 0 _ (fun _ => False) (by split <;> omega) (FU_big (by omega)) b (bits0 (fun _ h => h)) rfl (fun v hv => by subst hv; exact Reach.here) (fun v hv => by omega) (fun v hv => absurd hv id) (fun u v hu _ => absurd hu id)
theorem tk_lt {B : Nat → Nat} (hB : WF B) {hr : Nat} : ∀ u v, tk B hr u v → v < B 0 := fun u v h => (talk_in hB h.1 h.2.1 h.2.2).2.2
theorem st_part : Step_part Rel0 := by
  intro w0 w1 w2 w3 w4 w5 w6 w7 w8 w9 w10 w11 xt xn xf xp rs rz rv made im all has mt mn mf mp so ma nu y0 y1 y2 th v hR
  obtain ⟨⟨B, hB, hM, hC⟩, hT, hF, hRw, hI⟩ := id hR
  obtain ⟨e0, e4, e2, e3, e5, e1, ⟨m, P, em, hL⟩, hc, hw⟩ := id hC
  dsimp only at e0 e4 e2 e3 e5 e1 em hL hc hw
  subst e0 e4 e2 e3 e5 e1 em
  have h12 := hB.1
  have hh := hB.2.2.1
  unfold fX7_part fX8_part
  rw [hasW_eq h12, bd1_some, isWin8 hM hB, bd1_some, Int32.toInt_toInt64, bI_0', bI_0']
  cases hv : winZ (B 0) v.toInt with
  | false => exact ⟨-2, y0, y1, y2, 0, rfl, rfl, hR⟩
  | true =>
    obtain ⟨w, hwl, rfl⟩ := winZ_of hv
    simp only [if_true]
    obtain ⟨l', q', t1, t2, t3⟩ := take_ok hL hB hw (show B 1 < 100000 by omega) y0 y1 y2
    obtain ⟨x, x1, x2⟩ := reach7 t2 h12 (tk_lt hB) hwl
    obtain ⟨z, z1, z2⟩ := part8 hM hB hwl
    obtain rfl : z = x := z2.uniq x2
    rw [t1, bd3_some, x1, z1]
    exact ⟨nI z, nI (B 0), l', q', 0, rfl, rfl, hR⟩
theorem st_parts : Step_parts Rel0 := by
  intro w0 w1 w2 w3 w4 w5 w6 w7 w8 w9 w10 w11 xt xn xf xp rs rz rv made im all has mt mn mf mp so ma nu y0 y1 y2 th hR
  obtain ⟨⟨B, hB, hM, hC⟩, hT, hF, hRw, hI⟩ := id hR
  obtain ⟨e0, e4, e2, e3, e5, e1, ⟨m, P, em, hL⟩, hc, hw⟩ := id hC
  dsimp only at e0 e4 e2 e3 e5 e1 em hL hc hw
  subst e0 e4 e2 e3 e5 e1 em
  have h12 := hB.1
  have hh := hB.2.2.1
  unfold fX7_parts fX8_parts fX8_partMany
  obtain ⟨l', q', t1, t2, t3⟩ := take_ok hL hB hw (show B 1 < 100000 by omega) y0 y1 y2
  rw [t1, bd3_some]
  have L : ∀ k i F G c s, i + k = B 0 → k < F → k < G → s < 2 ^ 12 → ∃ c', fX7_parts_24 (nI (B 0)) (nI (B 0)) l' (fun (w_10 : Int32) => some (w_10, nI (B 0), l', q')) F (nI c) (nI s) (nI i) = some (nI c', nI (B 0), l', q') ∧ fX8_partMany_6 all (fun (w_8 : Int32) => some w_8) G (nI c) (nI s) (nI i) = some (nI c') := by
    intro k
    induction k with
    | zero =>
      intro i F G c s hi hF hG hs
      obtain ⟨F, rfl⟩ : ∃ m, F = m + 1 := ⟨F - 1, by omega⟩
      obtain ⟨G, rfl⟩ : ∃ m, G = m + 1 := ⟨G - 1, by omega⟩
      refine ⟨c, ?_, ?_⟩
      · rw [fX7_parts_24, if_pos (ile (by omega) (by omega))]
      · rw [fX8_partMany_6, n0, rd_MB hM (by omega) (by omega) (by decide), if_pos (ile (by omega) (by omega))]
    | succ k ih =>
      intro i F G c s hi hF hG hs
      obtain ⟨F, rfl⟩ : ∃ m, F = m + 1 := ⟨F - 1, by omega⟩
      obtain ⟨G, rfl⟩ : ∃ m, G = m + 1 := ⟨G - 1, by omega⟩
      obtain ⟨x, x1, x2⟩ := reach7 t2 h12 (tk_lt hB) (show i < B 0 by omega)
      obtain ⟨z, z1, z2⟩ := part8 hM hB (show i < B 0 by omega)
      obtain rfl : z = x := z2.uniq x2
      rw [fX7_parts_24, if_neg (inle (by omega) (by omega)), fX8_partMany_6, show (0 : Int32) = nI 0 from rfl, rd_MB hM (by omega) (by omega) (by decide), if_neg (inle (by omega) (by omega)), show nI 0 = (0 : Int32) from rfl, bit0_nI (by omega) (by omega), x1, z1, bd1_some, bd1_some, bnd_e, bnd_e, fa_or, nI_inc, nI_inc]
      by_cases hb : s.testBit i = true
      · rw [if_pos hb, if_pos (by rw [bit_nI (by omega) (by omega)]; exact hb)]
        exact ih (i + 1) F G c s (by omega) (by omega) (by omega) hs
      · rw [if_neg hb, if_neg (by rw [bit_nI (by omega) (by omega)]; exact hb)]
        exact ih (i + 1) F G (c + 1) _ (by omega) (by omega) (by omega) (Nat.or_lt_two_pow hs z2.1)
  obtain ⟨c', k1, k2⟩ := L (B 0) 0 FU FU 0 0 (by omega) (FU_big (by omega)) (FU_big (by omega)) (by decide)
  exact ⟨nI c', nI (B 0), l', q', 0, k1, by rw [show fX8_partMany_6 all (fun (w_8 : Int32) => some w_8) FU 0 0 0 = some (nI c') from k2]; rfl, hR⟩
