/-! steps that change single numbers -/
theorem rng (v : Int32) {N : Nat} (hN : N < 2 ^ 31) : (v < 0 ∧ decide ((0 : Int) ≤ v.toInt ∧ v.toInt ≤ (N : Int)) = false) ∨ (¬ v < 0 ∧ ¬ v ≤ nI N ∧ decide ((0 : Int) ≤ v.toInt ∧ v.toInt ≤ (N : Int)) = false) ∨ ∃ k, k ≤ N ∧ v = nI k := by
  have e0 : (0 : Int32).toInt = 0 := rfl
  rw [Int32.lt_iff_toInt_lt, Int32.le_iff_toInt_le, nI_toInt hN, e0]
  by_cases h1 : v.toInt < 0
  · exact Or.inl ⟨h1, decide_eq_false (by omega)⟩
  · by_cases h2 : v.toInt ≤ (N : Int)
    · refine Or.inr (Or.inr ⟨v.toInt.toNat, by omega, ?_⟩)
      apply Int32.toInt_inj.mp
      rw [nI_toInt (by omega)]
      omega
    · exact Or.inr (Or.inl ⟨h1, h2, decide_eq_false (by omega)⟩)
theorem rng_in {k N : Nat} (hk : k ≤ N) (hN : N < 2 ^ 31) : ¬ nI k < 0 ∧ nI k ≤ nI N ∧ decide ((0 : Int) ≤ (nI k).toInt ∧ (nI k).toInt ≤ (N : Int)) = true := by
  refine ⟨nI_pos (by omega), nI_le hk hN, decide_eq_true ?_⟩
  rw [nI_toInt (by omega)]; omega
theorem within_rng (v : Int32) {N : Nat} (hN : N < 2 ^ 31) : (v < 0 ∧ fX8_within v.toInt64 0 (lN N) = some 0) ∨ (¬ v < 0 ∧ ¬ v ≤ nI N ∧ fX8_within v.toInt64 0 (lN N) = some 0) ∨ ∃ k, k ≤ N ∧ v = nI k ∧ ¬ v < 0 ∧ v ≤ nI N ∧ fX8_within v.toInt64 0 (lN N) = some 1 := by
  have e : ∀ b : Bool, decide ((0 : Int) ≤ v.toInt ∧ v.toInt ≤ (N : Int)) = b → fX8_within v.toInt64 0 (lN N) = some (bI b) := by
    intro b hb
    rw [within_eq, Int32.toInt_toInt64, lN_toInt hN]
    exact congrArg (fun x => some (bI x)) hb
  rcases rng v hN with ⟨h1, h2⟩ | ⟨h1, h2, h3⟩ | ⟨k, hk, rfl⟩
  · exact Or.inl ⟨h1, e _ h2⟩
  · exact Or.inr (Or.inl ⟨h1, h2, e _ h3⟩)
  · obtain ⟨r1, r2, r3⟩ := rng_in hk hN
    exact Or.inr (Or.inr ⟨k, hk, rfl, r1, r2, e _ r3⟩)
def AG (B B' : Nat → Nat) : Prop := B' 0 = B 0 ∧ B' 4 = B 4 ∧ ∀ j, 6 ≤ j → B' j = B j
theorem AG.tied {B B' : Nat → Nat} (h : AG B B') (a b : Nat) : tied B' a b = tied B a b := by show decide (0 < B' (42 + 12 * a + b)) = decide (0 < B (42 + 12 * a + b)); rw [h.2.2 _ (by omega)]
theorem AG.CL {B B' : Nat → Nat} (h : AG B B') {m : Nat} {P : Nat → Nat} {pairs knots : Nat → Int32} (hC : CL m P pairs knots B) : CL m P pairs knots B' := by
  refine ⟨hC.1, ⟨fun i hi => ?_, hC.2.1.2.1, fun a b hab hb ht => hC.2.1.2.2 a b hab (by rw [← h.1]; exact hb) (by rw [← h.tied]; exact ht)⟩, fun i hi => ?_⟩
  · have := hC.2.1.1 i hi; rw [h.1, h.tied]; exact this
  · have := hC.2.2 i hi; rw [h.2.2 _ (by omega)]; exact this
theorem AG.CWs {B B' : Nat → Nat} (h : AG B B') {p q : Nat → Int32} (hC : CWs p q B) : CWs p q B' := by
  intro k hk
  have := hC k (by rw [← h.2.1]; exact hk)
  rw [h.2.2 _ (by omega), h.2.2 _ (by omega), h.2.2 _ (by omega)]; exact this
theorem AG.WF {B B' : Nat → Nat} (h : AG B B') (hB : WF B) (h1 : B' 1 ≤ 9999) (h2 : B' 2 ≤ 20) (h3 : 1 ≤ B' 3 ∧ B' 3 ≤ 999) (h5 : B' 5 ≤ 900) : WF B' := by
  obtain ⟨g0, g0', -, -, -, g4, -, g6, g7, g8, g9⟩ := hB
  refine ⟨by rw [h.1]; exact g0, by rw [h.1]; exact g0', h1, h2, h3, by rw [h.2.1]; exact g4, h5, fun w hw => by rw [h.2.2 _ (by omega)]; exact g6 w hw, fun k hk => ?_, fun a b ha hb => ?_, fun a b c d hab hb hcd hd t1 t2 => ?_⟩
  · rw [h.2.1] at hk
    rw [h.1, h.2.2 _ (by omega), h.2.2 _ (by omega), h.2.2 _ (by omega)]; exact g7 k hk
  · rw [h.1, h.2.2 _ (by omega), h.2.2 _ (by omega)]; exact g8 a b ha hb
  · rw [h.1] at hb hd
    rw [h.tied] at t1 t2
    exact g9 a b c d hab hb hcd hd t1 t2
theorem upd_ge {A : Nat → Int32} {k : Nat} {x : Int32} (hk : k < 186) : ∀ j, 186 ≤ j → upd A k x j = A j := by
  intro j hj; unfold upd; rw [if_neg (by omega)]
theorem AG_up {B : Nat → Nat} {k v : Nat} (hk : k = 1 ∨ k = 2 ∨ k = 3 ∨ k = 5) : AG B (va_up B k v) := by
  unfold va_up
  refine ⟨if_neg (by omega), if_neg (by omega), fun j hj => if_neg (by omega)⟩
theorem up_at (B : Nat → Nat) (k v : Nat) : va_up B k v k = v := va_up_self B k v
theorem up_ne (B : Nat → Nat) {k v j : Nat} (h : j ≠ k) : va_up B k v j = B j := va_up_ne B v h
theorem st_pass : Step_pass Rel0 := by
  intro w0 w1 w2 w3 w4 w5 w6 w7 w8 w9 w10 w11 xt xn xf xp rs rz rv made im all has mt mn mf mp so ma nu th v hR
  obtain ⟨⟨B, hB, hM, hC⟩, hT, hF, hRw, hI⟩ := id hR
  obtain ⟨e0, e4, e2, e3, e5, e1, ⟨m, P, em, hL⟩, hc, hw⟩ := hC
  dsimp only at e0 e4 e2 e3 e5 e1 em hL hc hw
  subst e0 e4 e2 e3 e5 e1 em
  have hh := hB.2.2.1
  unfold fX7_pass fX8_pass
  rcases within_rng v (show 99 < 2 ^ 31 by decide) with ⟨h1, h2⟩ | ⟨h1, h2, h3⟩ | ⟨k, hk, rfl, r1, r2, r3⟩
  · exact ⟨-3, nI (B 1), 0, all, by rw [if_pos h1], by rw [show (99 : Int64) = lN 99 from rfl, h2]; rfl, hR⟩
  · exact ⟨-3, nI (B 1), 0, all, by rw [if_neg h1, if_neg (show ¬ v ≤ 99 from h2)], by rw [show (99 : Int64) = lN 99 from rfl, h3]; rfl, hR⟩
  · rw [if_neg r1, if_pos (show nI k ≤ 99 from r2), show (99 : Int64) = lN 99 from rfl, r3, bd1_some, if_neg (show ¬ (1 : Int32) = 0 by decide), n1, rd_MB hM (by omega) (by omega) (by decide), nI_add, lit 9999]
    by_cases h : nI (B 1 + k) ≤ nI 9999
    · have h' : B 1 + k ≤ 9999 := by rwa [le_nI (by omega) (by omega)] at h
      rw [if_pos h, if_pos h, rd_MB hM (by omega) (by omega) (by decide), bnd_e, wrI_nI (by omega) (by decide), rdI_nI (by omega) (by decide), nI_add]
      refine ⟨nI (B 1 + k), nI (B 1 + k), 0, upd all 1 (nI (B 1 + k)), rfl, ?_, ⟨va_up B 1 (B 1 + k), ?_, upd_MB hM 1 _, ?_⟩, hT, hF, hRw, imgs_keep hI (upd_ge (by omega))⟩
      · rw [show upd all 1 (nI (B 1 + k)) 1 = nI (B 1 + k) from pk_us]
      · have := hB.2.2.2
        exact (AG_up (by omega)).WF hB (by rw [up_at]; omega) (by rw [up_ne B (by omega)]; exact this.1) (by rw [up_ne B (by omega)]; exact this.2.1) (by rw [up_ne B (by omega)]; exact this.2.2.2.1)
      · have ag : AG B (va_up B 1 (B 1 + k)) := AG_up (by omega)
        refine ⟨by rw [ag.1], by rw [ag.2.1], by rw [up_ne B (by omega)], by rw [up_ne B (by omega)], by rw [up_ne B (by omega)], by rw [up_at], ⟨m, P, rfl, ag.CL hL⟩, fun w h => ?_, ag.CWs hw⟩
        rw [ag.2.2 _ (by omega)]; exact hc w (by rw [← ag.1]; exact h)
    · rw [if_neg h, if_neg h]
      exact ⟨-5, nI (B 1), 0, all, rfl, rfl, hR⟩
theorem st_damp : Step_damp Rel0 := by
  intro w0 w1 w2 w3 w4 w5 w6 w7 w8 w9 w10 w11 xt xn xf xp rs rz rv made im all has mt mn mf mp so ma nu th v hR
  obtain ⟨⟨B, hB, hM, hC⟩, hT, hF, hRw, hI⟩ := id hR
  obtain ⟨e0, e4, e2, e3, e5, e1, ⟨m, P, em, hL⟩, hc, hw⟩ := hC
  dsimp only at e0 e4 e2 e3 e5 e1 em hL hc hw
  subst e0 e4 e2 e3 e5 e1 em
  unfold fX7_damp fX8_damp
  rcases within_rng v (show 20 < 2 ^ 31 by decide) with ⟨h1, h2⟩ | ⟨h1, h2, h3⟩ | ⟨k, hk, rfl, r1, r2, r3⟩
  · exact ⟨-3, nI (B 2), 0, all, by rw [if_pos h1], by rw [show (20 : Int64) = lN 20 from rfl, h2]; rfl, hR⟩
  · exact ⟨-3, nI (B 2), 0, all, by rw [if_neg h1, if_neg (show ¬ v ≤ 20 from h2)], by rw [show (20 : Int64) = lN 20 from rfl, h3]; rfl, hR⟩
  · rw [if_neg r1, if_pos (show nI k ≤ 20 from r2), show (20 : Int64) = lN 20 from rfl, r3, bd1_some, if_neg (show ¬ (1 : Int32) = 0 by decide), lit 2, rd_MB hM (by omega) (by omega) (by decide), wrI_nI (by omega) (by decide)]
    refine ⟨nI (B 2), nI k, 0, upd all 2 (nI k), rfl, rfl, ⟨va_up B 2 k, ?_, upd_MB hM 2 _, ?_⟩, hT, hF, hRw, imgs_keep hI (upd_ge (by omega))⟩
    · have h1 := hB.2.2
      exact (AG_up (by omega)).WF hB (by rw [up_ne B (by omega)]; exact h1.1) (by rw [up_at]; omega) (by rw [up_ne B (by omega)]; exact h1.2.2.1) (by rw [up_ne B (by omega)]; exact h1.2.2.2.2.1)
    · have ag : AG B (va_up B 2 k) := AG_up (by omega)
      refine ⟨by rw [ag.1], by rw [ag.2.1], by rw [up_at], by rw [up_ne B (by omega)], by rw [up_ne B (by omega)], by rw [up_ne B (by omega)], ⟨m, P, rfl, ag.CL hL⟩, fun w h => ?_, ag.CWs hw⟩
      rw [ag.2.2 _ (by omega)]; exact hc w (by rw [← ag.1]; exact h)
theorem m1_ne {j : Nat} (h : j < 2 ^ 31) : ¬ nI j = -1 := fun e => absurd (congrArg Int32.toInt e) (by rw [nI_toInt h]; show ¬ (j : Int) = -1; omega)
theorem st_pair : Step_pair Rel0 := by
  intro w0 w1 w2 w3 w4 w5 w6 w7 w8 w9 w10 w11 xt xn xf xp rs rz rv made im all has mt mn mf mp so ma nu th v u hR
  obtain ⟨⟨B, hB, hM, hC⟩, hT, hF, hRw, hI⟩ := id hR
  obtain ⟨e0, e4, e2, e3, e5, e1, ⟨m, P, em, hL⟩, hc, hw⟩ := hC
  dsimp only at e0 e4 e2 e3 e5 e1 em hL hc hw
  subst e0 e4 e2 e3 e5 e1 em
  have h12 := hB.1
  have hh := hB.2.2.1
  have h21 := hL.1
  unfold fX7_pair fX8_pair
  rw [hasP_eq h12, isPair8 hM hB, Int32.toInt_toInt64, bd1_some, bd1_some, bI_0', bI_0']
  cases hv : pairZ (B 0) v.toInt with
  | false => exact ⟨-2, 0, rfl, rfl, hR⟩
  | true =>
    obtain ⟨a, b, hab, hb, rfl⟩ := pairZ_of h12 hv
    simp only [if_true]
    obtain ⟨r, hr, hidx⟩ : ∃ r, fX1_indexOf (nI m) w10 (nI (20 * a + b)) = some r ∧ ((tied B a b = true ∧ ∃ j, j < m ∧ P j = 20 * a + b ∧ r = nI j) ∨ (tied B a b = false ∧ r = -1)) := by
      rcases idx7_pair hL hB hab hb with ⟨ht, j, h1, h2, h3⟩ | ⟨ht, h3⟩
      · exact ⟨_, h3, Or.inl ⟨ht, j, h1, h2, rfl⟩⟩
      · exact ⟨_, h3, Or.inr ⟨ht, rfl⟩⟩
    rw [hr, bd1_some, rem20 (by omega) (by omega), div20 (by omega) (by omega), show (3 : Int64) = lN 3 from rfl]
    rcases within_rng u (show 3 < 2 ^ 31 by decide) with ⟨h1, h2⟩ | ⟨h1, h2, h3⟩ | ⟨k, hk, rfl, r1, r2, r3⟩
    · have g : ∀ k : Nat, k < 4 → ¬ u = nI k := fun k hk e => absurd h1 (by rw [e]; exact nI_pos (by omega))
      exact ⟨-2, 0, by rw [if_neg (show ¬ u = 0 from g 0 (by decide)), if_neg (show ¬ u = 1 from g 1 (by decide)), if_neg (show ¬ u = 2 from g 2 (by decide)), if_neg (show ¬ u = 3 from g 3 (by decide))], by rw [h2]; rfl, hR⟩
    · have g : ∀ k : Nat, k < 4 → ¬ u = nI k := fun k hk e => absurd (by rw [e]; exact nI_le (by omega) (by decide)) h2
      exact ⟨-2, 0, by rw [if_neg (show ¬ u = 0 from g 0 (by decide)), if_neg (show ¬ u = 1 from g 1 (by decide)), if_neg (show ¬ u = 2 from g 2 (by decide)), if_neg (show ¬ u = 3 from g 3 (by decide))], by rw [h3]; rfl, hR⟩
    · rw [r3, bd1_some, if_neg (show ¬ (1 : Int32) = 0 by decide), bnd_e, bnd_e]
      have hs : 0 ≤ B (42 + 12 * a + b) := Nat.zero_le _
      match k, hk with
      | 0, _ => exact ⟨nI (lenN B a b), 0, by rw [if_pos (show nI 0 = 0 from rfl), len7 hB hab hb]; rfl, by rw [if_pos (show nI 0 = 0 from rfl), len8 hM hB (by omega) hb]; rfl, hR⟩
      | 1, _ =>
        rw [if_neg (show ¬ nI 1 = 0 by decide), if_neg (show ¬ nI 1 = 0 by decide), if_pos (show nI 1 = 1 from rfl), if_pos (show nI 1 = 1 from rfl), knots8 hM (by omega) (by omega), bd1_some]
        rcases hidx with ⟨ht, j, hj, hP, rfl⟩ | ⟨ht, rfl⟩
        · have h0 : 0 < B (42 + 12 * a + b) := by unfold tied at ht; simpa using ht
          have hk := (hL.2.2 j hj).2
          rw [hP, show (20 * a + b) / 20 = a by omega, show (20 * a + b) % 20 = b by omega] at hk
          exact ⟨nI (B (42 + 12 * a + b) - 1), 0, by rw [if_neg (m1_ne (by omega)), rdI_nI (by omega) (by decide), hk], by rw [n1, pk_sub (by omega)], hR⟩
        · have h0 : B (42 + 12 * a + b) = 0 := by unfold tied at ht; simpa using ht
          exact ⟨-1, 0, by rw [if_pos rfl], by rw [h0]; rfl, hR⟩
      | 2, _ =>
        rw [if_neg (show ¬ nI 2 = 0 by decide), if_neg (show ¬ nI 2 = 0 by decide), if_neg (show ¬ nI 2 = 1 by decide), if_neg (show ¬ nI 2 = 1 by decide), if_pos (show nI 2 = 2 from rfl), if_pos (show nI 2 = 2 from rfl), loss8 hM hB (by omega) hb, bd1_some]
        rcases hidx with ⟨ht, j, hj, hP, rfl⟩ | ⟨ht, rfl⟩
        · refine ⟨nI (lossN B a b), 0, ?_, rfl, hR⟩
          rw [if_neg (m1_ne (by omega)), lossAt7 hL hB hj, hP, show (20 * a + b) / 20 = a by omega, show (20 * a + b) % 20 = b by omega]; rfl
        · refine ⟨nI (lossN B a b), 0, ?_, rfl, hR⟩
          rw [if_pos rfl, bare7 hB hab hb]
          unfold lossN; rw [ht]; rfl
      | 3, _ =>
        rw [if_neg (show ¬ nI 3 = 0 by decide), if_neg (show ¬ nI 3 = 0 by decide), if_neg (show ¬ nI 3 = 1 by decide), if_neg (show ¬ nI 3 = 1 by decide), if_neg (show ¬ nI 3 = 2 by decide), if_neg (show ¬ nI 3 = 2 by decide), if_pos (show nI 3 = 3 from rfl), slack7 hw hB hb hab (by omega), slackNow8 hM hB (by omega) (by omega), bd1_some, bd1_some, bI_0', bI_0']
        cases slackN B (B 1) a b
        · exact ⟨0, 0, rfl, rfl, hR⟩
        · exact ⟨1, 0, rfl, rfl, hR⟩
