-- uses:
/-! the model's kinds of lines -/
theorem wr_n {β : Type} {A : Nat → Int32} {x : Int32} {k : (Nat → Int32) → Option β} (j : Nat) (hj : j < 186) : wrI 186 A (nI j) x k = k (upd A j x) := wrI_nI hj (by decide)
theorem wr0 {β : Type} {A : Nat → Int32} {x : Int32} {k : (Nat → Int32) → Option β} : wrI 186 A 0 x k = k (upd A 0 x) := wr_n 0 (by decide)
def tlF (mt : Nat → Int32) (n : Nat) (fr : Nat → Int32) (a b k m w wa : Int32) : Option ((Nat → Int32) × Int32 × Int32 × Int32 × Int32 × Int32 × Int32) := tlK mt (nI n) fr a b k m w wa
theorem win8 {xt mt fresh : Nat → Int32} {x B : Nat → Nat} {n p : Nat} (hT : TP xt mt x n) (hB : WF B) (hp : p ≤ n) (hb : badT x n p = false) (hM : MB fresh 0 B) (num wa : Int32) :
    out8 x n (if 0 < B 0 then .inl (4, stp x n p) else lnWin x n B (enT x n p)) (bd7 (fX8_readWindows mt fresh (nI (stp x n p)) (nI (en8 x n p)) (nI n) (nI (mkT x n p)) num 0 wa) (tlF mt n)) := by
  have h12 := hB.1
  have he := en_le (x := x) hp
  unfold fX8_readWindows
  rw [rd0 hM, jn_eq]
  by_cases q0 : 0 < B 0
  · have h41 : ¬ (4 : Int32) = 0 := by decide
    rw [if_neg (show ¬ nI (B 0) ≤ 0 from inle (b := 0) q0 (by omega)), if_pos q0, fails8, hb, bd2_some]
    simp only [Bool.false_eq_true, if_false]
    rw [if_neg h41, bd7_some]
    exact out_f (f := 4) (by omega) (by omega)
  · rw [if_pos (show nI (B 0) ≤ 0 from ile (b := 0) (by omega) (by decide)), if_neg q0]
    dsimp only
    rw [if_pos rfl, en8_ok hb]
    obtain ⟨num1, g1, g2⟩ := nx8 hT (show enT x n p ≤ n by omega) (nI (stp x n p)) (nI (mkT x n p)) num
    rw [g1, bd4_some]
    unfold lnWin
    have he1 := en_le (x := x) (show enT x n p ≤ n by omega)
    generalize enT x n p = q at *
    rcases takes8 (lo := 3) (hi := 12) hT (show q ≤ n by omega) (by omega) (by omega) g2 wa with ⟨h1, num2, h2, h3⟩ | ⟨f, r, a, b, k, m, h1, h2, h3, h4⟩
    · replace h2 : fX8_takes mt (nI (stp x n q)) (nI (en8 x n q)) (nI n) (nI (mkT x n q)) num1 0 wa 3 12 = _ := h2
      rw [h2, bd7_some, wr0, bnum_n h1]
      obtain ⟨fr, w1, w2, w3⟩ := winsL (K := fun (t_fresh_25 : Nat → Int32) => some (t_fresh_25, nI (stp x n (enT x n q)), nI (en8 x n (enT x n q)), nI (mkT x n (enT x n q)), num2, (0 : Int32), wa)) 12 0 FU (upd fresh 0 (nI (valT x n q))) (by omega) (FU_big (by omega))
      replace w1 : fX8_readWindows_41 (fun (t_fresh_25 : Nat → Int32) => some (t_fresh_25, nI (stp x n (enT x n q)), nI (en8 x n (enT x n q)), nI (mkT x n (enT x n q)), num2, (0 : Int32), wa)) FU 0 (upd fresh 0 (nI (valT x n q))) = _ := w1
      rw [w1, bd7_some]
      refine semi8 (B := winB B (valT x n q)) hT (by omega) (fun j hj => ?_) num2 wa
      unfold winB
      rw [Nat.zero_add]
      by_cases c1 : 6 ≤ j ∧ j < 18
      · rw [w2 j (by omega) c1.2, if_neg (by omega), if_pos c1]; rfl
      · rw [w3 j (by omega)]
        unfold upd
        by_cases c2 : j = 0
        · rw [if_pos c2, if_pos c2]
        · rw [if_neg c2, if_neg c2, if_neg c1]
          have := hM j hj
          rw [Nat.zero_add] at this
          exact this
    · replace h4 : fX8_takes mt (nI (stp x n q)) (nI (en8 x n q)) (nI n) (nI (mkT x n q)) num1 0 wa 3 12 = _ := h4
      rw [h4, bd7_some, wr0, bnum_s h1]
      obtain ⟨fr, w1, w2, w3⟩ := winsL (K := fun (t_fresh_25 : Nat → Int32) => some (t_fresh_25, a, b, k, m, nI f, nI (stp x n q))) 12 0 FU (upd fresh 0 r) (by omega) (FU_big (by omega))
      replace w1 : fX8_readWindows_41 (fun (t_fresh_25 : Nat → Int32) => some (t_fresh_25, a, b, k, m, nI f, nI (stp x n q))) FU 0 (upd fresh 0 r) = _ := w1
      rw [w1, bd7_some]
      exact out_f h2 h3
theorem num8 {xt mt fresh : Nat → Int32} {x B : Nat → Nat} {n q lo hi j : Nat} (hT : TP xt mt x n) (hq : q ≤ n) (hlo : lo < 10000) (hhi : hi < 10000) (hj : j < 186) (hM : MB fresh 0 B) {num : Int32} (hn : nok x n q num) (wa : Int32) :
    out8 x n (lnNum x n B q lo hi j) (bd7 (fX8_takes mt (nI (stp x n q)) (nI (en8 x n q)) (nI n) (nI (mkT x n q)) num 0 wa (nI lo) (nI hi)) (fun r a b k m w wa => wrI 186 fresh (nI j) r (fun fr => tlK mt (nI n) fr a b k m w wa))) := by
  have he := en_le (x := x) hq
  unfold lnNum
  rcases takes8 hT hq hlo hhi hn wa with ⟨h1, num2, h2, h3⟩ | ⟨f, r, a, b, k, m, h1, h2, h3, h4⟩
  · rw [h2, bd7_some, bnum_n h1, wr_n j hj]
    exact semi8 hT (by omega) (upd_MB hM j (valT x n q)) num2 wa
  · rw [h4, bd7_some, bnum_s h1, wr_n j hj]
    exact out_f h2 h3
theorem tw8 {mt fresh : Nat → Int32} {B : Nat → Nat} (hM : MB fresh 0 B) (h3 : 3 ≤ B 0) (a b n k m w wa : Int32) : fX8_takesWindow mt fresh a b n k m w wa = fX8_takes mt a b n k m w wa (nI 0) (nI (B 0 - 1)) := by
  unfold fX8_takesWindow
  rw [rd0 hM, sub1 (by omega), show (0 : Int32) = nI 0 from rfl]
  cases fX8_takes mt a b n k m w wa (nI 0) (nI (B 0 - 1)) with
  | none => rfl
  | some d => obtain ⟨d1, d2, d3, d4, d5, d6, d7⟩ := d; rfl
theorem can8 {xt mt fresh : Nat → Int32} {x B : Nat → Nat} {n q : Nat} (hT : TP xt mt x n) (hB : WF B) (h3 : 3 ≤ B 0) (hq : q ≤ n) (hM : MB fresh 0 B) {num : Int32} (hn : nok x n q num) (wa : Int32) :
    out8 x n (lnCan x n B q) (bd7 (fX8_readCans mt fresh (nI (stp x n q)) (nI (en8 x n q)) (nI n) (nI (mkT x n q)) num 0 wa) (tlF mt n)) := by
  have h12 := hB.1
  have he := en_le (x := x) hq
  unfold fX8_readCans lnCan
  rw [tw8 hM h3]
  rcases takes8 (lo := 0) (hi := B 0 - 1) hT hq (by omega) (by omega) hn wa with ⟨h1, num2, h2, h4⟩ | ⟨f, r, a, b, k, m, h1, h2, h4, h5⟩
  · obtain ⟨_, _, b1, b2⟩ := nf_ok h1
    rw [h2, bd7_some, bnum_n h1]
    have he1 := en_le (x := x) (show enT x n q ≤ n by omega)
    generalize enT x n q = q2 at *
    generalize valT x n q = w at *
    rcases takes8 (lo := 0) (hi := 11) hT (show q2 ≤ n by omega) (by omega) (by omega) h4 wa with ⟨g1, num3, g2, g3⟩ | ⟨f, r, a, b, k, m, g1, g2, g3, g4⟩
    · replace g2 : fX8_takes mt (nI (stp x n q2)) (nI (en8 x n q2)) (nI n) (nI (mkT x n q2)) num2 0 wa 0 11 = _ := g2
      rw [g2, bd7_some, bnum_n g1, if_pos rfl, show (6 + nI w : Int32) = nI (6 + w) by rw [lit 6, nI_add], wr_n (6 + w) (by omega), bd7_some]
      exact semi8 hT (by omega) (upd_MB hM (6 + w) (valT x n q2)) num3 wa
    · replace g4 : fX8_takes mt (nI (stp x n q2)) (nI (en8 x n q2)) (nI n) (nI (mkT x n q2)) num2 0 wa 0 11 = _ := g4
      rw [g4, bd7_some, bnum_s g1, if_neg (f_ne g2 g3), bd7_some]
      exact out_f g2 g3
  · rw [h5, bd7_some, bnum_s h1, takes8_f (f_ne h2 h4), bd7_some, if_neg (f_ne h2 h4), bd7_some]
    exact out_f h2 h4
theorem wsh8 {xt mt fresh : Nat → Int32} {x B : Nat → Nat} {n p : Nat} (hT : TP xt mt x n) (hB : WF B) (h3 : 3 ≤ B 0) (hp : p ≤ n) (hb : badT x n p = false) (hM : MB fresh 0 B) (num wa : Int32) :
    out8 x n (if B 4 = 8 then .inl (4, stp x n p) else lnWsh x n B (enT x n p)) (bd7 (fX8_readWash mt fresh (nI (stp x n p)) (nI (en8 x n p)) (nI n) (nI (mkT x n p)) num 0 wa) (tlF mt n)) := by
  have h12 := hB.1
  have h48 := hB.2.2.2.2.2.1
  have he := en_le (x := x) hp
  unfold fX8_readWash
  rw [rd4 hM, jn_eq]
  by_cases q8 : B 4 = 8
  · have h41 : ¬ (4 : Int32) = 0 := by decide
    rw [if_pos (show nI (B 4) = 8 by rw [q8]; rfl), if_pos q8, fails8, hb, bd2_some]
    simp only [Bool.false_eq_true, if_false]
    rw [if_neg h41, bd7_some]
    exact out_f (f := 4) (by omega) (by omega)
  · rw [if_neg (show ¬ nI (B 4) = 8 from ine (b := 8) q8 (by omega) (by decide)), if_neg q8]
    dsimp only
    rw [if_pos rfl, en8_ok hb]
    obtain ⟨num1, g1, g2⟩ := nx8 hT (show enT x n p ≤ n by omega) (nI (stp x n p)) (nI (mkT x n p)) num
    rw [g1, bd4_some, tw8 hM h3]
    unfold lnWsh
    have he1 := en_le (x := x) (show enT x n p ≤ n by omega)
    generalize enT x n p = q at *
    rcases takes8 (lo := 0) (hi := B 0 - 1) hT (show q ≤ n by omega) (by omega) (by omega) g2 wa with ⟨h1, num2, h2, h4⟩ | ⟨f, r, a, b, k, m, h1, h2, h4, h5⟩
    · obtain ⟨_, _, b1, b2⟩ := nf_ok h1
      rw [h2, bd7_some, bnum_n h1]
      have he2 := en_le (x := x) (show enT x n q ≤ n by omega)
      generalize enT x n q = q2 at *
      generalize valT x n q = a at *
      have i8 := is8 (x := x) (n := n) (q := q2) (i := 8) (by omega)
      replace i8 : fX8_is (nI (mkT x n q2)) 0 8 = _ := i8
      obtain ⟨st0, hst0⟩ : ∃ z, fX8_stepsOf (nI a) num2 = some z := by unfold fX8_stepsOf; split <;> exact ⟨_, rfl⟩
      rw [hst0, bd1_some, i8, bd1_some, jn_eq, bI_0', rd0 hM, jn_eq, rd0 hM, fails8, bd2_some]
      -- the second window
      by_cases q3 : nfT x n q2 0 (B 0 - 1) = none ∧ nearB (B 0) a (valT x n q2) = true
      · obtain ⟨c1, c2, c3, c4⟩ := nf_ok q3.1
        obtain ⟨l1, l2⟩ := val_lt c2 c1
        have hv := h4 c2 c1
        have hst : st0 = nI (max a (valT x n q2) - min a (valT x n q2)) := by
          have := steps8 (a := a) (b := valT x n q2) (by omega) (by omega)
          rw [← hv, hst0] at this
          simpa using this
        have hnr := of_decide_eq_true q3.2
        have h31 : ¬ (3 : Int32) = 0 := by decide
        rw [bnum_n q3.1, q3.2, decide_eq_true (mk_8.mpr ⟨c2, c1⟩), c1, hv, hst]
        simp only [if_true, Bool.false_eq_true, if_false]
        have e2 : (nI (B 0) - 2 : Int32) = nI (B 0 - 2) := by rw [lit 2, pk_sub (by omega)]
        rw [if_neg (show ¬ nI (B 0) ≤ nI (valT x n q2) from inle (by omega) (by omega)), e2, tw8 hM h3, takes8_f h31, bd7_some, takes8_f h31, bd7_some, if_neg h31]
        by_cases s2 : max a (valT x n q2) - min a (valT x n q2) < 2
        · rw [if_pos (show nI (max a (valT x n q2) - min a (valT x n q2)) < 2 from ilt (b := 2) s2 (by decide)), bd7_some]
          exact out_f (f := 3) (by omega) (by omega)
        · rw [if_neg (show ¬ nI (max a (valT x n q2) - min a (valT x n q2)) < 2 from inlt (b := 2) (by omega) (by omega)), if_neg (inle (by omega) (by omega)), bd7_some]
          exact out_f (f := 3) (by omega) (by omega)
      · have hgo : ∀ {β : Type} (c0 c1 : Option β), (if decide (mkT x n q2 = 8) = true then (if nI (B 0) ≤ num2 then c0 else if st0 < 2 then c1 else if st0 ≤ nI (B 0) - 2 then c0 else c1) else c0) = c0 := by
          intro β c0 c1
          by_cases m8 : mkT x n q2 = 8
          · obtain ⟨c2, c3⟩ := mk_8.mp m8
            obtain ⟨l1, l2⟩ := val_lt c2 c3
            have hv := h4 c2 c3
            rw [decide_eq_true m8, if_pos rfl, hv]
            by_cases v1 : B 0 ≤ valT x n q2
            · rw [if_pos (ile v1 (by omega))]
            · have hnn : nfT x n q2 0 (B 0 - 1) = none := by unfold nfT; rw [c3, if_neg (by decide), if_pos c2, if_pos (by omega)]
              have hnf : nearB (B 0) a (valT x n q2) = false := by
                cases e : nearB (B 0) a (valT x n q2) with
                | false => rfl
                | true => exact absurd ⟨hnn, e⟩ q3
              have hnr := of_decide_eq_false hnf
              have hst : st0 = nI (max a (valT x n q2) - min a (valT x n q2)) := by
                have := steps8 (a := a) (b := valT x n q2) (by omega) (by omega)
                rw [← hv, hst0] at this
                simpa using this
              have e2 : (nI (B 0) - 2 : Int32) = nI (B 0 - 2) := by rw [lit 2, pk_sub (by omega)]
              rw [if_neg (inle (by omega) (by omega)), hst, e2, if_neg (show ¬ nI (max a (valT x n q2) - min a (valT x n q2)) < 2 from inlt (b := 2) (by omega) (by omega)), if_pos (ile (by omega) (by omega))]
          · rw [decide_eq_false m8, if_neg Bool.false_ne_true]
        rw [hgo]
        dsimp only
        rw [tw8 hM h3]
        rcases takes8 (lo := 0) (hi := B 0 - 1) hT (show q2 ≤ n by omega) (by omega) (by omega) h4 wa with ⟨i1, num3, i2, i4⟩ | ⟨f, r, a', b, k, m, i1, i2, i4, i5⟩
        · obtain ⟨_, _, d1, d2⟩ := nf_ok i1
          have hnf : nearB (B 0) a (valT x n q2) = false := by
            cases e : nearB (B 0) a (valT x n q2) with
            | false => rfl
            | true => exact absurd ⟨i1, e⟩ q3
          rw [i2, bd7_some, bnum_n i1, hnf, if_neg Bool.false_ne_true]
          have he3 := en_le (x := x) (show enT x n q2 ≤ n by omega)
          generalize enT x n q2 = q4 at *
          generalize valT x n q2 = b at *
          rcases takes8 (lo := 0) (hi := 4095) hT (show q4 ≤ n by omega) (by omega) (by omega) i4 wa with ⟨j1, num4, j2, j4⟩ | ⟨f, r, a', b', k, m, j1, j2, j4, j5⟩
          · replace j2 : fX8_takes mt (nI (stp x n q4)) (nI (en8 x n q4)) (nI n) (nI (mkT x n q4)) num3 0 wa 0 4095 = _ := j2
            have e1 : (18 + 3 * nI (B 4) : Int32) = nI (18 + 3 * B 4) := by rw [lit 18, lit 3, pk_mul, nI_add]
            have m1 := upd_MB (upd_MB (upd_MB hM (18 + 3 * B 4) a) (18 + 3 * B 4 + 1) b) (18 + 3 * B 4 + 2) (valT x n q4)
            have m4 : va_up (va_up (va_up B (18 + 3 * B 4) a) (18 + 3 * B 4 + 1) b) (18 + 3 * B 4 + 2) (valT x n q4) 4 = B 4 := by unfold va_up; rw [if_neg (by omega), if_neg (by omega), if_neg (by omega)]
            rw [j2, bd7_some, bnum_n j1, if_pos rfl, e1, wr_n (18 + 3 * B 4) (by omega), nI_inc, wr_n (18 + 3 * B 4 + 1) (by omega), show (nI (18 + 3 * B 4) + 2 : Int32) = nI (18 + 3 * B 4 + 2) by rw [lit 2, nI_add], wr_n (18 + 3 * B 4 + 2) (by omega), rd4 m1, m4, nI_inc, show (4 : Int32) = nI 4 from rfl, wr_n 4 (by decide), bd7_some]
            exact semi8 hT (by omega) (upd_MB m1 4 (B 4 + 1)) num4 wa
          · replace j5 : fX8_takes mt (nI (stp x n q4)) (nI (en8 x n q4)) (nI n) (nI (mkT x n q4)) num3 0 wa 0 4095 = _ := j5
            rw [j5, bd7_some, bnum_s j1, if_neg (f_ne j2 j4), bd7_some]
            exact out_f j2 j4
        · rw [i5, bd7_some, bnum_s i1, takes8_f (f_ne i2 i4), bd7_some, if_neg (f_ne i2 i4), bd7_some]
          exact out_f i2 i4
    · have hne := f_ne h2 h4
      obtain ⟨st0, hst0⟩ : ∃ z, fX8_stepsOf r m = some z := by unfold fX8_stepsOf; split <;> exact ⟨_, rfl⟩
      rw [h5, bd7_some, bnum_s h1, hst0, bd1_some, is8_f hne, bd1_some, jn_eq, if_pos rfl]
      dsimp only
      rw [tw8 hM h3, takes8_f hne, bd7_some, takes8_f hne, bd7_some, if_neg hne, bd7_some]
      exact out_f h2 h4
