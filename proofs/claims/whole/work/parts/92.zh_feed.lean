-- uses:
/-! the tape -/
theorem nI_toInt_all {w : Nat} (hw : w < 2 ^ 32) : (nI w).toInt = if w < 2 ^ 31 then (w : Int) else (w : Int) - 2 ^ 32 := by
  have h : (nI w).toInt = ((w : Int)).bmod (2 ^ 32) := by
    show (BitVec.ofNat 32 w).toInt = _
    exact BitVec.toInt_ofNat ..
  rw [h]
  unfold Int.bmod
  have e : ((w : Int)) % ((2 ^ 32 : Nat) : Int) = (w : Int) := Int.emod_eq_of_lt (by omega) (by omega)
  rw [e]
  by_cases q : w < 2 ^ 31
  · rw [if_pos q, if_pos (by omega)]
  · rw [if_neg q, if_neg (by omega)]; rfl
theorem shAnd {s : Nat} (hs : s < 31) : nI s &&& 31 = nI s := by
  rw [show (31 : Int32) = nI (2 ^ 5 - 1) from rfl, fa_mask, Nat.mod_eq_of_lt (by omega)]
theorem byte8 {y s : Nat} (hy : y < 2 ^ 32) (hs : s = 0 ∨ s = 8 ∨ s = 16 ∨ s = 24) : (nI y >>> (nI s &&& 31)) &&& 255 = nI (y / 2 ^ s % 256) := by
  have e2 : ((nI s).toBitVec.smod 32).toNat = s := by
    have : ∀ j, j < 31 → ((nI j).toBitVec.smod 32).toNat = j := by decide +kernel
    exact this s (by omega)
  rw [shAnd (by omega)]
  have hz := pk_shr (nI y) (nI s) s e2
  rw [nI_toInt_all hy, Int.shiftRight_eq_div_pow] at hz
  obtain ⟨w, hw, e⟩ := nI_all (nI y >>> nI s)
  rw [e, nI_toInt_all hw] at hz
  rw [e, show (255 : Int32) = nI (2 ^ 8 - 1) from rfl, fa_mask]
  congr 1
  rcases hs with rfl | rfl | rfl | rfl
  · simp only [Nat.pow_zero, Nat.reducePow] at hz ⊢
    split at hz <;> split at hz <;> omega
  · simp only [Nat.reducePow] at hz ⊢
    split at hz <;> split at hz <;> omega
  · simp only [Nat.reducePow] at hz ⊢
    split at hz <;> split at hz <;> omega
  · simp only [Nat.reducePow] at hz ⊢
    split at hz <;> split at hz <;> omega
theorem byte7 {y s : Nat} (hy : y < 2 ^ 32) (hs : s = 0 ∨ s = 8 ∨ s = 16 ∨ s = 24) : vp_nar .byte ((Int32.toInt8 ((Int32.toUInt32 (nI y) >>> (Int32.toUInt32 (nI s) &&& Int32.toUInt32 31)).toInt32)).toInt32) = (nI (y / 2 ^ s % 256)).toInt8.toInt32 := by
  have e2 : (((nI s).toUInt32 &&& Int32.toUInt32 31).toBitVec % 32).toNat = s := by rcases hs with rfl | rfl | rfl | rfl <;> decide
  rw [pk_ushrN hy (nI s) s e2]
  show (Int32.toInt8 ((nI (y / 2 ^ s)).toInt8.toInt32)).toInt32 = _
  rw [fb_byte_twice, ← fa_byte_low, show (255 : Int32) = nI (2 ^ 8 - 1) from rfl, fa_mask]
theorem putOn7 {y t : Nat} (hy : y < 2 ^ 32) (ht : t + 4 ≤ 900) (tape : Nat → Int32) : ∃ tape', fX3_putOnTape tape (nI t) (nI y) = some (tape', nI (t + 4)) ∧ (∀ i, i < 4 → tape' (t + i) = (nI (y / 2 ^ (24 - 8 * i) % 256)).toInt8.toInt32) ∧ ∀ j, j < t → tape' j = tape j := by
  have step : ∀ s s' F t tape (K : (Nat → Int32) → Int32 → Option ((Nat → Int32) × Int32)), (s = 0 ∨ s = 8 ∨ s = 16 ∨ s = 24) → nI s + (-8) = s' → t < 900 → fX3_putOnTape_3 (nI y) K (F + 1) (nI s) tape (nI t) = fX3_putOnTape_3 (nI y) K F s' (upd tape t ((nI (y / 2 ^ s % 256)).toInt8.toInt32)) (nI (t + 1)) := by
    intro s s' F t tape K hs hs' ht
    rw [fX3_putOnTape_3, if_neg (nI_pos (by omega)), lit 900, if_neg (inle ht (by decide)), wrI_nI ht (by decide), bnd_e, byte7 hy hs, hs', nI_inc]
  obtain ⟨F, hF⟩ : ∃ m, FU = m + 5 := ⟨FU - 5, by have := FU_big (n := 5) (by decide); omega⟩
  unfold fX3_putOnTape
  rw [hF]
  have h1 := step 24 16 (F + 4) t tape (fun (t_tape_6 : Nat → Int32) (t_taped_7 : Int32) => some (t_tape_6, t_taped_7)) (by omega) (by decide) (by omega)
  replace h1 : fX3_putOnTape_3 (nI y) (fun (t_tape_6 : Nat → Int32) (t_taped_7 : Int32) => some (t_tape_6, t_taped_7)) (F + 5) 24 tape (nI t) = _ := h1
  rw [h1]
  have h2 := step 16 8 (F + 3) (t + 1) (upd tape t ((nI (y / 2 ^ 24 % 256)).toInt8.toInt32)) (fun (t_tape_6 : Nat → Int32) (t_taped_7 : Int32) => some (t_tape_6, t_taped_7)) (by omega) (by decide) (by omega)
  refine ⟨upd (upd (upd (upd tape t ((nI (y / 2 ^ 24 % 256)).toInt8.toInt32)) (t + 1) ((nI (y / 2 ^ 16 % 256)).toInt8.toInt32)) (t + 1 + 1) ((nI (y / 2 ^ 8 % 256)).toInt8.toInt32)) (t + 1 + 1 + 1) ((nI (y / 2 ^ 0 % 256)).toInt8.toInt32), ?_, ?_, ?_⟩
  · refine Eq.trans h2 ?_
    refine Eq.trans (step 8 0 (F + 2) (t + 1 + 1) _ _ (by omega) (by decide) (by omega)) ?_
    refine Eq.trans (step 0 (-8) (F + 1) (t + 1 + 1 + 1) _ _ (by omega) (by decide) (by omega)) ?_
    rw [fX3_putOnTape_3, if_pos (by decide)]
  · intro i hi
    unfold upd
    match i, hi with
    | 0, _ => rw [if_neg (by omega), if_neg (by omega), if_neg (by omega), if_pos (by omega)]
    | 1, _ => rw [if_neg (by omega), if_neg (by omega), if_pos (by omega)]
    | 2, _ => rw [if_neg (by omega), if_pos (by omega)]
    | 3, _ => rw [if_pos (by omega)]
  · intro j hj
    unfold upd
    rw [if_neg (by omega), if_neg (by omega), if_neg (by omega), if_neg (by omega)]
def Y5 (y1 y2 y3 y4 y5 k : Nat) : Nat := if k < 4 then y1 else if k < 8 then y2 else if k < 12 then y3 else if k < 16 then y4 else y5
theorem feed8_loop {y1 y2 y3 y4 y5 t : Nat} (h1 : y1 < 2 ^ 32) (h2 : y2 < 2 ^ 32) (h3 : y3 < 2 ^ 32) (h4 : y4 < 2 ^ 32) (h5 : y5 < 2 ^ 32) (ht : t + 20 ≤ 900) (tape0 : Nat → Int32) (K : (Nat → Int32) → Int32 → Option (Int32 × Int32 × (Nat → Int32) × Int32)) :
    ∀ k i F tape, i + k = 20 → k < F → (∀ j, j < t → tape j = tape0 j) → (∀ j, j < i → tape (t + j) = nI (Y5 y1 y2 y3 y4 y5 j / 2 ^ (24 - 8 * (j % 4)) % 256)) → ∃ tape', fX8_feed_24 (nI y1) (nI y2) (nI y3) (nI y4) (nI y5) K F (nI i) tape (nI (t + i)) = K tape' (nI (t + 20)) ∧ (∀ j, j < t → tape' j = tape0 j) ∧ (∀ j, j < 20 → tape' (t + j) = nI (Y5 y1 y2 y3 y4 y5 j / 2 ^ (24 - 8 * (j % 4)) % 256)) := by
  intro k
  induction k with
  | zero =>
    intro i F tape hi hF g1 g2
    obtain ⟨F, rfl⟩ : ∃ m, F = m + 1 := ⟨F - 1, by omega⟩
    obtain rfl : i = 20 := by omega
    exact ⟨tape, by rw [fX8_feed_24, lit 20, if_pos (ile (by omega) (by omega))], g1, g2⟩
  | succ k ih =>
    intro i F tape hi hF g1 g2
    obtain ⟨F, rfl⟩ : ∃ m, F = m + 1 := ⟨F - 1, by omega⟩
    have hY : Y5 y1 y2 y3 y4 y5 i < 2 ^ 32 := by
      unfold Y5
      split
      · exact h1
      · split
        · exact h2
        · split
          · exact h3
          · split
            · exact h4
            · exact h5
    have hsel : ∀ (g : Int32 → Option (Int32 × Int32 × (Nat → Int32) × Int32)), jn g (fun k_4 => if 4 ≤ nI i then if 8 ≤ nI i then if 12 ≤ nI i then if 16 ≤ nI i then k_4 (nI y5) else k_4 (nI y4) else k_4 (nI y3) else k_4 (nI y2) else k_4 (nI y1)) = g (nI (Y5 y1 y2 y3 y4 y5 i)) := by
      intro g
      unfold Y5
      rw [jn_eq]
      rw [lit 4, lit 8, lit 12, lit 16]
      by_cases q1 : i < 4
      · rw [if_neg (inle q1 (by omega)), if_pos q1]
      · rw [if_pos (ile (by omega) (by omega)), if_neg q1]
        by_cases q2 : i < 8
        · rw [if_neg (inle q2 (by omega)), if_pos q2]
        · rw [if_pos (ile (by omega) (by omega)), if_neg q2]
          by_cases q3 : i < 12
          · rw [if_neg (inle q3 (by omega)), if_pos q3]
          · rw [if_pos (ile (by omega) (by omega)), if_neg q3]
            by_cases q4 : i < 16
            · rw [if_neg (inle q4 (by omega)), if_pos q4]
            · rw [if_pos (ile (by omega) (by omega)), if_neg q4]
    have hsh : (24 - (8 * (nI i - nI i / 4 * 4)) : Int32) = nI (24 - 8 * (i % 4)) := by
      rw [lit 4, pk_rem (by omega) (by decide) (by decide), lit 8, pk_mul, lit 24, pk_sub (by omega)]
    rw [fX8_feed_24, lit 20, if_neg (inle (by omega) (by omega)), hsel, hsh, byte8 hY (by omega), wrI_nI (by omega) (by decide), bnd_e, nI_inc, nI_inc]
    refine ih (i + 1) F _ (by omega) (by omega) (fun j hj => ?_) (fun j hj => ?_)
    · unfold upd; rw [if_neg (by omega)]; exact g1 j hj
    · unfold upd
      by_cases q : j = i
      · rw [if_pos (by omega), q]
      · rw [if_neg (by omega)]; exact g2 j (by omega)
theorem st_feed : Step_feed Rel0 := by
  intro w0 w1 w2 w3 w4 w5 w6 w7 w8 w9 w10 w11 xt xn xf xp rs rz rv made im all has mt mn mf mp so ma nu th v1 v2 v3 v4 v5 hR
  obtain ⟨hCt, ⟨t, ht, e1, e2, hT⟩, hF, hRw, hI⟩ := id hR
  subst e1 e2
  unfold fX7_feed fX8_feed
  rw [lit 20, lit 900, nI_add]
  by_cases q : t + 20 ≤ 900
  · rw [if_pos (ile q (by omega)), if_pos (ile q (by omega))]
    obtain ⟨y1, h1, rfl⟩ := nI_all v1
    obtain ⟨y2, h2, rfl⟩ := nI_all v2
    obtain ⟨y3, h3, rfl⟩ := nI_all v3
    obtain ⟨y4, h4, rfl⟩ := nI_all v4
    obtain ⟨y5, h5, rfl⟩ := nI_all v5
    obtain ⟨x1, a1, b1, c1⟩ := putOn7 h1 (show t + 4 ≤ 900 by omega) xt
    obtain ⟨x2, a2, b2, c2⟩ := putOn7 h2 (show t + 4 + 4 ≤ 900 by omega) x1
    obtain ⟨x3, a3, b3, c3⟩ := putOn7 h3 (show t + 4 + 4 + 4 ≤ 900 by omega) x2
    obtain ⟨x4, a4, b4, c4⟩ := putOn7 h4 (show t + 4 + 4 + 4 + 4 ≤ 900 by omega) x3
    obtain ⟨x5, a5, b5, c5⟩ := putOn7 h5 (show t + 4 + 4 + 4 + 4 + 4 ≤ 900 by omega) x4
    obtain ⟨mt', d1, d2, d3⟩ := feed8_loop h1 h2 h3 h4 h5 q mt (fun (t_tape_12 : Nat → Int32) (t_taped_13 : Int32) => some (t_taped_13, (0 : Int32), t_tape_12, t_taped_13)) 20 0 FU mt (by omega) (FU_big (by omega)) (fun j _ => rfl) (fun j hj => absurd hj (by omega))
    refine ⟨nI (t + 20), x5, nI (t + 20), 0, mt', nI (t + 20), ?_, d1, hCt, ⟨t + 20, q, rfl, rfl, fun j hj => ?_⟩, hF, hRw, hI⟩
    · rw [a1, bd2_some, a2, bd2_some, a3, bd2_some, a4, bd2_some, a5, bd2_some]
    · by_cases q0 : j < t
      · obtain ⟨x, k1, k2, k3⟩ := hT j q0
        exact ⟨x, k1, by rw [d2 j q0]; exact k2, by rw [c5 j (by omega), c4 j (by omega), c3 j (by omega), c2 j (by omega), c1 j q0]; exact k3⟩
      · obtain ⟨i, rfl⟩ : ∃ i, j = t + i := ⟨j - t, by omega⟩
        have hi : i < 20 := by omega
        refine ⟨Y5 y1 y2 y3 y4 y5 i / 2 ^ (24 - 8 * (i % 4)) % 256, Nat.mod_lt _ (by decide), d3 i hi, ?_⟩
        unfold Y5
        by_cases q1 : i < 4
        · rw [if_pos q1, c5 _ (by omega), c4 _ (by omega), c3 _ (by omega), c2 _ (by omega), b1 i q1, show i % 4 = i by omega]
        · rw [if_neg q1]
          by_cases q2 : i < 8
          · rw [if_pos q2, c5 _ (by omega), c4 _ (by omega), c3 _ (by omega), show t + i = t + 4 + (i - 4) by omega, b2 (i - 4) (by omega), show i % 4 = i - 4 by omega]
          · rw [if_neg q2]
            by_cases q3 : i < 12
            · rw [if_pos q3, c5 _ (by omega), c4 _ (by omega), show t + i = t + 4 + 4 + (i - 8) by omega, b3 (i - 8) (by omega), show i % 4 = i - 8 by omega]
            · rw [if_neg q3]
              by_cases q4 : i < 16
              · rw [if_pos q4, c5 _ (by omega), show t + i = t + 4 + 4 + 4 + (i - 12) by omega, b4 (i - 12) (by omega), show i % 4 = i - 12 by omega]
              · rw [if_neg q4, show t + i = t + 4 + 4 + 4 + 4 + (i - 16) by omega, b5 (i - 16) (by omega), show i % 4 = i - 16 by omega]
  · rw [if_neg (inle (by omega) (by omega)), if_neg (inle (by omega) (by omega))]
    exact ⟨-5, xt, nI t, 0, mt, nI t, rfl, rfl, hR⟩
