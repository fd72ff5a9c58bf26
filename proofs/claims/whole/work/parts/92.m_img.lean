-- uses: a_lib b_court c_leaf8 d_loop8 e_list f_why g_leaf h_rel i_state j_gen
/-! images -/
theorem bd12_some {a1 a2 a3 a4 a5 a6 a7 a8 a9 a10 a11 a12 δ : Type} (x1 : a1) (x2 : a2) (x3 : a3) (x4 : a4) (x5 : a5) (x6 : a6) (x7 : a7) (x8 : a8) (x9 : a9) (x10 : a10) (x11 : a11) (x12 : a12) (k : a1 → a2 → a3 → a4 → a5 → a6 → a7 → a8 → a9 → a10 → a11 → a12 → Option δ) : bd12 (some (x1, x2, x3, x4, x5, x6, x7, x8, x9, x10, x11, x12)) k = k x1 x2 x3 x4 x5 x6 x7 x8 x9 x10 x11 x12 := rfl
theorem cpy0 {f g : Nat → Int32} {n j : Nat} (h : j < n) : va_cpy f g 0 0 n j = f j := by
  unfold va_cpy
  rw [if_pos (by omega), Nat.zero_add, Nat.sub_zero]
theorem take7 (t0 t1 t2 t3 t4 t5 t6 : Int32) (t7 t8 t9 t10 t11 : Nat → Int32) (p0 p1 p2 p3 p4 p5 p6 : Int32) (p7 p8 p9 p10 p11 : Nat → Int32) :
    ∃ c7 c8 c9 c10 c11, fX1_takeFrom t0 t1 t2 t3 t4 t5 t6 t7 t8 t9 t10 t11 p0 p1 p2 p3 p4 p5 p6 p7 p8 p9 p10 p11 = some (p0, p1, p2, p3, p4, p5, p6, c7, c8, c9, c10, c11) ∧ ∀ B, WF B → CR (p0, p1, p2, p3, p4, p5, p6, p7, p8, p9, p10, p11) B → CR (p0, p1, p2, p3, p4, p5, p6, c7, c8, c9, c10, c11) B := by
  unfold fX1_takeFrom
  simp only [bnd_e]
  refine ⟨_, _, _, _, _, rfl, fun B hB hC => ?_⟩
  have h12 := hB.1
  have h8 := hB.2.2.2.2.2.1
  obtain ⟨e0, e4, e2, e3, e5, e1, ⟨m, P, em, hL⟩, hc, hw⟩ := hC
  have h21 := hL.1
  refine ⟨e0, e4, e2, e3, e5, e1, ⟨m, P, em, hL.1, hL.2.1, fun i hi => ?_⟩, fun w hw => ?_, fun k hk => ?_⟩
  · dsimp only
    rw [show va_cpy p10 t10 (0 : Int32).toNatClampNeg (0 : Int32).toNatClampNeg (21 : Int32).toNatClampNeg i = p10 i from cpy0 (show i < 21 by omega), show va_cpy p11 t11 (0 : Int32).toNatClampNeg (0 : Int32).toNatClampNeg (21 : Int32).toNatClampNeg i = p11 i from cpy0 (show i < 21 by omega)]
    exact hL.2.2 i hi
  · dsimp only
    rw [show va_cpy p7 t7 (0 : Int32).toNatClampNeg (0 : Int32).toNatClampNeg (12 : Int32).toNatClampNeg w = p7 w from cpy0 (show w < 12 by omega)]
    exact hc w hw
  · dsimp only
    rw [show va_cpy p8 t8 (0 : Int32).toNatClampNeg (0 : Int32).toNatClampNeg (8 : Int32).toNatClampNeg k = p8 k from cpy0 (show k < 8 by omega), show va_cpy p9 t9 (0 : Int32).toNatClampNeg (0 : Int32).toNatClampNeg (8 : Int32).toNatClampNeg k = p9 k from cpy0 (show k < 8 by omega)]
    exact hw k hk
theorem image8_loop {all : Nat → Int32} {v : Nat} (hv : v < 2) (K : (Nat → Int32) → Option (Int32 × Int32 × (Nat → Int32) × (Nat → Int32))) : ∀ k i n A, i + k = 186 → k < n → (∀ j, A j = if 186 * (v + 1) ≤ j ∧ j < 186 * (v + 1) + i then all (j - 186 * (v + 1)) else all j) →
    ∃ A', fX8_image_20 (nI v) K n (nI i) A = K A' ∧ ∀ j, A' j = if 186 * (v + 1) ≤ j ∧ j < 186 * (v + 1) + 186 then all (j - 186 * (v + 1)) else all j := by
  intro k
  induction k with
  | zero =>
    intro i n A hi hn h
    obtain ⟨n, rfl⟩ : ∃ m, n = m + 1 := ⟨n - 1, by omega⟩
    obtain rfl : i = 186 := by omega
    exact ⟨A, by rw [fX8_image_20, if_pos (by decide)], h⟩
  | succ k ih =>
    intro i n A hi hn h
    obtain ⟨n, rfl⟩ : ∃ m, n = m + 1 := ⟨n - 1, by omega⟩
    have e : (186 * (nI v + 1) + nI i : Int32) = nI (186 * (v + 1) + i) := by rw [nI_inc, lit 186, pk_mul, nI_add]
    rw [fX8_image_20, lit 186, if_neg (inle (by omega) (by omega)), rdI_nI (by omega) (by decide), ← lit 186, e, wrI_nI (by omega) (by decide), nI_inc]
    refine ih (i + 1) n _ (by omega) (by omega) (fun j => ?_)
    unfold upd
    by_cases q : j = 186 * (v + 1) + i
    · rw [if_pos q, if_pos (by omega), h i, if_neg (by omega), q, Nat.add_sub_cancel_left]
    · rw [if_neg q, h j]
      by_cases q2 : 186 * (v + 1) ≤ j ∧ j < 186 * (v + 1) + i
      · rw [if_pos q2, if_pos (by omega)]
      · rw [if_neg q2, if_neg (by omega)]
theorem restore8_loop {all : Nat → Int32} {v : Nat} (hv : v < 2) (K : (Nat → Int32) → Option (Int32 × Int32 × (Nat → Int32))) : ∀ k i n A, i + k = 186 → k < n → (∀ j, A j = if j < i then all (186 * (v + 1) + j) else all j) →
    ∃ A', fX8_restore_32 (nI v) K n (nI i) A = K A' ∧ ∀ j, A' j = if j < 186 then all (186 * (v + 1) + j) else all j := by
  intro k
  induction k with
  | zero =>
    intro i n A hi hn h
    obtain ⟨n, rfl⟩ : ∃ m, n = m + 1 := ⟨n - 1, by omega⟩
    obtain rfl : i = 186 := by omega
    exact ⟨A, by rw [fX8_restore_32, if_pos (by decide)], h⟩
  | succ k ih =>
    intro i n A hi hn h
    obtain ⟨n, rfl⟩ : ∃ m, n = m + 1 := ⟨n - 1, by omega⟩
    have e : (186 * (nI v + 1) + nI i : Int32) = nI (186 * (v + 1) + i) := by rw [nI_inc, lit 186, pk_mul, nI_add]
    rw [fX8_restore_32, e, lit 186, if_neg (inle (by omega) (by omega)), rdI_nI (by omega) (by decide), wrI_nI (by omega) (by decide), nI_inc]
    refine ih (i + 1) n _ (by omega) (by omega) (fun j => ?_)
    unfold upd
    by_cases q : j = i
    · rw [if_pos q, if_pos (by omega), h, if_neg (by omega), q]
    · rw [if_neg q, h j]
      by_cases q2 : j < i
      · rw [if_pos q2, if_pos (by omega)]
      · rw [if_neg q2, if_neg (by omega)]
theorem up_same {α : Type} (f : Nat → α) (i : Nat) (x : α) (h : f i = x) : va_up f i x = f := by
  funext j
  unfold va_up
  by_cases q : j = i
  · rw [if_pos q, q, h]
  · rw [if_neg q]
theorem iix_nI {k : Nat} (hk : k < 2) : iix (nI k) = k := by
  have : ∀ j, j < 2 → iix (nI j) = j := by decide
  exact this k hk
theorem st_image : Step_image Rel0 := by
  intro w0 w1 w2 w3 w4 w5 w6 w7 w8 w9 w10 w11 xt xn xf xp rs rz rv made im all has mt mn mf mp so ma nu th v i ei hR
  obtain ⟨⟨B, hB, hM, hC⟩, hT, hF, hRw, hI⟩ := id hR
  unfold fX7_image fX8_image
  rw [show (1 : Int64) = lN 1 from rfl]
  rcases within_rng v (show 1 < 2 ^ 31 by decide) with ⟨h1, h2⟩ | ⟨h1, h2, h3⟩ | ⟨k, hk, rfl, r1, r2, r3⟩
  · refine ⟨-2, made, _, _, _, _, _, _, _, _, _, _, _, _, 0, all, has, by rw [if_pos h1], by rw [h2]; rfl, ?_⟩
    rw [up_same im i _ rfl]; exact hR
  · refine ⟨-2, made, _, _, _, _, _, _, _, _, _, _, _, _, 0, all, has, by rw [if_neg h1, if_neg (show ¬ v < 2 from fun h => h2 (by
      rw [Int32.lt_iff_toInt_lt] at h; rw [Int32.le_iff_toInt_le]
      have e1 : (2 : Int32).toInt = 2 := rfl
      have e2 : (nI 1).toInt = 1 := rfl
      omega))], by rw [h3]; rfl, ?_⟩
    rw [up_same im i _ rfl]; exact hR
  · rw [iix_nI (by omega)] at ei
    subst ei
    obtain ⟨c7, c8, c9, c10, c11, g1, g2⟩ := take7 (im i).1 (im i).2.1 (im i).2.2.1 (im i).2.2.2.1 (im i).2.2.2.2.1 (im i).2.2.2.2.2.1 (im i).2.2.2.2.2.2.1 (im i).2.2.2.2.2.2.2.1 (im i).2.2.2.2.2.2.2.2.1 (im i).2.2.2.2.2.2.2.2.2.1 (im i).2.2.2.2.2.2.2.2.2.2.1 (im i).2.2.2.2.2.2.2.2.2.2.2 w0 w1 w2 w3 w4 w5 w6 w7 w8 w9 w10 w11
    obtain ⟨A', s1, s2⟩ := image8_loop (all := all) (v := i) (by omega) (fun (t_all_9 : Nat → Int32) => wrI 2 has (nI i) (vp_nar .boolean 1) (fun t_hasImage_10 => some ((0 : Int32), (0 : Int32), t_all_9, t_hasImage_10))) 186 0 FU all rfl (FU_big (by decide)) (fun j => by rw [if_neg (by omega)])
    rw [if_neg r1, if_pos (show nI i < 2 by rw [lit 2]; exact ilt (by omega) (by decide)), ckI_nI (by omega) (by decide), g1, bd12_some, wrI_nI (by omega) (by decide), r3, bd1_some, if_neg (show ¬ (1 : Int32) = 0 by decide)]
    rw [wrI_nI (by omega) (by decide)] at s1
    replace s1 := s1
    rw [show fX8_image_20 (nI i) (fun (t_all_9 : Nat → Int32) => wrI 2 has (nI i) (vp_nar .boolean 1) (fun t_hasImage_10 => some ((0 : Int32), (0 : Int32), t_all_9, t_hasImage_10))) FU 0 all = _ from s1]
    refine ⟨_, _, _, _, _, _, _, _, _, _, _, _, _, _, _, _, _, rfl, rfl, ⟨B, hB, fun j hj => ?_, hC⟩, hT, hF, hRw, fun l hl => ?_⟩
    · rw [s2, if_neg (by omega)]; exact hM j hj
    · by_cases q : l = i
      · subst q
        refine Or.inr ⟨?_, ?_, B, hB, fun j hj => ?_, ?_⟩
        · unfold upd; rw [if_pos rfl]; rfl
        · unfold upd; rw [if_pos rfl]; rfl
        · rw [s2, if_pos (by omega), Nat.add_sub_cancel_left]
          have := hM j hj
          rwa [Nat.zero_add] at this
        · rw [va_up_self]; exact g2 B hB hC
      · rw [va_up_ne im _ q]
        unfold upd
        rw [if_neg q, if_neg q]
        rcases hI l hl with h | ⟨h1, h2, B2, h3, h4, h5⟩
        · exact Or.inl h
        · refine Or.inr ⟨h1, h2, B2, h3, fun j hj => ?_, h5⟩
          rw [s2, if_neg (by omega)]; exact h4 j hj
theorem st_restore : Step_restore Rel0 := by
  intro w0 w1 w2 w3 w4 w5 w6 w7 w8 w9 w10 w11 xt xn xf xp rs rz rv made im all has mt mn mf mp so ma nu th v i ei hR
  obtain ⟨⟨B, hB, hM, hC⟩, hT, hF, hRw, hI⟩ := id hR
  unfold fX7_restore fX8_restore
  rw [show (1 : Int64) = lN 1 from rfl]
  rcases within_rng v (show 1 < 2 ^ 31 by decide) with ⟨h1, h2⟩ | ⟨h1, h2, h3⟩ | ⟨k, hk, rfl, r1, r2, r3⟩
  · exact ⟨-2, w0, w1, w2, w3, w4, w5, w6, w7, w8, w9, w10, w11, 0, all, by rw [if_pos h1], by rw [h2]; rfl, hR⟩
  · exact ⟨-2, w0, w1, w2, w3, w4, w5, w6, w7, w8, w9, w10, w11, 0, all, by rw [if_neg h1, if_neg (show ¬ v < 2 from fun h => h2 (by
      rw [Int32.lt_iff_toInt_lt] at h; rw [Int32.le_iff_toInt_le]
      have e1 : (2 : Int32).toInt = 2 := rfl
      have e2 : (nI 1).toInt = 1 := rfl
      omega))], by rw [h3]; rfl, hR⟩
  · rw [iix_nI (by omega)] at ei
    subst ei
    rw [if_neg r1, if_pos (show nI i < 2 by rw [lit 2]; exact ilt (by omega) (by decide)), rdI_nI (by omega) (by decide), r3, bd1_some, if_neg (show ¬ (1 : Int32) = 0 by decide), rdI_nI (by omega) (by decide)]
    rcases hI i (by omega) with ⟨h1, h2⟩ | ⟨h1, h2, B2, h3, h4, h5⟩
    · rw [h1, h2]
      exact ⟨-5, w0, w1, w2, w3, w4, w5, w6, w7, w8, w9, w10, w11, 0, all, rfl, rfl, hR⟩
    · obtain ⟨c7, c8, c9, c10, c11, g1, g2⟩ := take7 w0 w1 w2 w3 w4 w5 w6 w7 w8 w9 w10 w11 (im i).1 (im i).2.1 (im i).2.2.1 (im i).2.2.2.1 (im i).2.2.2.2.1 (im i).2.2.2.2.2.1 (im i).2.2.2.2.2.2.1 (im i).2.2.2.2.2.2.2.1 (im i).2.2.2.2.2.2.2.2.1 (im i).2.2.2.2.2.2.2.2.2.1 (im i).2.2.2.2.2.2.2.2.2.2.1 (im i).2.2.2.2.2.2.2.2.2.2.2
      obtain ⟨A', s1, s2⟩ := restore8_loop (all := all) (v := i) (by omega) (fun (t_all_12 : Nat → Int32) => some ((0 : Int32), (0 : Int32), t_all_12)) 186 0 FU all rfl (FU_big (by decide)) (fun j => by rw [if_neg (by omega)])
      rw [h1, h2, if_neg (show ¬ (1 : Int32) = 0 by decide), if_neg (show ¬ (1 : Int32) = 0 by decide), ckI_nI (by omega) (by decide), g1, bd12_some]
      replace s1 : fX8_restore_32 (nI i) (fun (t_all_12 : Nat → Int32) => some ((0 : Int32), (0 : Int32), t_all_12)) FU 0 all = some ((0 : Int32), (0 : Int32), A') := s1
      rw [s1]
      refine ⟨_, _, _, _, _, _, _, _, _, _, _, _, _, _, _, rfl, rfl, ⟨B2, h3, fun j hj => ?_, g2 B2 h3 h5⟩, hT, hF, hRw, imgs_keep hI (fun j hj => by rw [s2, if_neg (by omega)])⟩
      rw [s2, if_pos (by omega), Nat.zero_add]; exact h4 j hj
