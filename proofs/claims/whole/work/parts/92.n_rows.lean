-- uses: a_lib b_court c_leaf8 d_loop8 e_list f_why g_leaf h_rel i_state j_gen m_fill
/-! rows -/
theorem rix_nI {k : Nat} (hk : k < 4) : rix (nI k) = k := by
  have : ∀ j, j < 4 → rix (nI j) = j := by decide
  exact this k hk
theorem row_cases (v : Int32) : (fX7_isRow v = some 0 ∧ fX8_within v.toInt64 0 3 = some 0) ∨ ∃ k, k < 4 ∧ v = nI k ∧ fX7_isRow v = some 1 ∧ fX8_within v.toInt64 0 3 = some 1 := by
  unfold fX7_isRow
  rcases within_rng v (show 3 < 2 ^ 31 by decide) with ⟨h1, h2⟩ | ⟨h1, h2, h3⟩ | ⟨k, hk, rfl, r1, r2, r3⟩
  · exact Or.inl ⟨by rw [if_pos h1], h2⟩
  · refine Or.inl ⟨?_, h3⟩
    rw [if_neg h1, if_pos]
    rw [Int32.le_iff_toInt_le] at h2 ⊢
    have e1 : (4 : Int32).toInt = 4 := rfl
    have e2 : (nI 3).toInt = 3 := rfl
    omega
  · refine Or.inr ⟨k, by omega, rfl, ?_, r3⟩
    rw [if_neg r1, if_neg (show ¬ 4 ≤ nI k by rw [lit 4]; exact inle (by omega) (by decide))]
theorem refusal7 {z : Int32} {k : Nat} (hk : k < 4) : fX7_rowRefusal z (nI k) = some (if z = -1 then -6 else 0) := by
  unfold fX7_rowRefusal
  rcases row_cases (nI k) with ⟨h1, h2⟩ | ⟨j, hj, e, h1, h2⟩
  · exfalso
    unfold fX7_isRow at h1
    rw [if_neg (nI_pos (by omega)), if_neg (show ¬ 4 ≤ nI k by rw [lit 4]; exact inle (by omega) (by decide))] at h1
    exact absurd h1 (by decide)
  · rw [h1, bd1_some, if_neg (show ¬ (1 : Int32) = 0 by decide), ckI_nI hk (by decide)]
    split <;> rfl
theorem refusal7_no {z v : Int32} (h : fX7_isRow v = some 0) : fX7_rowRefusal z v = some (-2) := by
  unfold fX7_rowRefusal
  rw [h]; rfl
theorem trim_cut (s : Int32) (v : Int64) : ∃ x, fX4_trimmed s v = some x ∧ fX8_cutTo v s = some x := by
  unfold fX4_trimmed fX8_cutTo
  by_cases h0 : s = 0
  · exact ⟨_, by rw [if_pos h0], by rw [if_pos h0]⟩
  · by_cases h1 : s = 1
    · exact ⟨_, by rw [if_neg h0, if_pos h1], by rw [if_neg h0, if_pos h1]⟩
    · by_cases h2 : s = 2
      · exact ⟨_, by rw [if_neg h0, if_neg h1, if_pos h2], by rw [if_neg h0, if_neg h1, if_pos h2]⟩
      · exact ⟨_, by rw [if_neg h0, if_neg h1, if_neg h2], by rw [if_neg h0, if_neg h1, if_neg h2]⟩
theorem nums8_loop {v c : Nat} (hv : v < 4) (hc : c ≤ 40) (K : (Nat → Int64) → Option (Int32 × Int32 × (Nat → Int32) × (Nat → Int32) × (Nat → Int64))) : ∀ k i n f, i + k = c → k < n → ∃ f', fX8_numbers_64 (nI v) (nI c) K n (nI i) f = K f' ∧ (∀ j, i ≤ j → j < c → f' (40 * v + j) = 0) ∧ (∀ j, j < 40 * v + i ∨ 40 * v + c ≤ j → f' j = f j) := by
  intro k
  induction k with
  | zero =>
    intro i n f hi hn
    obtain ⟨n, rfl⟩ : ∃ m, n = m + 1 := ⟨n - 1, by omega⟩
    refine ⟨f, ?_, fun j h1 h2 => absurd h1 (by omega), fun j _ => rfl⟩
    rw [fX8_numbers_64, if_pos (ile (by omega) (by omega))]
  | succ k ih =>
    intro i n f hi hn
    obtain ⟨n, rfl⟩ : ∃ m, n = m + 1 := ⟨n - 1, by omega⟩
    have e : (40 * nI v + nI i : Int32) = nI (40 * v + i) := by rw [lit 40, pk_mul, nI_add]
    rw [fX8_numbers_64, if_neg (inle (by omega) (by omega)), e, wrL_nI (by omega) (by decide), nI_inc]
    obtain ⟨f', h1, h2, h3⟩ := ih (i + 1) n (vp_updL f (40 * v + i) 0) (by omega) (by omega)
    refine ⟨f', h1, fun j g1 g2 => ?_, fun j g1 => ?_⟩
    · by_cases q : j = i
      · subst q; rw [h3 _ (by omega)]; unfold vp_updL; rw [if_pos rfl]
      · exact h2 j (by omega) g2
    · rw [h3 j (by omega)]; unfold vp_updL; rw [if_neg (by omega)]
theorem lt_of_not_le4 {v : Int32} (h : ¬ v ≤ nI 3) : ¬ v < 4 := by
  intro h2
  apply h
  rw [Int32.lt_iff_toInt_lt] at h2; rw [Int32.le_iff_toInt_le]
  have e1 : (4 : Int32).toInt = 4 := rfl
  have e2 : (nI 3).toInt = 3 := rfl
  omega
theorem st_numbers : Step_numbers Rel0 := by
  intro w0 w1 w2 w3 w4 w5 w6 w7 w8 w9 w10 w11 xt xn xf xp rs rz rv made im all has mt mn mf mp so ma nu th v s n i ei hR
  obtain ⟨hC, hT, hF, hRw, hI⟩ := id hR
  have keep : ∀ (r : Int32), Rel0 (w0, w1, w2, w3, w4, w5, w6, w7, w8, w9, w10, w11) xt xn xf xp (va_up rs i (rs i)) (va_up rz i (rz i)) (va_up rv i (rv i)) made im all has mt mn mf mp so ma nu := by
    intro r
    have e : ∀ {α : Type} (f : Nat → α), va_up f i (f i) = f := fun f => by
      funext j; unfold va_up; by_cases q : j = i
      · rw [if_pos q, q]
      · rw [if_neg q]
    rw [e rs, e rz, e rv]; exact hR
  unfold fX7_numbers fX8_numbers
  rcases row_cases v with ⟨h1, h2⟩ | ⟨k, hk, rfl, h1, h2⟩
  · exact ⟨-2, rv i, rs i, rz i, 0, so, ma, nu, by rw [h1]; rfl, by rw [h2]; rfl, keep 0⟩
  · rw [h1, h2, bd1_some, bd1_some, if_neg (show ¬ (1 : Int32) = 0 by decide), if_neg (show ¬ (1 : Int32) = 0 by decide), show (3 : Int64) = lN 3 from rfl, show (40 : Int64) = lN 40 from rfl]
    rw [rix_nI hk] at ei
    subst ei
    rcases within_rng s (show 3 < 2 ^ 31 by decide) with ⟨g1, g2⟩ | ⟨g1, g2, g3⟩ | ⟨q, hq, rfl, r1, r2, r3⟩
    · exact ⟨-2, rv i, rs i, rz i, 0, so, ma, nu, by rw [if_pos g1], by rw [g2]; rfl, keep 0⟩
    · exact ⟨-2, rv i, rs i, rz i, 0, so, ma, nu, by rw [if_neg g1, if_neg (lt_of_not_le4 g2)], by rw [g3]; rfl, keep 0⟩
    · rw [if_neg r1, if_pos (show nI q < 4 by rw [lit 4]; exact ilt (by omega) (by decide)), r3, bd1_some, if_neg (show ¬ (1 : Int32) = 0 by decide)]
      rcases within_rng n (show 40 < 2 ^ 31 by decide) with ⟨g1, g2⟩ | ⟨g1, g2, g3⟩ | ⟨c, hcc, rfl, p1, p2, p3⟩
      · exact ⟨-3, rv i, rs i, rz i, 0, so, ma, nu, by rw [if_pos g1], by rw [g2]; rfl, keep 0⟩
      · exact ⟨-3, rv i, rs i, rz i, 0, so, ma, nu, by rw [if_neg g1, if_neg (show ¬ n ≤ 40 from g2)], by rw [g3]; rfl, keep 0⟩
      · obtain ⟨f', f1, f2, f3⟩ := fillL (show 40 < 2 ^ 31 by decide) (rv i) 0
        obtain ⟨u', u1, u2, u3⟩ := nums8_loop hk hcc (fun (t_numbers_17 : Nat → Int64) => some ((0 : Int32), (0 : Int32), upd so i (nI q), upd ma i (nI c), t_numbers_17)) c 0 FU nu (by omega) (FU_big (by omega))
        rw [if_neg p1, if_pos (show nI c ≤ 40 from p2), ckI_nI hk (by decide)]
        unfold fX4_begin
        rw [f1, bd1_some, bd3_some, p3, bd1_some, if_neg (show ¬ (1 : Int32) = 0 by decide), wrI_nI hk (by decide), wrI_nI hk (by decide)]
        replace u1 : fX8_numbers_64 (nI i) (nI c) (fun (t_numbers_17 : Nat → Int64) => some ((0 : Int32), (0 : Int32), upd so i (nI q), upd ma i (nI c), t_numbers_17)) FU 0 nu = some ((0 : Int32), (0 : Int32), upd so i (nI q), upd ma i (nI c), u') := u1
        rw [u1]
        refine ⟨0, f', nI q, nI c, 0, upd so i (nI q), upd ma i (nI c), u', rfl, rfl, hC, hT, hF, fun k h4 => ?_, hI⟩
        by_cases e : k = i
        · subst e
          rw [va_up_self, va_up_self, va_up_self]
          unfold upd
          rw [if_pos rfl, if_pos rfl]
          exact Or.inr ⟨c, q, hcc, hq, rfl, rfl, rfl, rfl, fun j hj => by rw [f2 j (by omega), u2 j (by omega) hj]⟩
        · rw [va_up_ne rs _ e, va_up_ne rz _ e, va_up_ne rv _ e]
          unfold upd
          rw [if_neg e, if_neg e]
          rcases hRw k h4 with h | ⟨c2, q2, z1, z2, z3, z4, z5, z6, z7⟩
          · exact Or.inl h
          · exact Or.inr ⟨c2, q2, z1, z2, z3, z4, z5, z6, fun j hj => by rw [z7 j hj, u3 _ (by omega)]⟩
