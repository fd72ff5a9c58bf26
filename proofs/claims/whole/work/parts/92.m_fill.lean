-- uses: a_lib b_court c_leaf8 d_loop8 j_gen
/-! arrays filled -/
theorem fillI_loop {N : Nat} (hN : N < 2 ^ 31) (v : Int32) (K : (Nat → Int32) → Option (Nat → Int32)) : ∀ k i n f, i + k = N → k < n → ∃ f', fJ7_fill_53178_5 N v (nI N) K n (nI i) f = K f' ∧ (∀ j, i ≤ j → j < N → f' j = v) ∧ (∀ j, j < i ∨ N ≤ j → f' j = f j) := by
  intro k
  induction k with
  | zero =>
    intro i n f hi hn
    obtain ⟨n, rfl⟩ : ∃ m, n = m + 1 := ⟨n - 1, by omega⟩
    refine ⟨f, ?_, fun j h1 h2 => absurd h1 (by omega), fun j _ => rfl⟩
    rw [fJ7_fill_53178_5, if_pos (ile (by omega) (by omega))]
  | succ k ih =>
    intro i n f hi hn
    obtain ⟨n, rfl⟩ : ∃ m, n = m + 1 := ⟨n - 1, by omega⟩
    rw [fJ7_fill_53178_5, if_neg (inle (by omega) (by omega)), wrI_nI (by omega) hN, nI_inc]
    obtain ⟨f', h1, h2, h3⟩ := ih (i + 1) n (upd f i v) (by omega) (by omega)
    refine ⟨f', h1, fun j g1 g2 => ?_, fun j g1 => ?_⟩
    · by_cases q : j = i
      · subst q; rw [h3 j (by omega)]; exact pk_us
      · exact h2 j (by omega) g2
    · rw [h3 j (by omega)]; unfold upd; rw [if_neg (by omega)]
theorem fillI {N : Nat} (hN : N < 2 ^ 31) (f : Nat → Int32) (v : Int32) : ∃ f', fJ7_fill_53178 N f v = some f' ∧ (∀ j, j < N → f' j = v) ∧ (∀ j, N ≤ j → f' j = f j) := by
  unfold fJ7_fill_53178
  rw [bnd_e, n0]
  obtain ⟨f', h1, h2, h3⟩ := fillI_loop hN v (fun (p0_f_5 : Nat → Int32) => some p0_f_5) N 0 FU f (by omega) (FU_big (by omega))
  exact ⟨f', h1, fun j h => h2 j (Nat.zero_le j) h, fun j h => h3 j (Or.inr h)⟩
theorem fillL_loop {N : Nat} (hN : N < 2 ^ 31) (v : Int64) (K : (Nat → Int64) → Option (Nat → Int64)) : ∀ k i n f, i + k = N → k < n → ∃ f', fJ7_fill_d0a16_6 N v (nI N) K n (nI i) f = K f' ∧ (∀ j, i ≤ j → j < N → f' j = v) ∧ (∀ j, j < i ∨ N ≤ j → f' j = f j) := by
  intro k
  induction k with
  | zero =>
    intro i n f hi hn
    obtain ⟨n, rfl⟩ : ∃ m, n = m + 1 := ⟨n - 1, by omega⟩
    refine ⟨f, ?_, fun j h1 h2 => absurd h1 (by omega), fun j _ => rfl⟩
    rw [fJ7_fill_d0a16_6, if_pos (ile (by omega) (by omega))]
  | succ k ih =>
    intro i n f hi hn
    obtain ⟨n, rfl⟩ : ∃ m, n = m + 1 := ⟨n - 1, by omega⟩
    rw [fJ7_fill_d0a16_6, if_neg (inle (by omega) (by omega)), wrL_nI (by omega) hN, nI_inc]
    obtain ⟨f', h1, h2, h3⟩ := ih (i + 1) n (vp_updL f i v) (by omega) (by omega)
    refine ⟨f', h1, fun j g1 g2 => ?_, fun j g1 => ?_⟩
    · by_cases q : j = i
      · subst q; rw [h3 j (by omega)]; unfold vp_updL; rw [if_pos rfl]
      · exact h2 j (by omega) g2
    · rw [h3 j (by omega)]; unfold vp_updL; rw [if_neg (by omega)]
theorem fillL {N : Nat} (hN : N < 2 ^ 31) (f : Nat → Int64) (v : Int64) : ∃ f', fJ7_fill_d0a16 N f v = some f' ∧ (∀ j, j < N → f' j = v) ∧ (∀ j, N ≤ j → f' j = f j) := by
  unfold fJ7_fill_d0a16
  rw [bnd_e, n0]
  obtain ⟨f', h1, h2, h3⟩ := fillL_loop hN v (fun (p0_f_5 : Nat → Int64) => some p0_f_5) N 0 FU f (by omega) (FU_big (by omega))
  exact ⟨f', h1, fun j h => h2 j (Nat.zero_le j) h, fun j h => h3 j (Or.inr h)⟩
