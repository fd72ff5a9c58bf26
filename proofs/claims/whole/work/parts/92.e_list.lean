/-! the class's list of strings -/
theorem ct_cntF (p : Nat → Bool) : ∀ k i, fb_ct p (i + k) = fb_ct p i + cntF p i k
  | 0, i => rfl
  | k + 1, i => by
    have h := ct_cntF p k (i + 1)
    rw [show i + (k + 1) = i + 1 + k by omega, h, fb_ct_succ, cntF, Nat.add_assoc]
theorem cntF_ct (p : Nat → Bool) (k : Nat) : cntF p 0 k = fb_ct p k := by
  have h := ct_cntF p k 0
  rw [Nat.zero_add] at h
  rw [h]; simp [fb_ct]
theorem inj_le {m : Nat} {p : Nat → Bool} {f : Nat → Nat} : ∀ (n : Nat) (q : Nat → Bool), (∀ i, i < n → p i = true → f i < m ∧ q (f i) = true) → (∀ i j, i < j → j < n → p i = true → p j = true → f i ≠ f j) → fb_ct p n ≤ fb_ct q m
  | 0, q, _, _ => Nat.zero_le _
  | n + 1, q, h, hj => by
    rw [fb_ct_succ]
    by_cases hp : p n = true
    · have h1 := h n (Nat.lt_succ_self n) hp
      have h2 := inj_le n (fun k => if k = f n then false else q k) (fun i hi hpi => by
        have h3 := h i (by omega) hpi
        refine ⟨h3.1, ?_⟩
        show (if f i = f n then false else q (f i)) = true
        rw [if_neg (hj i n hi (Nat.lt_succ_self n) hpi hp)]
        exact h3.2) (fun i j hij hjn => hj i j hij (by omega))
      have h3 := fb_ct_upd q false h1.1
      rw [h1.2] at h3
      simp only [if_true, Bool.false_eq_true, if_false] at h3
      rw [if_pos hp]
      omega
    · rw [if_neg hp]
      exact inj_le n q (fun i hi => h i (by omega)) (fun i j hij hjn => hj i j hij (by omega))
/-- P lists, rising, the pairs of B that are tied -/
def LS0 (m : Nat) (P : Nat → Nat) (B : Nat → Nat) : Prop :=
  (∀ i, i < m → P i / 20 < P i % 20 ∧ P i % 20 < B 0 ∧ tied B (P i / 20) (P i % 20) = true) ∧ (∀ i j, i < j → j < m → P i < P j) ∧ (∀ a b, a < b → b < B 0 → tied B a b = true → ∃ i, i < m ∧ P i = 20 * a + b)
def CL (m : Nat) (P : Nat → Nat) (pairs knots : Nat → Int32) (B : Nat → Nat) : Prop :=
  m ≤ 21 ∧ LS0 m P B ∧ ∀ i, i < m → pairs i = nI (P i) ∧ knots i = nI (B (42 + 12 * (P i / 20) + P i % 20) - 1)
theorem idx7_loop {m : Nat} {P : Nat → Nat} {pairs knots : Nat → Int32} {B : Nat → Nat} (h : CL m P pairs knots B) (v : Int32) (K : Option Int32) : ∀ k i n, i + k = m → k < n → (∃ j, i ≤ j ∧ j < m ∧ v = nI (P j) ∧ fX1_indexOf_2 v (nI m) pairs K n (nI i) = some (nI j)) ∨ ((∀ j, i ≤ j → j < m → v ≠ nI (P j)) ∧ fX1_indexOf_2 v (nI m) pairs K n (nI i) = K) := by
  have h21 := h.1
  intro k
  induction k with
  | zero =>
    intro i n hi hn
    obtain ⟨n, rfl⟩ : ∃ m, n = m + 1 := ⟨n - 1, by omega⟩
    refine Or.inr ⟨fun j h1 h2 => absurd h2 (by omega), ?_⟩
    rw [fX1_indexOf_2, if_pos (by rw [le_nI (by omega) (by omega)]; omega)]
  | succ k ih =>
    intro i n hi hn
    obtain ⟨n, rfl⟩ : ∃ m, n = m + 1 := ⟨n - 1, by omega⟩
    have e : fX1_indexOf_2 v (nI m) pairs K (n + 1) (nI i) = if nI (P i) = v then some (nI i) else fX1_indexOf_2 v (nI m) pairs K n (nI (i + 1)) := by
      rw [fX1_indexOf_2, if_neg (by rw [le_nI (by omega) (by omega)]; omega), rdI_nI (by omega) (by decide), (h.2.2 i (by omega)).1, nI_inc]
    rw [e]
    by_cases hv : nI (P i) = v
    · exact Or.inl ⟨i, Nat.le_refl i, by omega, hv.symm, by rw [if_pos hv]⟩
    · rw [if_neg hv]
      rcases ih (i + 1) n (by omega) (by omega) with ⟨j, h1, h2, h3, h4⟩ | ⟨h1, h2⟩
      · exact Or.inl ⟨j, by omega, h2, h3, h4⟩
      · refine Or.inr ⟨fun j hj hm => ?_, h2⟩
        by_cases e : j = i
        · subst e; exact fun e => hv e.symm
        · exact h1 j (by omega) hm
theorem idx7 {m : Nat} {P : Nat → Nat} {pairs knots : Nat → Int32} {B : Nat → Nat} (h : CL m P pairs knots B) (v : Int32) : (∃ j, j < m ∧ v = nI (P j) ∧ fX1_indexOf (nI m) pairs v = some (nI j)) ∨ ((∀ j, j < m → v ≠ nI (P j)) ∧ fX1_indexOf (nI m) pairs v = some (-1)) := by
  have h21 := h.1
  unfold fX1_indexOf
  rcases idx7_loop h v (some (-1)) m 0 FU (by omega) (FU_big (by omega)) with ⟨j, h1, h2, h3, h4⟩ | ⟨h1, h2⟩
  · exact Or.inl ⟨j, h2, h3, h4⟩
  · exact Or.inr ⟨fun j hj => h1 j (Nat.zero_le j) hj, h2⟩
theorem P_lt {m : Nat} {P B : Nat → Nat} (h : LS0 m P B) (hB : WF B) {i : Nat} (hi : i < m) : P i < 240 := by
  have h1 := h.1 i hi
  have h2 := hB.1
  omega
/-- of a pair: its index where it is tied -/
theorem idx7_pair {m : Nat} {P : Nat → Nat} {pairs knots : Nat → Int32} {B : Nat → Nat} (h : CL m P pairs knots B) (hB : WF B) {a b : Nat} (hab : a < b) (hb : b < B 0) : (tied B a b = true ∧ ∃ j, j < m ∧ P j = 20 * a + b ∧ fX1_indexOf (nI m) pairs (nI (20 * a + b)) = some (nI j)) ∨ (tied B a b = false ∧ fX1_indexOf (nI m) pairs (nI (20 * a + b)) = some (-1)) := by
  have h12 := hB.1
  rcases idx7 h (nI (20 * a + b)) with ⟨j, h1, h2, h3⟩ | ⟨h1, h2⟩
  · have hp := P_lt h.2.1 hB h1
    have e : P j = 20 * a + b := ((nI_eq (by omega) (by omega)).mp h2).symm
    have h4 := h.2.1.1 j h1
    refine Or.inl ⟨?_, j, h1, e, h3⟩
    have e1 : P j / 20 = a := by omega
    have e2 : P j % 20 = b := by omega
    rw [← e1, ← e2]; exact h4.2.2
  · refine Or.inr ⟨?_, h2⟩
    cases ht : tied B a b with
    | false => rfl
    | true =>
      obtain ⟨i, hi, e⟩ := h.2.1.2.2 a b hab hb ht
      exact absurd (by rw [e]) (h1 i hi)
/-- the strings at a window, counted along the list and along the row -/
theorem deg_list {m : Nat} {P B : Nat → Nat} (h : LS0 m P B) (hB : WF B) {w : Nat} (hw : w < 12) : cntF (fun i => decide (P i / 20 = w) || decide (P i % 20 = w)) 0 m = degN B w := by
  have h12 := hB.1
  have hsym := hB.2.2.2.2.2.2.2.2.2.1
  unfold degN
  rw [cntF_ct, cntF_ct]
  apply Nat.le_antisymm
  · refine inj_le (f := fun i => if P i / 20 = w then P i % 20 else P i / 20) m (fun k => tied B w k) ?_ ?_
    · intro i hi hp
      have h1 := h.1 i hi
      show (if P i / 20 = w then P i % 20 else P i / 20) < 12 ∧ tied B w (if P i / 20 = w then P i % 20 else P i / 20) = true
      by_cases e : P i / 20 = w
      · rw [if_pos e]; refine ⟨by omega, ?_⟩; rw [← e]; exact h1.2.2
      · rw [if_neg e]
        have e2 : P i % 20 = w := by simpa [e] using hp
        refine ⟨by omega, ?_⟩
        have h2 := h1.2.2
        unfold tied at h2 ⊢
        rw [e2] at h2
        rw [← (hsym (P i / 20) w (by omega) hw).2.1]
        exact h2
    · intro i j hij hj hpi hpj e
      have h1 := h.2.1 i j hij hj
      have h2 := h.1 i (by omega)
      have h3 := h.1 j hj
      have g1 : P i / 20 = w ∨ P i % 20 = w := by simpa using hpi
      have g2 : P j / 20 = w ∨ P j % 20 = w := by simpa using hpj
      split at e <;> split at e <;> omega
  · have hx : ∀ k, ∃ i, k < 12 → tied B w k = true → i < m ∧ P i = 20 * min w k + max w k := by
      intro k
      by_cases hk : k < 12 ∧ tied B w k = true
      · have h1 := (hsym w k hw hk.1)
        have h2 := h1.2.2 (by have := hk.2; unfold tied at this; simpa using this)
        have h3 : tied B (min w k) (max w k) = true := by
          by_cases e : w ≤ k
          · rw [Nat.min_eq_left e, Nat.max_eq_right e]; exact hk.2
          · rw [Nat.min_eq_right (by omega), Nat.max_eq_left (by omega)]
            have := hk.2
            unfold tied at this ⊢
            rw [← h1.2.1]; exact this
        obtain ⟨i, hi, e⟩ := h.2.2 (min w k) (max w k) (by omega) (by omega) h3
        exact ⟨i, fun _ _ => ⟨hi, e⟩⟩
      · exact ⟨0, fun h1 h2 => absurd ⟨h1, h2⟩ hk⟩
    obtain ⟨g, hg⟩ := Classical.axiomOfChoice hx
    refine inj_le (f := g) 12 (fun i => decide (P i / 20 = w) || decide (P i % 20 = w)) ?_ ?_
    · intro k hk hp
      obtain ⟨h1, h2⟩ := hg k hk hp
      refine ⟨h1, ?_⟩
      have h3 := (hsym w k hw hk).2.2 (by have := hp; unfold tied at this; simpa using this)
      by_cases e : w ≤ k
      · rw [Nat.min_eq_left e, Nat.max_eq_right e] at h2
        have : P (g k) / 20 = w := by omega
        simp [this]
      · rw [Nat.min_eq_right (by omega), Nat.max_eq_left (by omega)] at h2
        have : P (g k) % 20 = w := by omega
        simp [this]
    · intro k l hkl hl hpk hpl e
      obtain ⟨-, h2⟩ := hg k (by omega) hpk
      obtain ⟨-, h3⟩ := hg l hl hpl
      rw [e] at h2
      omega
theorem strAt7_loop {m : Nat} {P : Nat → Nat} {pairs knots : Nat → Int32} {B : Nat → Nat} (h : CL m P pairs knots B) (hB : WF B) {w : Nat} (hw : w < 12) (K : Int32 → Option Int32) : ∀ k i c n, i + k = m → k < n → fX1_stringsAt_4 (nI w) (nI m) pairs K n (nI c) (nI i) = K (nI (c + cntF (fun i => decide (P i / 20 = w) || decide (P i % 20 = w)) i k)) := by
  have h21 := h.1
  intro k
  induction k with
  | zero =>
    intro i c n hi hn
    obtain ⟨n, rfl⟩ : ∃ m, n = m + 1 := ⟨n - 1, by omega⟩
    rw [fX1_stringsAt_4, if_pos (by rw [le_nI (by omega) (by omega)]; omega)]
    rfl
  | succ k ih =>
    intro i c n hi hn
    obtain ⟨n, rfl⟩ : ∃ m, n = m + 1 := ⟨n - 1, by omega⟩
    have hp := P_lt h.2.1 hB (show i < m by omega)
    rw [fX1_stringsAt_4, if_neg (by rw [le_nI (by omega) (by omega)]; omega), rdI_nI (by omega) (by decide), (h.2.2 i (by omega)).1, les_nI (by omega), bd1_some, rdI_nI (by omega) (by decide), (h.2.2 i (by omega)).1, gre_nI (by omega), bd1_some, nI_inc, nI_inc, ih _ _ _ (by omega) (by omega), ih _ _ _ (by omega) (by omega), cntF]
    simp (disch := omega) only [eq_nI]
    by_cases e1 : P i / 20 = w
    · simp [e1, Nat.add_assoc]
    · by_cases e2 : P i % 20 = w
      · simp [e1, e2, Nat.add_assoc]
      · simp [e1, e2]
theorem strAt7 {m : Nat} {P : Nat → Nat} {pairs knots : Nat → Int32} {B : Nat → Nat} (h : CL m P pairs knots B) (hB : WF B) {w : Nat} (hw : w < 12) : fX1_stringsAt (nI m) pairs (nI w) = some (nI (degN B w)) := by
  have h21 := h.1
  unfold fX1_stringsAt
  rw [n0, strAt7_loop h hB hw _ m 0 0 FU (by omega) (FU_big (by omega)), deg_list h.2.1 hB hw, Nat.zero_add]
