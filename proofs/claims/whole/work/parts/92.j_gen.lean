-- uses: a_lib b_court
/-! loops in general: one count, two counts a < b; with and without a way out -/
theorem ile {a b : Nat} (h : a ≤ b) (hb : b < 2 ^ 31) : nI a ≤ nI b := by rw [le_nI (by omega) hb]; exact h
theorem inle {a b : Nat} (h : b < a) (ha : a < 2 ^ 31) : ¬ nI a ≤ nI b := by rw [le_nI ha (by omega)]; omega
theorem ilt {a b : Nat} (h : a < b) (hb : b < 2 ^ 31) : nI a < nI b := by rw [lt_nI (by omega) hb]; exact h
theorem inlt {a b : Nat} (h : b ≤ a) (ha : a < 2 ^ 31) : ¬ nI a < nI b := by rw [lt_nI ha (by omega)]; omega
theorem ine {a b : Nat} (h : a ≠ b) (ha : a < 2 ^ 31) (hb : b < 2 ^ 31) : ¬ nI a = nI b := by rw [eq_nI ha hb]; exact h
theorem sub1 {a : Nat} (h : 1 ≤ a) : nI a - 1 = nI (a - 1) := by rw [n1, pk_sub h]
theorem sub2 {a : Nat} (h : 1 ≤ a) : nI a - nI 1 = nI (a - 1) := pk_sub h
def fold1 {S : Type} (g : S → Nat → S) : Nat → Nat → S → S
  | _, 0, s => s
  | i, k + 1, s => fold1 g (i + 1) k (g s i)
def forF {S X : Type} (f : S → Nat → S ⊕ X) : Nat → Nat → S → S ⊕ X
  | _, 0, s => .inl s
  | i, k + 1, s => match f s i with
    | .inl s' => forF f (i + 1) k s'
    | .inr x => .inr x
def fold2 {S : Type} (n : Nat) (g : S → Nat → Nat → S) : Nat → Nat → S → S
  | _, 0, s => s
  | a, k + 1, s => fold2 n g (a + 1) k (fold1 (fun s b => g s a b) (a + 1) (n - (a + 1)) s)
def forF2 {S X : Type} (n : Nat) (f : S → Nat → Nat → S ⊕ X) : Nat → Nat → S → S ⊕ X
  | _, 0, s => .inl s
  | a, k + 1, s => match forF (fun s b => f s a b) (a + 1) (n - (a + 1)) s with
    | .inl s' => forF2 n f (a + 1) k s'
    | .inr x => .inr x
theorem fold1_congr {S : Type} {g h : S → Nat → S} : ∀ k i s, (∀ j s, i ≤ j → j < i + k → g s j = h s j) → fold1 g i k s = fold1 h i k s
  | 0, _, _, _ => rfl
  | k + 1, i, s, e => by rw [fold1, fold1, e i s (by omega) (by omega)]; exact fold1_congr k (i + 1) _ (fun j s h1 h2 => e j s (by omega) (by omega))
theorem fold1_snoc {S : Type} (g : S → Nat → S) : ∀ k i s, fold1 g i (k + 1) s = g (fold1 g i k s) (i + k)
  | 0, i, s => rfl
  | k + 1, i, s => by
    rw [fold1, fold1_snoc g k (i + 1), fold1, show i + 1 + k = i + (k + 1) by omega]
theorem fold1_add {S : Type} (g : S → Nat → S) : ∀ k l i s, fold1 g i (k + l) s = fold1 g (i + k) l (fold1 g i k s)
  | 0, l, i, s => by rw [Nat.zero_add]; rfl
  | k + 1, l, i, s => by
    rw [show k + 1 + l = (k + l) + 1 by omega, fold1, fold1, fold1_add g k l (i + 1), show i + 1 + k = i + (k + 1) by omega]
theorem fold1_inv {S : Type} {g : S → Nat → S} (I : Nat → S → Prop) : ∀ k i s, I i s → (∀ j s, i ≤ j → j < i + k → I j s → I (j + 1) (g s j)) → I (i + k) (fold1 g i k s)
  | 0, _, _, h, _ => h
  | k + 1, i, s, h, e => by
    rw [fold1, show i + (k + 1) = i + 1 + k by omega]
    exact fold1_inv I k (i + 1) _ (e i s (by omega) (by omega) h) (fun j s h1 h2 h3 => e j s (by omega) (by omega) h3)
theorem fold2_congr {S : Type} {n : Nat} {g h : S → Nat → Nat → S} : ∀ k i s, (∀ a b s, i ≤ a → a < b → b < n → g s a b = h s a b) → fold2 n g i k s = fold2 n h i k s
  | 0, _, _, _ => rfl
  | k + 1, i, s, e => by
    rw [fold2, fold2, fold1_congr (n - (i + 1)) (i + 1) s (fun b s h1 h2 => e i b s (Nat.le_refl i) (by omega) (by omega))]
    exact fold2_congr k (i + 1) _ (fun a b s h1 h2 h3 => e a b s (by omega) h2 h3)
theorem fold2_inv {S : Type} {n : Nat} {g : S → Nat → Nat → S} (I : S → Prop) : ∀ k i s, I s → (∀ a b s, i ≤ a → a < b → b < n → I s → I (g s a b)) → I (fold2 n g i k s)
  | 0, _, _, h, _ => h
  | k + 1, i, s, h, e => by
    rw [fold2]
    refine fold2_inv I k (i + 1) _ (fold1_inv (fun _ s => I s) _ _ s h (fun j s h1 h2 h3 => e i j s (Nat.le_refl i) (by omega) (by omega) h3)) (fun a b s h1 h2 h3 h4 => e a b s (by omega) h2 h3 h4)
theorem forF_congr {S X : Type} {g h : S → Nat → S ⊕ X} : ∀ k i s, (∀ j s, i ≤ j → j < i + k → g s j = h s j) → forF g i k s = forF h i k s
  | 0, _, _, _ => rfl
  | k + 1, i, s, e => by
    rw [forF, forF, e i s (by omega) (by omega)]
    cases h s i with
    | inl s' => exact forF_congr k (i + 1) _ (fun j s h1 h2 => e j s (by omega) (by omega))
    | inr x => rfl
theorem forF2_congr {S X : Type} {n : Nat} {g h : S → Nat → Nat → S ⊕ X} : ∀ k i s, (∀ a b s, i ≤ a → a < b → b < n → g s a b = h s a b) → forF2 n g i k s = forF2 n h i k s
  | 0, _, _, _ => rfl
  | k + 1, i, s, e => by
    rw [forF2, forF2, forF_congr (n - (i + 1)) (i + 1) s (fun b s h1 h2 => e i b s (Nat.le_refl i) (by omega) (by omega))]
    cases forF (fun s b => h s i b) (i + 1) (n - (i + 1)) s with
    | inl s' => exact forF2_congr k (i + 1) _ (fun a b s h1 h2 h3 => e a b s (by omega) h2 h3)
    | inr x => rfl
/-- a loop that only goes on -/
theorem loop1 {S T β : Type} {n : Nat} {g : S → Nat → S} (R : Nat → S → T → Prop) (L : Nat → T → Nat → Option β) (K : T → Option β)
    (h1 : ∀ F s t, R n s t → L (F + 1) t n = K t) (h2 : ∀ F s t i, i < n → R i s t → ∃ t', R (i + 1) (g s i) t' ∧ L (F + 1) t i = L F t' (i + 1)) :
    ∀ k i s t F, i + k = n → k < F → R i s t → ∃ t', R n (fold1 g i k s) t' ∧ L F t i = K t' := by
  intro k
  induction k with
  | zero =>
    intro i s t F hi hF hR
    obtain ⟨F, rfl⟩ : ∃ m, F = m + 1 := ⟨F - 1, by omega⟩
    obtain rfl : i = n := by omega
    exact ⟨t, hR, h1 F s t hR⟩
  | succ k ih =>
    intro i s t F hi hF hR
    obtain ⟨F, rfl⟩ : ∃ m, F = m + 1 := ⟨F - 1, by omega⟩
    obtain ⟨t', h3, h4⟩ := h2 F s t i (by omega) hR
    rw [h4, fold1]
    exact ih (i + 1) (g s i) t' F (by omega) (by omega) h3
/-- a loop with a way out -/
theorem loop1x {S X T β : Type} {n : Nat} {f : S → Nat → S ⊕ X} (R : Nat → S → T → Prop) (E : X → Option β → Prop) (L : Nat → T → Nat → Option β) (K : T → Option β)
    (h1 : ∀ F s t, R n s t → L (F + 1) t n = K t)
    (h2 : ∀ F s t i, i < n → R i s t → (∃ s' t', f s i = .inl s' ∧ R (i + 1) s' t' ∧ L (F + 1) t i = L F t' (i + 1)) ∨ (∃ x, f s i = .inr x ∧ E x (L (F + 1) t i))) :
    ∀ k i s t F, i + k = n → k < F → R i s t → (∃ s' t', forF f i k s = .inl s' ∧ R n s' t' ∧ L F t i = K t') ∨ (∃ x, forF f i k s = .inr x ∧ E x (L F t i)) := by
  intro k
  induction k with
  | zero =>
    intro i s t F hi hF hR
    obtain ⟨F, rfl⟩ : ∃ m, F = m + 1 := ⟨F - 1, by omega⟩
    obtain rfl : i = n := by omega
    exact Or.inl ⟨s, t, rfl, hR, h1 F s t hR⟩
  | succ k ih =>
    intro i s t F hi hF hR
    obtain ⟨F, rfl⟩ : ∃ m, F = m + 1 := ⟨F - 1, by omega⟩
    rw [forF]
    rcases h2 F s t i (by omega) hR with ⟨s', t', h3, h4, h5⟩ | ⟨x, h3, h4⟩
    · rw [h3, h5]
      exact ih (i + 1) s' t' F (by omega) (by omega) h4
    · rw [h3]
      exact Or.inr ⟨x, rfl, h4⟩
/-- two counts -/
theorem loop2 {S T β : Type} {n : Nat} {g : S → Nat → Nat → S} (R : S → T → Prop) (O : Nat → T → Nat → Option β) (I : Nat → Nat → T → Nat → Nat → Option β) (K : T → Option β)
    (hn : n < FU)
    (h1 : ∀ F s t, R s t → O (F + 1) t n = K t) (h2 : ∀ F s t a, a < n → R s t → O (F + 1) t a = I F FU t a (a + 1))
    (h3 : ∀ F G s t a, a < n → R s t → I F (G + 1) t a n = O F t (a + 1))
    (h4 : ∀ F G s t a b, a < b → b < n → R s t → ∃ t', R (g s a b) t' ∧ I F (G + 1) t a b = I F G t' a (b + 1)) :
    ∀ k a s t F, a + k = n → k < F → R s t → ∃ t', R (fold2 n g a k s) t' ∧ O F t a = K t' := by
  intro k
  induction k with
  | zero =>
    intro a s t F hi hF hR
    obtain ⟨F, rfl⟩ : ∃ m, F = m + 1 := ⟨F - 1, by omega⟩
    obtain rfl : a = n := by omega
    exact ⟨t, hR, h1 F s t hR⟩
  | succ k ih =>
    intro a s t F hi hF hR
    obtain ⟨F, rfl⟩ : ∃ m, F = m + 1 := ⟨F - 1, by omega⟩
    rw [h2 F s t a (by omega) hR, fold2]
    obtain ⟨t', ⟨-, h5⟩, h6⟩ := loop1 (n := n) (g := fun s b => g s a b) (fun b s t => a < b ∧ R s t) (fun G t b => I F G t a b) (fun t => O F t (a + 1)) (fun G s t hR => h3 F G s t a (by omega) hR.2)
      (fun G s t b hb hR => by
        obtain ⟨t', h7, h8⟩ := h4 F G s t a b hR.1 hb hR.2
        exact ⟨t', ⟨by omega, h7⟩, h8⟩) (n - (a + 1)) (a + 1) s t FU (by omega) (by omega) ⟨by omega, hR⟩
    rw [h6]
    exact ih (a + 1) _ t' F (by omega) (by omega) h5
theorem loop2x {S X T β : Type} {n : Nat} {f : S → Nat → Nat → S ⊕ X} (R : S → T → Prop) (E : X → Option β → Prop) (O : Nat → T → Nat → Option β) (I : Nat → Nat → T → Nat → Nat → Option β) (K : T → Option β)
    (hn : n < FU)
    (h1 : ∀ F s t, R s t → O (F + 1) t n = K t) (h2 : ∀ F s t a, a < n → R s t → O (F + 1) t a = I F FU t a (a + 1))
    (h3 : ∀ F G s t a, a < n → R s t → I F (G + 1) t a n = O F t (a + 1))
    (h4 : ∀ F G s t a b, a < b → b < n → R s t → (∃ s' t', f s a b = .inl s' ∧ R s' t' ∧ I F (G + 1) t a b = I F G t' a (b + 1)) ∨ (∃ x, f s a b = .inr x ∧ E x (I F (G + 1) t a b))) :
    ∀ k a s t F, a + k = n → k < F → R s t → (∃ s' t', forF2 n f a k s = .inl s' ∧ R s' t' ∧ O F t a = K t') ∨ (∃ x, forF2 n f a k s = .inr x ∧ E x (O F t a)) := by
  intro k
  induction k with
  | zero =>
    intro a s t F hi hF hR
    obtain ⟨F, rfl⟩ : ∃ m, F = m + 1 := ⟨F - 1, by omega⟩
    obtain rfl : a = n := by omega
    exact Or.inl ⟨s, t, rfl, hR, h1 F s t hR⟩
  | succ k ih =>
    intro a s t F hi hF hR
    obtain ⟨F, rfl⟩ : ∃ m, F = m + 1 := ⟨F - 1, by omega⟩
    rw [h2 F s t a (by omega) hR, forF2]
    rcases loop1x (n := n) (f := fun s b => f s a b) (fun b s t => a < b ∧ R s t) E (fun G t b => I F G t a b) (fun t => O F t (a + 1)) (fun G s t hR => h3 F G s t a (by omega) hR.2)
      (fun G s t b hb hR => by
        rcases h4 F G s t a b hR.1 hb hR.2 with ⟨s', t', h7, h8, h9⟩ | h7
        · exact Or.inl ⟨s', t', h7, ⟨by omega, h8⟩, h9⟩
        · exact Or.inr h7) (n - (a + 1)) (a + 1) s t FU (by omega) (by omega) ⟨by omega, hR⟩ with ⟨s', t', h5, ⟨-, h6⟩, h7⟩ | ⟨x, h5, h6⟩
    · rw [h5, h7]
      exact ih (a + 1) s' t' F (by omega) (by omega) h6
    · rw [h5]
      exact Or.inr ⟨x, rfl, h6⟩
/-- counting over pairs, along a rising list of those that count -/
theorem fold_list {S : Type} {m n : Nat} {P : Nat → Nat} {t : Nat → Nat → Bool} (g : S → Nat → Nat → S) (hn : n ≤ 12)
    (h1 : ∀ i, i < m → P i / 20 < P i % 20 ∧ P i % 20 < n ∧ t (P i / 20) (P i % 20) = true) (h2 : ∀ i j, i < j → j < m → P i < P j) (h3 : ∀ a b, a < b → b < n → t a b = true → ∃ i, i < m ∧ P i = 20 * a + b) (s : S) :
    fold2 n (fun s a b => if t a b then g s a b else s) 0 n s = fold1 (fun s i => g s (P i / 20) (P i % 20)) 0 m s := by
  have inner : ∀ a, a < n → ∀ k b s j, b + k = n → a < b → j ≤ m → (∀ i, i < m → (i < j ↔ P i < 20 * a + b)) →
      ∃ j' s', j' ≤ m ∧ (∀ i, i < m → (i < j' ↔ P i < 20 * a + n)) ∧ fold1 (fun s b => if t a b then g s a b else s) b k s = s' ∧ fold1 (fun s i => g s (P i / 20) (P i % 20)) j (m - j) s = fold1 (fun s i => g s (P i / 20) (P i % 20)) j' (m - j') s' := by
    intro a ha k
    induction k with
    | zero =>
      intro b s j hb hab hj hI
      obtain rfl : b = n := by omega
      exact ⟨j, s, hj, hI, rfl, rfl⟩
    | succ k ih =>
      intro b s j hb hab hj hI
      rw [fold1]
      cases ht : t a b with
      | true =>
        obtain ⟨i, hi, e⟩ := h3 a b hab (by omega) ht
        have hij : i = j := by
          have q2 : ¬ i < j := fun h => by have := (hI i hi).mp h; omega
          by_cases q3 : i = j
          · exact q3
          · have q4 := h2 j i (by omega) hi
            have q5 := (hI j (by omega)).mpr (by omega)
            omega
        subst hij
        obtain ⟨j', s', g1, g2, g3, g4⟩ := ih (b + 1) (g s a b) (i + 1) (by omega) (by omega) (by omega) (fun l hl => by
          have q1 := hI l hl
          by_cases q : l = i
          · subst q; constructor <;> intro <;> omega
          · by_cases q2 : l < i
            · have := q1.mp q2; constructor <;> intro <;> omega
            · have := h2 i l (by omega) hl; constructor <;> intro <;> omega)
        refine ⟨j', s', g1, g2, g3, ?_⟩
        rw [show m - i = (m - (i + 1)) + 1 by omega, fold1, show P i / 20 = a by omega, show P i % 20 = b by omega]
        exact g4
      | false =>
        obtain ⟨j', s', g1, g2, g3, g4⟩ := ih (b + 1) s j (by omega) (by omega) hj (fun l hl => by
          have q1 := hI l hl
          have q2 : P l ≠ 20 * a + b := fun e => by
            have := (h1 l hl).2.2
            rw [show P l / 20 = a by omega, show P l % 20 = b by omega, ht] at this
            exact absurd this (by decide)
          constructor
          · intro h; have := q1.mp h; omega
          · intro h; exact q1.mpr (by omega))
        exact ⟨j', s', g1, g2, g3, g4⟩
  have outer : ∀ k a s j, a + k = n → j ≤ m → (∀ i, i < m → (i < j ↔ P i < 20 * a + (a + 1))) →
      fold2 n (fun s a b => if t a b then g s a b else s) a k s = fold1 (fun s i => g s (P i / 20) (P i % 20)) j (m - j) s := by
    intro k
    induction k with
    | zero =>
      intro a s j ha hj hI
      have : j = m := by
        by_cases q : j = m
        · exact q
        · have q1 := h1 j (by omega)
          have q2 := (hI j (by omega)).mpr (by omega)
          omega
      subst this
      rw [Nat.sub_self]; rfl
    | succ k ih =>
      intro a s j ha hj hI
      obtain ⟨j', s', g1, g2, g3, g4⟩ := inner a (by omega) (n - (a + 1)) (a + 1) s j (by omega) (by omega) hj hI
      rw [fold2, g3, g4]
      refine ih (a + 1) s' j' (by omega) g1 (fun i hi => ?_)
      have q1 := g2 i hi
      have q2 := h1 i hi
      constructor
      · intro h; have := q1.mp h; omega
      · intro h; exact q1.mpr (by omega)
  have := outer n 0 s 0 (by omega) (Nat.zero_le m) (fun i hi => by have := h1 i hi; constructor <;> intro <;> omega)
  rw [this, Nat.sub_zero]
