/-! courts as rows of numbers -/
def MB (A : Nat → Int32) (o : Nat) (B : Nat → Nat) : Prop := ∀ j, j < 186 → A (o + j) = nI (B j)
def anyF (p : Nat → Bool) : Nat → Nat → Bool
  | _, 0 => false
  | i, k + 1 => p i || anyF p (i + 1) k
theorem anyF_iff (p : Nat → Bool) : ∀ k i, anyF p i k = true ↔ ∃ j, i ≤ j ∧ j < i + k ∧ p j = true
  | 0, i => ⟨fun h => by simp [anyF] at h, fun ⟨j, h1, h2, _⟩ => absurd h2 (by omega)⟩
  | k + 1, i => by
    rw [anyF, Bool.or_eq_true, anyF_iff p k (i + 1)]
    constructor
    · rintro (h | ⟨j, h1, h2, h3⟩)
      · exact ⟨i, by omega, by omega, h⟩
      · exact ⟨j, by omega, by omega, h3⟩
    · rintro ⟨j, h1, h2, h3⟩
      by_cases e : j = i
      · subst e; exact Or.inl h3
      · exact Or.inr ⟨j, by omega, by omega, h3⟩
theorem anyF_congr {p q : Nat → Bool} : ∀ k i, (∀ j, i ≤ j → j < i + k → p j = q j) → anyF p i k = anyF q i k
  | 0, i, _ => rfl
  | k + 1, i, h => by rw [anyF, anyF, h i (by omega) (by omega), anyF_congr k (i + 1) (fun j h1 h2 => h j (by omega) (by omega))]
/-- counting from i on -/
def cntF (p : Nat → Bool) : Nat → Nat → Nat
  | _, 0 => 0
  | i, k + 1 => (if p i then 1 else 0) + cntF p (i + 1) k
theorem cntF_le (p : Nat → Bool) : ∀ k i, cntF p i k ≤ k
  | 0, _ => Nat.le_refl 0
  | k + 1, i => by have := cntF_le p k (i + 1); rw [cntF]; split <;> omega
theorem cntF_congr {p q : Nat → Bool} : ∀ k i, (∀ j, i ≤ j → j < i + k → p j = q j) → cntF p i k = cntF q i k
  | 0, i, _ => rfl
  | k + 1, i, h => by rw [cntF, cntF, h i (by omega) (by omega), cntF_congr k (i + 1) (fun j h1 h2 => h j (by omega) (by omega))]
def sumF (f : Nat → Nat) : Nat → Nat → Nat
  | _, 0 => 0
  | i, k + 1 => f i + sumF f (i + 1) k
def tied (B : Nat → Nat) (a b : Nat) : Bool := decide (0 < B (42 + 12 * a + b))
def slackN (B : Nat → Nat) (hr a b : Nat) : Bool := anyF (fun k => (B (18 + 3 * k + 2)).testBit (hr % 12) && crossN (min a b) (max a b) (B (18 + 3 * k)) (B (18 + 3 * k + 1))) 0 (B 4)
def degN (B : Nat → Nat) (w : Nat) : Nat := cntF (fun k => tied B w k) 0 12
def crossesN (B : Nat → Nat) (a b : Nat) : Bool := anyF (fun c => anyF (fun d => tied B c d && crossN (min a b) (max a b) c d) (c + 1) (B 0 - (c + 1))) 0 (B 0)
/-- why a pair may not be tied -/
def refN (B : Nat → Nat) (a b : Nat) : Nat := if tied B a b then 2 else if B (6 + a) ≤ degN B a ∨ B (6 + b) ≤ degN B b then 3 else if crossesN B a b then 4 else 0
def lenN (B : Nat → Nat) (a b : Nat) : Nat := (max a b - min a b) * (B 0 - (max a b - min a b))
def bareN (B : Nat → Nat) (a b : Nat) : Nat := lenN B a b * (10 + B 2) / 10
def lossN (B : Nat → Nat) (a b : Nat) : Nat := bareN B a b + (if tied B a b then 3 * (B (42 + 12 * a + b) - 1) else 0)
def talkN (B : Nat → Nat) (hr a b : Nat) : Bool := tied B a b && !slackN B hr a b
/-- what a court may be -/
def WF (B : Nat → Nat) : Prop :=
  B 0 ≤ 12 ∧ (B 0 = 0 ∨ 3 ≤ B 0) ∧ B 1 ≤ 9999 ∧ B 2 ≤ 20 ∧ (1 ≤ B 3 ∧ B 3 ≤ 999) ∧ B 4 ≤ 8 ∧ B 5 ≤ 900 ∧ (∀ w, w < 12 → B (6 + w) ≤ 11) ∧
  (∀ k, k < B 4 → B (18 + 3 * k) < B 0 ∧ B (18 + 3 * k + 1) < B 0 ∧ B (18 + 3 * k) ≠ B (18 + 3 * k + 1) ∧ B (18 + 3 * k + 2) ≤ 4095) ∧
  (∀ a b, a < 12 → b < 12 → B (42 + 12 * a + b) ≤ 10 ∧ B (42 + 12 * a + b) = B (42 + 12 * b + a) ∧ (0 < B (42 + 12 * a + b) → a ≠ b ∧ a < B 0 ∧ b < B 0)) ∧
  (∀ a b c d, a < b → b < B 0 → c < d → d < B 0 → tied B a b = true → tied B c d = true → crossN a b c d = false)
/-! the model's leaves -/
theorem cross8_nI {a b c d : Nat} (ha : a < 1000) (hb : b < 1000) (hc : c < 1000) (hd : d < 1000) : fX8_crosses (nI a) (nI b) (nI c) (nI d) = some (bI (crossN (min a b) (max a b) c d)) := by
  have key : ∀ x y : Nat, x < 1000 → y < 1000 → (if nI c = nI x then some (0 : Int32) else if nI c = nI y then some (0 : Int32) else if nI d = nI x then some (0 : Int32) else if nI d = nI y then some (0 : Int32) else bd1 (fX8_isBetween (nI c) (nI x) (nI y)) (fun r_9 => bd1 (fX8_isBetween (nI d) (nI x) (nI y)) (fun r_11 => if r_9 = r_11 then some (0 : Int32) else some (1 : Int32)))) = some (bI (crossN x y c d)) := by
    intro x y hx hy
    have e1 : ∀ z, z < 1000 → fX8_isBetween (nI z) (nI x) (nI y) = some (bI (decide (x < z ∧ z < y))) := by
      intro z hz
      unfold fX8_isBetween
      simp (disch := omega) only [le_nI]
      exact betw x y z some
    rw [e1 c hc, e1 d hd]
    simp (disch := omega) only [eq_nI, bd1_some]
    unfold crossN
    by_cases h1 : c = x
    · simp [h1, bI]
    · by_cases h2 : c = y
      · simp [h1, h2, bI]
      · by_cases h3 : d = x
        · simp [h1, h2, h3, bI]
        · by_cases h4 : d = y
          · simp [h1, h2, h3, h4, bI]
          · have g1 : ¬ x = c := fun e => h1 e.symm
            have g2 : ¬ y = c := fun e => h2 e.symm
            have g3 : ¬ x = d := fun e => h3 e.symm
            have g4 : ¬ y = d := fun e => h4 e.symm
            simp only [h1, h2, h3, h4, g1, g2, g3, g4, if_false]
            generalize decide (x < c ∧ c < y) = u
            generalize decide (x < d ∧ d < y) = v
            cases u <;> cases v <;> simp [bI, g1, g2, g3, g4]
  unfold fX8_crosses
  simp only [jn1]
  simp (disch := omega) only [le_nI]
  by_cases h : b ≤ a
  · simp only [h, if_true, Nat.min_eq_right h, Nat.max_eq_left h]
    exact key b a hb ha
  · have h2 : a ≤ b := by omega
    simp only [h, if_false, Nat.min_eq_left h2, Nat.max_eq_right h2]
    exact key a b ha hb
theorem lit (n : Nat) : (OfNat.ofNat n : Int32) = nI n := rfl
theorem rd_MB {β : Type} {A : Nat → Int32} {N : Nat} {B : Nat → Nat} {k : Int32 → Option β} (h : MB A 0 B) {j : Nat} (hj : j < 186) (hN : j < N) (hN2 : N < 2 ^ 31) : rdI N A (nI j) k = k (nI (B j)) := by
  rw [rdI_nI hN hN2, ← h j hj, Nat.zero_add]
theorem isTied8 {A : Nat → Int32} {B : Nat → Nat} (h : MB A 0 B) (hB : WF B) {a b : Nat} (ha : a < 12) (hb : b < 12) : fX8_isTied A (nI a) (nI b) = some (bI (tied B a b)) := by
  unfold fX8_isTied
  rw [show (42 + 12 * nI a + nI b : Int32) = nI (42 + 12 * a + b) by rw [lit 42, lit 12, pk_mul, nI_add, nI_add]]
  rw [rd_MB h (by omega) (by omega) (by decide), n0]
  have := (hB.2.2.2.2.2.2.2.2.2.1 a b ha hb).1
  simp (disch := omega) only [le_nI]
  unfold tied bI
  by_cases h0 : B (42 + 12 * a + b) ≤ 0
  · rw [if_pos h0, decide_eq_false (by omega)]; rfl
  · rw [if_neg h0, decide_eq_true (by omega)]; rfl
