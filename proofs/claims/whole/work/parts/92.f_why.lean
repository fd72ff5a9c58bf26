/-! may a pair be tied, is it slack: the class -/
theorem cross_pair {a b q : Nat} (ha : a < 20) (hb : b < 20) (hq : q < 2 ^ 31) : fX7_crossing (nI (20 * a + b)) (nI q) = some (bI (crossN a b (q / 20) (q % 20))) := by
  rw [cross_nI (by omega) hq, show (20 * a + b) / 20 = a by omega, show (20 * a + b) % 20 = b by omega]
theorem why7_loop {m : Nat} {P : Nat → Nat} {pairs knots : Nat → Int32} {B : Nat → Nat} (h : CL m P pairs knots B) (hB : WF B) {a b : Nat} (ha : a < 20) (hb : b < 20) (K : Option Int32) : ∀ k i n, i + k = m → k < n → fX1_whyNot_65 (nI (20 * a + b)) (nI m) pairs K n (nI i) = if anyF (fun i => crossN a b (P i / 20) (P i % 20)) i k then some 4 else K := by
  have h21 := h.1
  intro k
  induction k with
  | zero =>
    intro i n hi hn
    obtain ⟨n, rfl⟩ : ∃ m, n = m + 1 := ⟨n - 1, by omega⟩
    rw [fX1_whyNot_65, if_pos (by rw [le_nI (by omega) (by omega)]; omega)]
    rfl
  | succ k ih =>
    intro i n hi hn
    obtain ⟨n, rfl⟩ : ∃ m, n = m + 1 := ⟨n - 1, by omega⟩
    have hp := P_lt h.2.1 hB (show i < m by omega)
    rw [fX1_whyNot_65, if_neg (by rw [le_nI (by omega) (by omega)]; omega), rdI_nI (by omega) (by decide), (h.2.2 i (by omega)).1, cross_pair ha hb (by omega), bd1_some, bI_0', nI_inc, ih _ _ (by omega) (by omega), anyF]
    cases crossN a b (P i / 20) (P i % 20) <;> simp
theorem cross_list {m : Nat} {P B : Nat → Nat} (h : LS0 m P B) (hB : WF B) {a b : Nat} (hab : a < b) : anyF (fun i => crossN a b (P i / 20) (P i % 20)) 0 m = crossesN B a b := by
  unfold crossesN
  rw [Nat.min_eq_left (Nat.le_of_lt hab), Nat.max_eq_right (Nat.le_of_lt hab), Bool.eq_iff_iff, anyF_iff, anyF_iff]
  constructor
  · rintro ⟨j, -, h2, h3⟩
    obtain ⟨g1, g2, g3⟩ := h.1 j (by omega)
    refine ⟨P j / 20, by omega, by omega, ?_⟩
    rw [anyF_iff]
    exact ⟨P j % 20, by omega, by omega, by rw [g3, h3]; rfl⟩
  · rintro ⟨c, -, h2, h3⟩
    rw [anyF_iff] at h3
    obtain ⟨d, h4, h5, h6⟩ := h3
    rw [Bool.and_eq_true] at h6
    obtain ⟨i, hi, e⟩ := h.2.2 c d (by omega) (by omega) h6.1
    have h12 := hB.1
    refine ⟨i, by omega, by omega, ?_⟩
    rw [show P i / 20 = c by omega, show P i % 20 = d by omega]; exact h6.2
/-- why not, of any number -/
def whyN (B : Nat → Nat) (v : Int) : Nat := if pairZ (B 0) v then refN B (v / 20).toNat (v % 20).toNat else 1
theorem whyN_pair {B : Nat → Nat} {a b : Nat} (hab : a < b) (hb : b < B 0) (h12 : B 0 ≤ 12) : whyN B ((20 * a + b : Nat) : Int) = refN B a b := by
  unfold whyN
  rw [pairZ_nat, show (20 * a + b) / 20 = a by omega, show (20 * a + b) % 20 = b by omega, if_pos (by simp; omega)]
  congr 1 <;> omega
theorem refN_le (B : Nat → Nat) (a b : Nat) : refN B a b ≤ 4 := by
  unfold refN
  split
  · omega
  · split
    · omega
    · split <;> omega
theorem why7 {m : Nat} {P : Nat → Nat} {cans pairs knots : Nat → Int32} {B : Nat → Nat} (h : CL m P pairs knots B) (hB : WF B) (hc : ∀ w, w < B 0 → cans w = nI (B (6 + w))) (v : Int32) : fX1_whyNot (nI (B 0)) (nI m) cans pairs v = some (nI (whyN B v.toInt)) := by
  have h21 := h.1
  have h12 := hB.1
  unfold fX1_whyNot
  rw [hasP_eq h12, Int32.toInt_toInt64, bd1_some, bI_0']
  cases hv : pairZ (B 0) v.toInt with
  | false => unfold whyN; rw [hv]; rfl
  | true =>
    obtain ⟨a, b, hab, hb, rfl⟩ := pairZ_of h12 hv
    have e : (nI (20 * a + b)).toInt = ((20 * a + b : Nat) : Int) := nI_toInt (by omega)
    rw [e, whyN_pair hab hb h12]
    simp only [if_true]
    have da := deg_le B a
    have db := deg_le B b
    have hca := hB.2.2.2.2.2.2.2.1 a (by omega)
    have hcb := hB.2.2.2.2.2.2.2.1 b (by omega)
    unfold refN
    rcases idx7_pair h hB hab hb with ⟨ht, j, h1, h2, h3⟩ | ⟨ht, h3⟩
    · rw [h3, bd1_some, ht, if_neg (fun e => absurd (congrArg Int32.toInt e) (by rw [nI_toInt (by omega)]; show ¬ (j : Int) = -1; omega))]
      rfl
    · rw [h3, bd1_some, ht, if_pos rfl, les_nI (by omega), gre_nI (by omega), bd1_some, bd1_some, show (20 * a + b) / 20 = a by omega, show (20 * a + b) % 20 = b by omega, strAt7 h hB (by omega), bd1_some, rdI_nI (by omega) (by decide), hc a (by omega)]
      simp only [Bool.false_eq_true, if_false]
      by_cases g1 : B (6 + a) ≤ degN B a
      · rw [if_pos (by rw [le_nI (by omega) (by omega)]; exact g1), if_pos (Or.inl g1)]; rfl
      · rw [if_neg (by rw [le_nI (by omega) (by omega)]; exact g1), strAt7 h hB (by omega), bd1_some, rdI_nI (by omega) (by decide), hc b hb]
        by_cases g2 : degN B b < B (6 + b)
        · rw [if_pos (by rw [lt_nI (by omega) (by omega)]; exact g2), if_neg (by omega), n0, why7_loop h hB (by omega) (by omega) _ m 0 FU (by omega) (FU_big (by omega)), cross_list h.2.1 hB hab]
          split <;> rfl
        · rw [if_neg (by rw [lt_nI (by omega) (by omega)]; exact g2), if_pos (Or.inr (by omega))]; rfl
/-- the washing, as the class keeps it -/
def CWs (washPairs washHours : Nat → Int32) (B : Nat → Nat) : Prop := ∀ k, k < B 4 → washPairs k = nI (20 * min (B (18 + 3 * k)) (B (18 + 3 * k + 1)) + max (B (18 + 3 * k)) (B (18 + 3 * k + 1))) ∧ washHours k = nI (B (18 + 3 * k + 2))
theorem slack7_loop {washPairs washHours : Nat → Int32} {B : Nat → Nat} (h : CWs washPairs washHours B) (hB : WF B) {a b hr : Nat} (ha : a < 12) (hb : b < 12) (hab : a < b) (hh : hr < 100000) (K : Option Int32) : ∀ k i n, i + k = B 4 → k < n → fX1_slackAt_2 (nI (20 * a + b)) (nI hr) (nI (B 4)) washPairs washHours K n (nI i) = if anyF (fun k => (B (18 + 3 * k + 2)).testBit (hr % 12) && crossN (min a b) (max a b) (B (18 + 3 * k)) (B (18 + 3 * k + 1))) i k then some 1 else K := by
  have h8 := hB.2.2.2.2.2.1
  have h12 := hB.1
  intro k
  induction k with
  | zero =>
    intro i n hi hn
    obtain ⟨n, rfl⟩ : ∃ m, n = m + 1 := ⟨n - 1, by omega⟩
    rw [fX1_slackAt_2, if_pos (by rw [le_nI (by omega) (by omega)]; omega)]
    rfl
  | succ k ih =>
    intro i n hi hn
    obtain ⟨n, rfl⟩ : ∃ m, n = m + 1 := ⟨n - 1, by omega⟩
    obtain ⟨g1, g2, g3, g4⟩ := hB.2.2.2.2.2.2.2.2.1 i (by omega)
    have e4 : (nI hr - nI hr / 12 * 12 : Int32) = nI (hr % 12) := by rw [lit 12, pk_rem (by omega) (by decide) (by decide)]
    obtain ⟨w1, w2⟩ := h i (by omega)
    rw [fX1_slackAt_2, if_neg (by rw [le_nI (by omega) (by omega)]; omega), rdI_nI (by omega) (by decide), w2, e4, jn1, rdI_nI (by omega) (by decide), w1, cross_pair (by omega) (by omega) (by omega), bd1_some, nI_inc, ih _ _ (by omega) (by omega), anyF, bit0_nI (by omega) (by omega)]
    rw [show (20 * min (B (18 + 3 * i)) (B (18 + 3 * i + 1)) + max (B (18 + 3 * i)) (B (18 + 3 * i + 1))) / 20 = min (B (18 + 3 * i)) (B (18 + 3 * i + 1)) by omega, show (20 * min (B (18 + 3 * i)) (B (18 + 3 * i + 1)) + max (B (18 + 3 * i)) (B (18 + 3 * i + 1))) % 20 = max (B (18 + 3 * i)) (B (18 + 3 * i + 1)) by omega]
    have ec : crossN a b (min (B (18 + 3 * i)) (B (18 + 3 * i + 1))) (max (B (18 + 3 * i)) (B (18 + 3 * i + 1))) = crossN (min a b) (max a b) (B (18 + 3 * i)) (B (18 + 3 * i + 1)) := by
      rw [Nat.min_eq_left (Nat.le_of_lt hab), Nat.max_eq_right (Nat.le_of_lt hab)]
      by_cases e : B (18 + 3 * i) ≤ B (18 + 3 * i + 1)
      · rw [Nat.min_eq_left e, Nat.max_eq_right e]
      · rw [Nat.min_eq_right (by omega), Nat.max_eq_left (by omega), crossN_swap]
    rw [ec]
    cases (B (18 + 3 * i + 2)).testBit (hr % 12) <;> cases crossN (min a b) (max a b) (B (18 + 3 * i)) (B (18 + 3 * i + 1)) <;> simp [bI]
theorem slack7 {washPairs washHours : Nat → Int32} {B : Nat → Nat} (h : CWs washPairs washHours B) (hB : WF B) {a b hr : Nat} (hb : b < B 0) (hab : a < b) (hh : hr < 100000) : fX1_slackAt (nI (B 4)) washPairs washHours (nI (20 * a + b)) (nI hr) = some (bI (slackN B hr a b)) := by
  unfold fX1_slackAt
  have h8 := hB.2.2.2.2.2.1
  have h12 := hB.1
  rw [n0, slack7_loop h hB (by omega) (by omega) hab hh _ (B 4) 0 FU (by omega) (FU_big (by omega))]
  unfold slackN bI
  split <;> rfl
