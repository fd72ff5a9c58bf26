/-! lengths, losses, talks -/
theorem lenN_lt {B : Nat → Nat} {a b : Nat} (hab : a < b) : lenN B a b = (b - a) * (B 0 - (b - a)) := by
  unfold lenN
  rw [Nat.min_eq_left (Nat.le_of_lt hab), Nat.max_eq_right (Nat.le_of_lt hab)]
theorem lenN_sym (B : Nat → Nat) (a b : Nat) : lenN B a b = lenN B b a := by
  unfold lenN
  rw [Nat.min_comm a b, Nat.max_comm a b]
theorem mul_le12 {s n : Nat} (hn : n ≤ 12) (hs : s ≤ 12) : s * (n - s) ≤ 36 := by
  have : ∀ n, n ≤ 12 → ∀ s, s ≤ 12 → s * (n - s) ≤ 36 := by decide +kernel
  exact this n hn s hs
theorem lenN_le {B : Nat → Nat} (hB : WF B) {a b : Nat} (ha : a < 12) (hb : b < 12) : lenN B a b ≤ 36 := mul_le12 hB.1 (by omega)
theorem len7 {B : Nat → Nat} (hB : WF B) {a b : Nat} (hab : a < b) (hb : b < B 0) : fX1_lengthOf (nI (B 0)) (nI (20 * a + b)) = some (nI (lenN B a b)) := by
  have h12 := hB.1
  unfold fX1_lengthOf
  rw [gre_nI (by omega), les_nI (by omega), bd1_some, bd1_some, show (20 * a + b) / 20 = a by omega, show (20 * a + b) % 20 = b by omega, bnd_e, pk_sub (by omega), pk_sub (by omega), pk_mul, lenN_lt hab]
theorem bare_le {B : Nat → Nat} (hB : WF B) {a b : Nat} (ha : a < 12) (hb : b < 12) : bareN B a b ≤ 108 := by
  have h1 := lenN_le hB ha hb
  have h2 := hB.2.2.2.1
  unfold bareN
  have : lenN B a b * (10 + B 2) ≤ 36 * 30 := Nat.mul_le_mul h1 (by omega)
  omega
theorem bare7 {B : Nat → Nat} (hB : WF B) {a b : Nat} (hab : a < b) (hb : b < B 0) : fX1_bareLoss (nI (B 0)) (nI (B 2)) (nI (20 * a + b)) = some (nI (bareN B a b)) := by
  have h12 := hB.1
  have h1 := lenN_le hB (show a < 12 by omega) (show b < 12 by omega)
  have h2 := hB.2.2.2.1
  have h3 : lenN B a b * (10 + B 2) ≤ 36 * 30 := Nat.mul_le_mul h1 (by omega)
  unfold fX1_bareLoss bareN
  rw [len7 hB hab hb, bd1_some, lit 10, nI_add, pk_mul, pk_div (by omega) (by decide) (by decide)]
theorem loss_tied {B : Nat → Nat} {a b : Nat} (h : tied B a b = true) : lossN B a b = bareN B a b + 3 * (B (42 + 12 * a + b) - 1) := by
  unfold lossN; rw [h]; rfl
theorem lossAt7 {m : Nat} {P : Nat → Nat} {pairs knots : Nat → Int32} {B : Nat → Nat} (h : CL m P pairs knots B) (hB : WF B) {i : Nat} (hi : i < m) : fX1_lossAt (nI (B 0)) (nI (B 2)) pairs knots (nI i) = some (nI (lossN B (P i / 20) (P i % 20))) := by
  have h21 := h.1
  have h12 := hB.1
  obtain ⟨g1, g2, g3⟩ := h.2.1.1 i hi
  have hp := P_lt h.2.1 hB hi
  unfold fX1_lossAt
  have e : P i = 20 * (P i / 20) + P i % 20 := by omega
  have hb := bare7 hB g1 g2
  rw [← e] at hb
  rw [rdI_nI (by omega) (by decide), (h.2.2 i hi).1, hb, bd1_some, rdI_nI (by omega) (by decide), (h.2.2 i hi).2, lit 3, pk_mul, nI_add, loss_tied g3]
theorem taut7 {m : Nat} {P : Nat → Nat} {cans pairs knots washPairs washHours : Nat → Int32} {B : Nat → Nat} (h : CL m P pairs knots B) (hB : WF B) (hc : ∀ w, w < B 0 → cans w = nI (B (6 + w))) (hw : CWs washPairs washHours B) {a b : Nat} (hab : a < b) (hb : b < B 0) : fX1_mayBeTaut (nI (B 0)) (nI (B 4)) (nI (B 1)) (nI m) cans washPairs washHours pairs (nI (20 * a + b)) = some (bI (decide (refN B a b = 0) && !slackN B (B 1) a b)) := by
  have h12 := hB.1
  have hh := hB.2.2.1
  have hr := refN_le B a b
  unfold fX1_mayBeTaut
  rw [why7 h hB hc, nI_toInt (by omega), whyN_pair hab hb h12, bd1_some, slack7 hw hB hb hab (by omega), bd1_some, bI_0']
  by_cases e : refN B a b = 0
  · rw [e, if_pos (show nI 0 = 0 from rfl)]
    cases slackN B (B 1) a b <;> rfl
  · rw [if_neg (by rw [n0, eq_nI (by omega) (by decide)]; exact e), decide_eq_false e]; rfl
theorem steps8 {a b : Nat} (ha : a < 1000) (hb : b < 1000) : fX8_stepsOf (nI a) (nI b) = some (nI (max a b - min a b)) := by
  unfold fX8_stepsOf
  simp (disch := omega) only [le_nI]
  by_cases h : b ≤ a
  · rw [if_pos h, pk_sub h, Nat.max_eq_left h, Nat.min_eq_right h]
  · rw [if_neg h, pk_sub (by omega), Nat.max_eq_right (by omega), Nat.min_eq_left (by omega)]
theorem len8 {A : Nat → Int32} {B : Nat → Nat} (h : MB A 0 B) (hB : WF B) {a b : Nat} (ha : a < B 0) (hb : b < B 0) : fX8_lengthOf A (nI a) (nI b) = some (nI (lenN B a b)) := by
  have h12 := hB.1
  unfold fX8_lengthOf
  rw [steps8 (by omega) (by omega), bd1_some, n0, rd_MB h (by omega) (by omega) (by decide), pk_sub (by omega), pk_mul]
  rfl
theorem knots8 {A : Nat → Int32} {B : Nat → Nat} (h : MB A 0 B) {a b : Nat} (ha : a < 12) (hb : b < 12) : fX8_knotsOf A (nI a) (nI b) = some (nI (B (42 + 12 * a + b)) - 1) := by
  unfold fX8_knotsOf
  rw [idx8, rd_MB h (by omega) (by omega) (by decide)]
theorem loss8 {A : Nat → Int32} {B : Nat → Nat} (h : MB A 0 B) (hB : WF B) {a b : Nat} (ha : a < B 0) (hb : b < B 0) : fX8_lossOf A (nI a) (nI b) = some (nI (lossN B a b)) := by
  have h12 := hB.1
  have h1 := lenN_le hB (show a < 12 by omega) (show b < 12 by omega)
  have h2 := hB.2.2.2.1
  have h3 : lenN B a b * (10 + B 2) ≤ 36 * 30 := Nat.mul_le_mul h1 (by omega)
  unfold fX8_lossOf lossN bareN
  rw [len8 h hB ha hb, bd1_some, lit 2, rd_MB h (by omega) (by omega) (by decide), isTied8 h hB (by omega) (by omega), bd1_some, bI_0', knots8 h (by omega) (by omega), bd1_some, lit 10, nI_add, pk_mul, pk_div (by omega) (by decide) (by decide)]
  cases ht : tied B a b with
  | false => rw [n0, nI_add]; rfl
  | true =>
    have : 0 < B (42 + 12 * a + b) := by unfold tied at ht; simpa using ht
    rw [n1, pk_sub (by omega), lit 3, pk_mul, nI_add]; rfl
theorem slackNow8 {A : Nat → Int32} {B : Nat → Nat} (h : MB A 0 B) (hB : WF B) {a b : Nat} (ha : a < 12) (hb : b < 12) : fX8_isSlack A (nI a) (nI b) = some (bI (slackN B (B 1) a b)) := by
  have hh := hB.2.2.1
  unfold fX8_isSlack
  rw [n1, rd_MB h (by omega) (by omega) (by decide), slack8 h hB ha hb (by omega), bd1_some, bzI_bI]
theorem talks8 {A : Nat → Int32} {B : Nat → Nat} (h : MB A 0 B) (hB : WF B) {a b hr : Nat} (ha : a < 12) (hb : b < 12) (hh : hr < 100000) : fX8_talks A (nI a) (nI b) (nI hr) = some (bI (talkN B hr a b)) := by
  unfold fX8_talks talkN
  rw [isTied8 h hB ha hb, bd1_some, bI_0', slack8 h hB ha hb hh, bd1_some, bI_0']
  cases tied B a b <;> cases slackN B hr a b <;> rfl
theorem refuses8 {A : Nat → Int32} {B : Nat → Nat} (h : MB A 0 B) (hB : WF B) (v : Int64) : fX8_refuses A v = some (nI (whyN B v.toInt)) := by
  have h12 := hB.1
  unfold fX8_refuses whyN
  rw [isPair8 h hB, bd1_some, bI_0']
  cases hv : pairZ (B 0) v.toInt with
  | false => rfl
  | true =>
    obtain ⟨g1, g2, g3⟩ := of_decide_eq_true hv
    have e : v.toInt32 = nI v.toInt.toNat := by
      apply Int32.toInt_inj.mp
      rw [nI_toInt (by omega), Int64.toInt_toInt32, Int.bmod_eq_of_le (by omega) (by omega)]
      omega
    simp only [if_true]
    rw [e, lit 20, pk_rem (by omega) (by decide) (by decide), pk_div (by omega) (by decide) (by decide), ref8 h hB (by decide) (by decide) (by omega) (by omega), bd1_some]
    congr 3 <;> omega
