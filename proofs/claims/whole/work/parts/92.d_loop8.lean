/-! the model's small loops -/
theorem bnd_e {α β : Type} (x : α) (k : α → Option β) : bnd x k = k x := rfl
theorem strAt8_loop {A : Nat → Int32} {B : Nat → Nat} {N w : Nat} (h : MB A 0 B) (hB : WF B) (hN : 186 ≤ N) (hN2 : N < 2 ^ 31) (hw : w < 12) (K : Int32 → Option Int32) : ∀ k i c n, i + k = 12 → k < n → fX8_stringsAt_4 N (nI w) A K n (nI c) (nI i) = K (nI (c + cntF (fun k => tied B w k) i k)) := by
  intro k
  induction k with
  | zero =>
    intro i c n hi hn
    obtain ⟨n, rfl⟩ : ∃ m, n = m + 1 := ⟨n - 1, by omega⟩
    rw [fX8_stringsAt_4, if_pos (by rw [lit 12, le_nI (by decide) (by omega)]; omega)]
    rfl
  | succ k ih =>
    intro i c n hi hn
    obtain ⟨n, rfl⟩ : ∃ m, n = m + 1 := ⟨n - 1, by omega⟩
    have hb := (hB.2.2.2.2.2.2.2.2.2.1 w i hw (by omega)).1
    rw [fX8_stringsAt_4, if_neg (by rw [lit 12, le_nI (by decide) (by omega)]; omega), idx8, rd_MB h (by omega) (by omega) hN2, cntF]
    by_cases h0 : B (42 + 12 * w + i) ≤ 0
    · rw [if_pos (by rw [n0, le_nI (by omega) (by omega)]; exact h0), bnd_e, n0, nI_add, nI_inc, ih _ _ _ (by omega) (by omega)]
      have : tied B w i = false := by unfold tied; exact decide_eq_false (by omega)
      rw [this]
      simp
    · rw [if_neg (by rw [n0, le_nI (by omega) (by omega)]; exact h0), bnd_e, nI_inc, nI_inc, ih _ _ _ (by omega) (by omega)]
      have : tied B w i = true := by unfold tied; exact decide_eq_true (by omega)
      rw [this]
      simp only [if_true, Nat.add_assoc]
theorem strAt8 {A : Nat → Int32} {B : Nat → Nat} {N w : Nat} (h : MB A 0 B) (hB : WF B) (hN : 186 ≤ N) (hN2 : N < 2 ^ 31) (hw : w < 12) : fX8_stringsAt N A (nI w) = some (nI (degN B w)) := by
  unfold fX8_stringsAt
  rw [n0, strAt8_loop h hB hN hN2 hw _ 12 0 0 FU rfl (FU_big (by decide)), Nat.zero_add]
  rfl
theorem deg_le (B : Nat → Nat) (w : Nat) : degN B w ≤ 12 := cntF_le _ _ _
theorem slack8_loop {A : Nat → Int32} {B : Nat → Nat} {a b hr : Nat} (h : MB A 0 B) (hB : WF B) (ha : a < 12) (hb : b < 12) (hh : hr < 100000) (K : Option Int32) : ∀ k i n, i + k = B 4 → k < n → fX8_isSlackAt_3 (nI a) (nI b) (nI hr) A K n (nI i) = if anyF (fun k => (B (18 + 3 * k + 2)).testBit (hr % 12) && crossN (min a b) (max a b) (B (18 + 3 * k)) (B (18 + 3 * k + 1))) i k then some 1 else K := by
  have h8 := hB.2.2.2.2.2.1
  have h12 := hB.1
  intro k
  induction k with
  | zero =>
    intro i n hi hn
    obtain ⟨n, rfl⟩ : ∃ m, n = m + 1 := ⟨n - 1, by omega⟩
    rw [fX8_isSlackAt_3, lit 4, rd_MB h (by omega) (by omega) (by decide), if_pos (by rw [le_nI (by omega) (by omega)]; omega)]
    rfl
  | succ k ih =>
    intro i n hi hn
    obtain ⟨n, rfl⟩ : ∃ m, n = m + 1 := ⟨n - 1, by omega⟩
    obtain ⟨g1, g2, g3, g4⟩ := hB.2.2.2.2.2.2.2.2.1 i (by omega)
    have e1 : (18 + 3 * nI i + 2 : Int32) = nI (18 + 3 * i + 2) := by rw [lit 18, lit 3, lit 2, pk_mul, nI_add, nI_add]
    have e2 : (18 + 3 * nI i + 1 : Int32) = nI (18 + 3 * i + 1) := by rw [lit 18, lit 3, lit 1, pk_mul, nI_add, nI_add]
    have e3 : (18 + 3 * nI i : Int32) = nI (18 + 3 * i) := by rw [lit 18, lit 3, pk_mul, nI_add]
    have e4 : (nI hr - nI hr / 12 * 12 : Int32) = nI (hr % 12) := by rw [lit 12, pk_rem (by omega) (by decide) (by decide)]
    rw [fX8_isSlackAt_3, lit 4, rd_MB h (by omega) (by omega) (by decide), if_neg (by rw [le_nI (by omega) (by omega)]; omega), e1, rd_MB h (by omega) (by omega) (by decide), e4, anyF]
    have hbit : ((nI (B (18 + 3 * i + 2)) >>> (nI (hr % 12) &&& 31)) &&& 1 = (1 : Int32)) = ((B (18 + 3 * i + 2)).testBit (hr % 12) = true) := bit_nI (by omega) (by omega)
    simp only [hbit]
    by_cases hx : (B (18 + 3 * i + 2)).testBit (hr % 12) = true
    · rw [if_pos hx, e2, e3, rd_MB h (by omega) (by omega) (by decide), rd_MB h (by omega) (by omega) (by decide), cross8_nI (by omega) (by omega) (by omega) (by omega), bd1_some, bI_0', nI_inc, ih _ _ (by omega) (by omega), hx]
      cases crossN (min a b) (max a b) (B (18 + 3 * i)) (B (18 + 3 * i + 1)) <;> simp
    · rw [if_neg hx, nI_inc, ih _ _ (by omega) (by omega)]
      have : (B (18 + 3 * i + 2)).testBit (hr % 12) = false := by simpa using hx
      rw [this]
      simp
theorem slack8 {A : Nat → Int32} {B : Nat → Nat} {a b hr : Nat} (h : MB A 0 B) (hB : WF B) (ha : a < 12) (hb : b < 12) (hh : hr < 100000) : fX8_isSlackAt A (nI a) (nI b) (nI hr) = some (bI (slackN B hr a b)) := by
  unfold fX8_isSlackAt
  have h8 := hB.2.2.2.2.2.1
  rw [n0, slack8_loop h hB ha hb hh _ (B 4) 0 FU (by omega) (FU_big (by omega))]
  unfold slackN bI
  split <;> rfl
theorem ref8_in {A : Nat → Int32} {B : Nat → Nat} {N a b c : Nat} (h : MB A 0 B) (hB : WF B) (hN : 186 ≤ N) (hN2 : N < 2 ^ 31) (ha : a < 12) (hb : b < 12) (hc : c < 12) (K : Option Int32) : ∀ k i n, i < 1000 → i + k = max (B 0) i → k < n → fX8_refusesIn_60 N (nI a) (nI b) (nI c) A K n (nI i) = if anyF (fun d => tied B c d && crossN (min a b) (max a b) c d) i k then some 4 else K := by
  have h12 := hB.1
  intro k
  induction k with
  | zero =>
    intro i n hs hi hn
    obtain ⟨n, rfl⟩ : ∃ m, n = m + 1 := ⟨n - 1, by omega⟩
    have hi2 : B 0 ≤ i := by omega
    rw [fX8_refusesIn_60, n0, rd_MB h (by omega) (by omega) hN2, if_pos (by rw [le_nI (by omega) (by omega)]; exact hi2)]
    rfl
  | succ k ih =>
    intro i n hs hi hn
    obtain ⟨n, rfl⟩ : ∃ m, n = m + 1 := ⟨n - 1, by omega⟩
    have hi2 : i < B 0 := by omega
    have hbb := (hB.2.2.2.2.2.2.2.2.2.1 c i hc (by omega)).1
    rw [fX8_refusesIn_60, n0, rd_MB h (by omega) (by omega) hN2, if_neg (by rw [le_nI (by omega) (by omega)]; omega), idx8, rd_MB h (by omega) (by omega) hN2, anyF]
    by_cases h0 : B (42 + 12 * c + i) ≤ 0
    · rw [if_pos (by rw [le_nI (by omega) (by omega)]; exact h0), nI_inc, ih _ _ (by omega) (by omega) (by omega)]
      have : tied B c i = false := by unfold tied; exact decide_eq_false (by omega)
      rw [this]
      simp
    · rw [if_neg (by rw [le_nI (by omega) (by omega)]; exact h0), cross8_nI (by omega) (by omega) (by omega) (by omega), bd1_some, ← n0, bI_0', nI_inc, ih _ _ (by omega) (by omega) (by omega)]
      have : tied B c i = true := by unfold tied; exact decide_eq_true (by omega)
      rw [this]
      cases crossN (min a b) (max a b) c i <;> simp
theorem ref8_out {A : Nat → Int32} {B : Nat → Nat} {N a b : Nat} (h : MB A 0 B) (hB : WF B) (hN : 186 ≤ N) (hN2 : N < 2 ^ 31) (ha : a < 12) (hb : b < 12) (K : Option Int32) : ∀ k i n, i + k = B 0 → k < n → fX8_refusesIn_48 N (nI a) (nI b) A K n (nI i) = if anyF (fun c => anyF (fun d => tied B c d && crossN (min a b) (max a b) c d) (c + 1) (B 0 - (c + 1))) i k then some 4 else K := by
  have h12 := hB.1
  intro k
  induction k with
  | zero =>
    intro i n hi hn
    obtain ⟨n, rfl⟩ : ∃ m, n = m + 1 := ⟨n - 1, by omega⟩
    rw [fX8_refusesIn_48, n0, rd_MB h (by omega) (by omega) hN2, if_pos (by rw [le_nI (by omega) (by omega)]; omega)]
    rfl
  | succ k ih =>
    intro i n hi hn
    obtain ⟨n, rfl⟩ : ∃ m, n = m + 1 := ⟨n - 1, by omega⟩
    rw [fX8_refusesIn_48, n0, rd_MB h (by omega) (by omega) hN2, if_neg (by rw [le_nI (by omega) (by omega)]; omega), bnd_e, nI_inc, ref8_in h hB hN hN2 ha hb (by omega) _ (B 0 - (i + 1)) (i + 1) FU (by omega) (by omega) (FU_big (by omega)), ih _ _ (by omega) (by omega), anyF]
    cases anyF (fun d => tied B i d && crossN (min a b) (max a b) i d) (i + 1) (B 0 - (i + 1)) <;> simp
theorem ref8 {A : Nat → Int32} {B : Nat → Nat} {N a b : Nat} (h : MB A 0 B) (hB : WF B) (hN : 186 ≤ N) (hN2 : N < 2 ^ 31) (ha : a < 12) (hb : b < 12) : fX8_refusesIn N A (nI a) (nI b) = some (nI (refN B a b)) := by
  have h12 := hB.1
  have hbb := (hB.2.2.2.2.2.2.2.2.2.1 a b ha hb).1
  have hca := hB.2.2.2.2.2.2.2.1 a ha
  have hcb := hB.2.2.2.2.2.2.2.1 b hb
  have da := deg_le B a
  have db := deg_le B b
  unfold fX8_refusesIn refN
  rw [idx8, rd_MB h (by omega) (by omega) hN2]
  by_cases h0 : B (42 + 12 * a + b) ≤ 0
  · have ht : tied B a b = false := by unfold tied; exact decide_eq_false (by omega)
    rw [if_pos (by rw [n0, le_nI (by omega) (by omega)]; exact h0), strAt8 h hB hN hN2 ha, bd1_some, show (6 + nI a : Int32) = nI (6 + a) by rw [lit 6, nI_add], rd_MB h (by omega) (by omega) hN2, ht]
    simp only [Bool.false_eq_true, if_false]
    by_cases h1 : B (6 + a) ≤ degN B a
    · rw [if_pos (by rw [le_nI (by omega) (by omega)]; exact h1), if_pos (Or.inl h1)]; rfl
    · rw [if_neg (by rw [le_nI (by omega) (by omega)]; exact h1), strAt8 h hB hN hN2 hb, bd1_some, show (6 + nI b : Int32) = nI (6 + b) by rw [lit 6, nI_add], rd_MB h (by omega) (by omega) hN2]
      by_cases h2 : degN B b < B (6 + b)
      · rw [if_pos (by rw [lt_nI (by omega) (by omega)]; exact h2), if_neg (by omega), n0, ref8_out h hB hN hN2 ha hb _ (B 0) 0 FU (by omega) (FU_big (by omega))]
        unfold crossesN
        split <;> rfl
      · rw [if_neg (by rw [lt_nI (by omega) (by omega)]; exact h2), if_pos (Or.inr (by omega))]; rfl
  · have ht : tied B a b = true := by unfold tied; exact decide_eq_true (by omega)
    rw [if_neg (by rw [n0, le_nI (by omega) (by omega)]; exact h0), ht]; rfl
