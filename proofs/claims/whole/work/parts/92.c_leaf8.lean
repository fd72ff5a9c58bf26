theorem lgc_lt (x y : Int64) : (lg_cmp x y < 0) = (x.toInt < y.toInt) := by
  have h := lg_cmp_ge x y
  rw [Int64.le_iff_toInt_le] at h
  apply propext
  rw [← Int.not_le, ← h]
  exact Int32.not_le.symm
theorem lgc_gt (x y : Int64) : (0 < lg_cmp x y) = (y.toInt < x.toInt) := by
  unfold lg_cmp
  apply propext
  simp only [gt_iff_lt, Int64.lt_iff_toInt_lt, ← Int64.toInt_inj]
  by_cases h1 : y.toInt < x.toInt
  · rw [if_pos h1]; exact ⟨fun _ => h1, fun _ => by decide⟩
  · rw [if_neg h1]
    by_cases h2 : x.toInt = y.toInt
    · rw [if_pos h2]; exact ⟨fun h => absurd h (by decide), fun h => absurd h h1⟩
    · rw [if_neg h2]; exact ⟨fun h => absurd h (by decide), fun h => absurd h h1⟩
theorem lgc_ge (x y : Int64) : (0 ≤ lg_cmp x y) = (y.toInt ≤ x.toInt) := by
  rw [propext (lg_cmp_ge x y), propext Int64.le_iff_toInt_le]
theorem within_eq (v lo hi : Int64) : fX8_within v lo hi = some (bI (decide (lo.toInt ≤ v.toInt ∧ v.toInt ≤ hi.toInt))) := by
  unfold fX8_within
  simp only [lgc_lt, lgc_gt]
  unfold bI
  by_cases h1 : v.toInt < lo.toInt
  · rw [if_pos h1, if_neg (by simp; omega)]
  · by_cases h2 : hi.toInt < v.toInt
    · rw [if_neg h1, if_pos h2, if_neg (by simp; omega)]
    · rw [if_neg h1, if_neg h2, if_pos (by simp; omega)]
theorem bzI_bI {β : Type} (b : Bool) (k : Option β) : bzI (bI b) k = k := by
  unfold bzI bI
  cases b <;> simp
theorem nIm1_L {n : Nat} (hn : n ≤ 1000) : (nI n - 1).toInt64.toInt = (n : Int) - 1 := by
  rw [Int32.toInt_toInt64]
  exact pk_sub_toInt (a := n) (b := 1) (by omega) (by omega)
theorem isWin8 {A : Nat → Int32} {B : Nat → Nat} (h : MB A 0 B) (hB : WF B) (v : Int64) : fX8_isWindow A v = some (bI (winZ (B 0) v.toInt)) := by
  unfold fX8_isWindow
  have h12 := hB.1
  rw [n0, rd_MB h (by omega) (by omega) (by decide), within_eq, bd1_some, bzI_bI, nIm1_L (by omega)]
  unfold winZ
  congr 2
  apply decide_eq_decide.mpr
  show ((0 : Int) ≤ _ ∧ _) ↔ _
  constructor <;> intro h <;> omega
theorem isPair8 {A : Nat → Int32} {B : Nat → Nat} (h : MB A 0 B) (hB : WF B) (v : Int64) : fX8_isPair A v = some (bI (pairZ (B 0) v.toInt)) := by
  unfold fX8_isPair
  have h12 := hB.1
  simp only [lgc_lt, lgc_ge]
  have e0 : (0 : Int64).toInt = 0 := rfl
  rw [e0]
  by_cases hv : v.toInt < 0
  · rw [if_pos hv]
    unfold pairZ bI
    rw [if_neg (by simp; omega)]
  · rw [if_neg hv]
    obtain ⟨p, hp, rfl⟩ := pk_lOf (x := v) (by rw [Int64.lt_iff_toInt_lt, e0]; exact hv)
    rw [show (20 : Int64) = lN 20 from rfl, pk_lRem (b := 20) hp (by decide) (by decide), pk_lDiv (b := 20) hp (by decide) (by decide), isWin8 h hB, isWin8 h hB, pk_lT hp, pk_lT (by omega), pk_lT (by omega), pairZ_nat]
    simp only [bd1_some, bI_0]
    unfold winZ bI
    by_cases h1 : p / 20 < B 0
    · by_cases h2 : p % 20 < B 0
      · by_cases h3 : p / 20 < p % 20
        · rw [if_neg (by simp; omega), if_neg (by simp; omega), if_neg (by omega), if_pos (by simp; omega)]
        · rw [if_neg (by simp; omega), if_neg (by simp; omega), if_pos (by omega), if_neg (by simp; omega)]
      · rw [if_neg (by simp; omega), if_pos (by simp; omega), if_neg (by simp; omega)]
    · rw [if_pos (by simp; omega), if_neg (by simp; omega)]
theorem hasP_eq {n : Nat} (hn : n ≤ 12) (v : Int64) : fX1_hasPair (nI n) v = some (bI (pairZ n v.toInt)) := by
  unfold fX1_hasPair
  simp only [lgc_lt]
  have e0 : (0 : Int64).toInt = 0 := rfl
  have e1 : (240 : Int64).toInt = 240 := rfl
  rw [e0, e1]
  by_cases hv : v.toInt < 0
  · rw [if_pos hv]
    unfold pairZ bI
    rw [if_neg (by simp; omega)]
  · rw [if_neg hv]
    by_cases h2 : v.toInt < 240
    · rw [if_pos h2]
      obtain ⟨p, hp, rfl⟩ := pk_lOf (x := v) (by rw [Int64.lt_iff_toInt_lt, e0]; exact hv)
      rw [pk_lT hp] at h2
      have hp2 : p < 240 := by omega
      rw [bnd_eq, lN_i, les_nI (by omega), gre_nI (by omega), pk_lT hp, pairZ_nat]
      simp only [bd1_some]
      simp (disch := omega) only [le_nI]
      unfold bI
      by_cases h3 : p % 20 ≤ p / 20
      · rw [if_pos h3, if_neg (by simp; omega)]
      · by_cases h4 : n ≤ p % 20
        · rw [if_neg h3, if_pos h4, if_neg (by simp; omega)]
        · rw [if_neg h3, if_neg h4, if_pos (by simp; omega)]
    · rw [if_neg h2]
      unfold pairZ bI
      rw [if_neg (by simp; omega)]
theorem idx8 (a b : Nat) : (42 + 12 * nI a + nI b : Int32) = nI (42 + 12 * a + b) := by rw [lit 42, lit 12, pk_mul, nI_add, nI_add]
theorem upd_MB {A : Nat → Int32} {B : Nat → Nat} (h : MB A 0 B) (k v : Nat) : MB (upd A k (nI v)) 0 (va_up B k v) := by
  intro j hj
  unfold upd va_up
  by_cases e : 0 + j = k
  · rw [if_pos e, if_pos (by omega)]
  · rw [if_neg e, if_neg (by omega)]; exact h j hj
/-- both places of a pair -/
def setB (B : Nat → Nat) (a b v : Nat) : Nat → Nat := va_up (va_up B (42 + 12 * a + b) v) (42 + 12 * b + a) v
theorem setB_at (B : Nat → Nat) {a b v c d : Nat} (ha : a < 12) (hb : b < 12) (hc : c < 12) (hd : d < 12) : setB B a b v (42 + 12 * c + d) = if (c = a ∧ d = b) ∨ (c = b ∧ d = a) then v else B (42 + 12 * c + d) := by
  unfold setB va_up
  by_cases h1 : c = b ∧ d = a
  · rw [if_pos (by omega), if_pos (Or.inr h1)]
  · rw [if_neg (by omega)]
    by_cases h2 : c = a ∧ d = b
    · rw [if_pos (by omega), if_pos (Or.inl h2)]
    · rw [if_neg (by omega), if_neg (by omega)]
theorem setB_lo (B : Nat → Nat) {a b v j : Nat} (h : j < 42) : setB B a b v j = B j := by
  unfold setB va_up
  rw [if_neg (by omega), if_neg (by omega)]
theorem sets8 {A : Nat → Int32} {B : Nat → Nat} {N a b v : Nat} (h : MB A 0 B) (hN : 186 ≤ N) (hN2 : N < 2 ^ 31) (ha : a < 12) (hb : b < 12) : ∃ A', fX8_sets N A (nI a) (nI b) (nI v) = some A' ∧ MB A' 0 (setB B a b v) ∧ ∀ j, 186 ≤ j → A' j = A j := by
  unfold fX8_sets
  rw [idx8, idx8, wrI_nI (by omega) hN2, wrI_nI (by omega) hN2]
  refine ⟨_, rfl, upd_MB (upd_MB h _ _) _ _, fun j hj => ?_⟩
  unfold upd
  rw [if_neg (by omega), if_neg (by omega)]
