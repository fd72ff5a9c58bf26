/-! plain facts for the pure part -/
theorem FU_big {n : Nat} (h : n < 1000000000000) : n < FU := by unfold FU; omega
theorem FU_ne : FU ≠ 0 := by unfold FU; omega
theorem bnd_eq {α β : Type} (x : α) (k : α → Option β) : bnd x k = k x := rfl
theorem jn_eq {α β : Type} (k : α) (b : α → Option β) : jn k b = b k := rfl
theorem rdI_nI {β : Type} {n j : Nat} {f : Nat → Int32} {k : Int32 → Option β} (h : j < n) (hn : n < 2 ^ 31) : rdI n f (nI j) k = k (f j) := by
  unfold rdI
  rw [if_neg (nI_in h hn), nI_clamp (by omega)]
theorem rdL_nI {β : Type} {n j : Nat} {f : Nat → Int64} {k : Int64 → Option β} (h : j < n) (hn : n < 2 ^ 31) : rdL n f (nI j) k = k (f j) := by
  unfold rdL
  rw [if_neg (nI_in h hn), nI_clamp (by omega)]
theorem wrI_nI {β : Type} {n j : Nat} {f : Nat → Int32} {x : Int32} {k : (Nat → Int32) → Option β} (h : j < n) (hn : n < 2 ^ 31) : wrI n f (nI j) x k = k (upd f j x) := by
  unfold wrI
  rw [if_neg (nI_in h hn), nI_clamp (by omega)]
theorem wrL_nI {β : Type} {n j : Nat} {f : Nat → Int64} {x : Int64} {k : (Nat → Int64) → Option β} (h : j < n) (hn : n < 2 ^ 31) : wrL n f (nI j) x k = k (vp_updL f j x) := by
  unfold wrL
  rw [if_neg (nI_in h hn), nI_clamp (by omega)]
theorem ckI_nI {β : Type} {n j : Nat} {k : Option β} (h : j < n) (hn : n < 2 ^ 31) : ckI n (nI j) k = k := by
  unfold ckI
  rw [if_neg (nI_in h hn)]
theorem bd1_some {α δ : Type} (a : α) (k : α → Option δ) : bd1 (some a) k = k a := rfl
theorem bd2_some {α β δ : Type} (a : α) (b : β) (k : α → β → Option δ) : bd2 (some (a, b)) k = k a b := rfl
theorem bd3_some {α β γ δ : Type} (a : α) (b : β) (c : γ) (k : α → β → γ → Option δ) : bd3 (some (a, b, c)) k = k a b c := rfl
theorem bd4_some {α β γ ε δ : Type} (a : α) (b : β) (c : γ) (d : ε) (k : α → β → γ → ε → Option δ) : bd4 (some (a, b, c, d)) k = k a b c d := rfl
/-- numbers as numerals -/
theorem n0 : (0 : Int32) = nI 0 := rfl
theorem n1 : (1 : Int32) = nI 1 := rfl
theorem lt_nI {a b : Nat} (ha : a < 2 ^ 31) (hb : b < 2 ^ 31) : (nI a < nI b) = (a < b) := propext (nI_ltI ha hb)
theorem le_nI {a b : Nat} (ha : a < 2 ^ 31) (hb : b < 2 ^ 31) : (nI a ≤ nI b) = (a ≤ b) := propext (nI_leI ha hb)
theorem eq_nI {a b : Nat} (ha : a < 2 ^ 31) (hb : b < 2 ^ 31) : (nI a = nI b) = (a = b) := propext (nI_eq ha hb)
/-- a Bool as the machine has it -/
def bI (b : Bool) : Int32 := if b then 1 else 0
theorem bI_t : bI true = 1 := rfl
theorem bI_f : bI false = 0 := rfl
theorem bI_0 (b : Bool) : (bI b = 0) = (b = false) := by cases b <;> simp [bI]
theorem bI_1 (b : Bool) : (bI b = 1) = (b = true) := by cases b <;> simp [bI]
theorem nI_inc (i : Nat) : nI i + 1 = nI (i + 1) := nI_1 i
/-- pairs as numbers -/
theorem les_nI {p : Nat} (h : p < 2 ^ 31) : fX7_lesser (nI p) = some (nI (p / 20)) := by
  unfold fX7_lesser
  rw [show (20 : Int32) = nI 20 from rfl, pk_div h (by decide) (by decide)]
theorem gre_nI {p : Nat} (h : p < 2 ^ 31) : fX7_greater (nI p) = some (nI (p % 20)) := by
  unfold fX7_greater
  rw [show (20 : Int32) = nI 20 from rfl, pk_rem h (by decide) (by decide)]
def crossN (a b c d : Nat) : Bool := (decide (a ≠ c) && decide (a ≠ d) && decide (b ≠ c) && decide (b ≠ d)) && (decide (a < c ∧ c < b) != decide (a < d ∧ d < b))
theorem crossN_swap (a b c d : Nat) : crossN a b c d = crossN a b d c := by
  unfold crossN
  by_cases h1 : a = c <;> by_cases h2 : a = d <;> by_cases h3 : b = c <;> by_cases h4 : b = d <;> simp [h1, h2, h3, h4, bne_comm]
theorem betw {β : Type} (a b c : Nat) (k : Int32 → β) : (if c ≤ a then k 0 else if b ≤ c then k 0 else k 1) = k (bI (decide (a < c ∧ c < b))) := by
  by_cases h1 : c ≤ a
  · rw [if_pos h1, decide_eq_false (by omega)]; rfl
  · by_cases h2 : b ≤ c
    · rw [if_neg h1, if_pos h2, decide_eq_false (by omega)]; rfl
    · rw [if_neg h1, if_neg h2, decide_eq_true (by omega)]; rfl
theorem jn1 {α β : Type} {c : Prop} [Decidable c] (k : α → Option β) (x y : α) : jn k (fun j => if c then j x else j y) = k (if c then x else y) := by
  unfold jn; split <;> rfl
theorem jn2 {α β : Type} {c d : Prop} [Decidable c] [Decidable d] (k : α → Option β) (x y z : α) : jn k (fun j => if c then j x else if d then j y else j z) = k (if c then x else if d then y else z) := by
  unfold jn; split
  · rfl
  · split <;> rfl
theorem jn4 {α β : Type} {c d e f : Prop} [Decidable c] [Decidable d] [Decidable e] [Decidable f] (k : α → Option β) (x y z u v : α) : jn k (fun j => if c then j x else if d then j y else if e then j z else if f then j u else j v) = k (if c then x else if d then y else if e then z else if f then u else v) := by
  unfold jn
  split
  · rfl
  · split
    · rfl
    · split
      · rfl
      · split <;> rfl
theorem betwI (a b c : Nat) : (if c ≤ a then (0 : Int32) else if b ≤ c then 0 else 1) = bI (decide (a < c ∧ c < b)) := betw a b c (fun x => x)
theorem cross_nI {p q : Nat} (hp : p < 2 ^ 31) (hq : q < 2 ^ 31) : fX7_crossing (nI p) (nI q) = some (bI (crossN (p / 20) (p % 20) (q / 20) (q % 20))) := by
  unfold fX7_crossing
  rw [les_nI hp, gre_nI hp, les_nI hq, gre_nI hq]
  simp only [bd1_some, jn4, jn2]
  generalize ea : p / 20 = a
  generalize eb : p % 20 = b
  generalize ec : q / 20 = c
  generalize ed : q % 20 = d
  have ha : a < 2 ^ 31 := by omega
  have hb : b < 2 ^ 31 := by omega
  have hc : c < 2 ^ 31 := by omega
  have hd : d < 2 ^ 31 := by omega
  simp only [eq_nI ha hc, eq_nI ha hd, eq_nI hb hc, eq_nI hb hd, le_nI hd ha, le_nI hb hd, le_nI hc ha, le_nI hb hc, betwI]
  unfold crossN
  generalize decide (a < c ∧ c < b) = x
  generalize decide (a < d ∧ d < b) = y
  by_cases h1 : a = c
  · simp [h1, bI]
  · by_cases h2 : a = d
    · simp [h1, h2, bI]
    · by_cases h3 : b = c
      · simp [h1, h2, h3, bI]
      · by_cases h4 : b = d
        · simp [h1, h2, h3, h4, bI]
        · simp only [h1, h2, h3, h4, if_false]
          cases x <;> cases y <;> simp [bI, h1, h2, h3, h4]
/-- which numbers are windows, pairs -/
def winZ (n : Nat) (v : Int) : Bool := decide (0 ≤ v ∧ v < n)
def pairZ (n : Nat) (v : Int) : Bool := decide (0 ≤ v ∧ v / 20 < v % 20 ∧ v % 20 < n)
theorem pairZ_nat {n p : Nat} : pairZ n (p : Int) = decide (p / 20 < p % 20 ∧ p % 20 < n) := by
  unfold pairZ
  apply decide_eq_decide.mpr
  constructor
  · rintro ⟨-, h1, h2⟩; constructor <;> omega
  · rintro ⟨h1, h2⟩; refine ⟨by omega, by omega, by omega⟩
theorem winZ_of {n : Nat} {v : Int32} (h : winZ n v.toInt = true) : ∃ w, w < n ∧ v = nI w := by
  obtain ⟨h1, h2⟩ := of_decide_eq_true h
  refine ⟨v.toInt.toNat, by omega, ?_⟩
  apply Int32.toInt_inj.mp
  rw [nI_toInt (by have := v.toInt_lt; omega)]
  omega
theorem pairZ_of {n : Nat} {v : Int32} (hn : n ≤ 12) (h : pairZ n v.toInt = true) : ∃ a b, a < b ∧ b < n ∧ v = nI (20 * a + b) := by
  obtain ⟨h1, h2, h3⟩ := of_decide_eq_true h
  refine ⟨(v.toInt / 20).toNat, (v.toInt % 20).toNat, by omega, by omega, ?_⟩
  apply Int32.toInt_inj.mp
  rw [nI_toInt (by omega)]
  omega
theorem hasW_eq {n : Nat} (hn : n ≤ 12) (v : Int32) : fX1_hasWindow (nI n) v = some (bI (winZ n v.toInt)) := by
  unfold fX1_hasWindow
  have e0 : (0 : Int32).toInt = 0 := rfl
  simp only [Int32.lt_iff_toInt_lt, Int32.le_iff_toInt_le, nI_toInt (show n < 2 ^ 31 by omega), e0]
  unfold winZ bI
  by_cases h1 : v.toInt < 0
  · rw [if_pos h1, if_neg (by simp; omega)]
  · by_cases h2 : (n : Int) ≤ v.toInt
    · rw [if_neg h1, if_pos h2, if_neg (by simp; omega)]
    · rw [if_neg h1, if_neg h2, if_pos (by simp; omega)]
theorem bI_0' (b : Bool) {α : Type} (x y : α) : (if bI b = 0 then x else y) = if b then y else x := by cases b <;> simp [bI]
theorem bit_nI {x k : Nat} (hx : x < 2 ^ 30) (hk : k < 31) : ((nI x >>> (nI k &&& 31)) &&& 1 = (1 : Int32)) = (x.testBit k = true) := by
  have e1 : nI k &&& 31 = nI k := by
    rw [show (31 : Int32) = nI (2 ^ 5 - 1) from rfl, fa_mask, Nat.mod_eq_of_lt (by omega)]
  have e2 : ((nI k).toBitVec.smod 32).toNat = k := by
    have : ∀ j, j < 31 → ((nI j).toBitVec.smod 32).toNat = j := by decide +kernel
    exact this k hk
  rw [e1, pk_shrN (by omega) _ k e2, show (1 : Int32) = nI (2 ^ 1 - 1) from rfl, fa_mask]
  apply propext
  rw [nI_eq (by omega) (by decide), Nat.testBit_eq_decide_div_mod_eq]
  simp
theorem bit0_nI {x k : Nat} (hx : x < 2 ^ 30) (hk : k < 31) {α : Type} (u v : α) : (if (nI x >>> (nI k &&& 31)) &&& 1 = (0 : Int32) then u else v) = if x.testBit k then v else u := by
  have e1 : nI k &&& 31 = nI k := by
    rw [show (31 : Int32) = nI (2 ^ 5 - 1) from rfl, fa_mask, Nat.mod_eq_of_lt (by omega)]
  have e2 : ((nI k).toBitVec.smod 32).toNat = k := by
    have : ∀ j, j < 31 → ((nI j).toBitVec.smod 32).toNat = j := by decide +kernel
    exact this k hk
  rw [e1, pk_shrN (by omega) _ k e2, show (1 : Int32) = nI (2 ^ 1 - 1) from rfl, fa_mask, Nat.testBit_eq_decide_div_mod_eq]
  by_cases h : x / 2 ^ k % 2 = 1
  · rw [if_neg (by rw [n0, eq_nI (by omega) (by decide)]; omega), if_pos (by simp [h])]
  · rw [if_pos (by rw [n0, eq_nI (by omega) (by decide)]; omega), if_neg (by simp [h])]
