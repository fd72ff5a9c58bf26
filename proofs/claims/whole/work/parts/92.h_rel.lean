/-! the relation between the two systems -/
def CR (C : TCourt) (B : Nat → Nat) : Prop :=
  C.1 = nI (B 0) ∧ C.2.1 = nI (B 4) ∧ C.2.2.1 = nI (B 2) ∧ C.2.2.2.1 = nI (B 3) ∧ C.2.2.2.2.1 = nI (B 5) ∧ C.2.2.2.2.2.1 = nI (B 1) ∧
  (∃ (m : Nat) (P : Nat → Nat), C.2.2.2.2.2.2.1 = nI m ∧ CL m P C.2.2.2.2.2.2.2.2.2.2.1 C.2.2.2.2.2.2.2.2.2.2.2 B) ∧
  (∀ w, w < B 0 → C.2.2.2.2.2.2.2.1 w = nI (B (6 + w))) ∧ CWs C.2.2.2.2.2.2.2.2.1 C.2.2.2.2.2.2.2.2.2.1 B
def RelTape (xt : Nat → Int32) (xn : Int32) (mt : Nat → Int32) (mn : Int32) : Prop := ∃ t, t ≤ 900 ∧ xn = nI t ∧ mn = nI t ∧ ∀ j, j < t → ∃ x, x < 256 ∧ mt j = nI x ∧ xt j = (nI x).toInt8.toInt32
def RelRow (k : Nat) (s z : Int32) (v : Nat → Int64) (so ma : Int32) (nu : Nat → Int64) : Prop :=
  (z = -1 ∧ so = -1) ∨ ∃ c q, c ≤ 40 ∧ q ≤ 3 ∧ z = nI c ∧ ma = nI c ∧ s = nI q ∧ so = nI q ∧ ∀ j, j < c → v j = nu (40 * k + j)
def Rel0 : RelT := fun C xt xn xf xp rs rz rv made im all has mt mn mf mp so ma nu =>
  (∃ B, WF B ∧ MB all 0 B ∧ CR C B) ∧ RelTape xt xn mt mn ∧ (xf = mf ∧ xp = mp) ∧ (∀ k, k < 4 → RelRow k (rs k) (rz k) (rv k) (so k) (ma k) nu) ∧
  ∀ i, i < 2 → (made i = 0 ∧ has i = 0) ∨ (made i = 1 ∧ has i = 1 ∧ ∃ B, WF B ∧ MB all (186 * (i + 1)) B ∧ CR (im i) B)
/-- the images stay where only the court's own places change -/
theorem imgs_keep {made has : Nat → Int32} {im : Nat → TCourt} {all all' : Nat → Int32} (h : ∀ i, i < 2 → (made i = 0 ∧ has i = 0) ∨ (made i = 1 ∧ has i = 1 ∧ ∃ B, WF B ∧ MB all (186 * (i + 1)) B ∧ CR (im i) B)) (hk : ∀ j, 186 ≤ j → all' j = all j) : ∀ i, i < 2 → (made i = 0 ∧ has i = 0) ∨ (made i = 1 ∧ has i = 1 ∧ ∃ B, WF B ∧ MB all' (186 * (i + 1)) B ∧ CR (im i) B) := by
  intro i hi
  rcases h i hi with h | ⟨h1, h2, B, h3, h4, h5⟩
  · exact Or.inl h
  · exact Or.inr ⟨h1, h2, B, h3, fun j hj => by rw [hk _ (by omega)]; exact h4 j hj, h5⟩
theorem st_may : Step_may Rel0 := by
  intro w0 w1 w2 w3 w4 w5 w6 w7 w8 w9 w10 w11 xt xn xf xp rs rz rv made im all has mt mn mf mp so ma nu th v hR
  obtain ⟨⟨B, hB, hM, hC⟩, h2⟩ := id hR
  obtain ⟨e0, e4, e2, e3, e5, e1, ⟨m, P, em, hL⟩, hc, hw⟩ := hC
  dsimp only at e0 e4 e2 e3 e5 e1 em hL hc hw
  refine ⟨nI (whyN B v.toInt), 0, ?_, ?_, hR⟩
  · rw [e0, em]; unfold fX7_may; rw [why7 hL hB hc, bd1_some]
  · unfold fX8_may; rw [refuses8 hM hB, bd1_some, Int32.toInt_toInt64]
theorem st_fault : Step_fault Rel0 := by
  intro w0 w1 w2 w3 w4 w5 w6 w7 w8 w9 w10 w11 xt xn xf xp rs rz rv made im all has mt mn mf mp so ma nu th v hR
  obtain ⟨h1, h2, ⟨rfl, rfl⟩, h3⟩ := id hR
  unfold fX7_fault fX8_fault
  by_cases c0 : v = 0
  · exact ⟨xf, 0, by rw [if_pos c0], by rw [if_pos c0], hR⟩
  · by_cases c1 : v = 1
    · exact ⟨xp, 0, by rw [if_neg c0, if_pos c1], by rw [if_neg c0, if_pos c1], hR⟩
    · exact ⟨-1, 0, by rw [if_neg c0, if_neg c1], by rw [if_neg c0, if_neg c1], hR⟩
theorem crossBool (B : Nat → Nat) (hB : WF B) {a b c d : Nat} (hab : a < b) (hb : b < B 0) (hcd : c < d) (hd : d < B 0) : fX7_crossing (nI (20 * a + b)) (nI (20 * c + d)) = some (bI (crossN a b c d)) := by
  have h12 := hB.1
  rw [cross_pair (by omega) (by omega) (by omega), show (20 * c + d) / 20 = c by omega, show (20 * c + d) % 20 = d by omega]
theorem div20 {a b : Nat} (hb : b < 20) (h : 20 * a + b < 2 ^ 31) : nI (20 * a + b) / 20 = nI a := by
  rw [lit 20, pk_div h (by decide) (by decide), show (20 * a + b) / 20 = a by omega]
theorem rem20 {a b : Nat} (hb : b < 20) (h : 20 * a + b < 2 ^ 31) : nI (20 * a + b) - nI (20 * a + b) / 20 * 20 = nI b := by
  rw [lit 20, pk_rem h (by decide) (by decide), show (20 * a + b) % 20 = b by omega]
theorem st_cross : Step_cross Rel0 := by
  intro w0 w1 w2 w3 w4 w5 w6 w7 w8 w9 w10 w11 xt xn xf xp rs rz rv made im all has mt mn mf mp so ma nu th v u hR
  obtain ⟨⟨B, hB, hM, hC⟩, h2⟩ := id hR
  obtain ⟨e0, -⟩ := hC
  dsimp only at e0
  subst e0
  have h12 := hB.1
  unfold fX7_cross fX8_cross
  rw [hasP_eq h12, hasP_eq h12, isPair8 hM hB, isPair8 hM hB, Int32.toInt_toInt64, Int32.toInt_toInt64]
  simp only [bd1_some, bI_0']
  cases hv : pairZ (B 0) v.toInt with
  | false => exact ⟨_, _, rfl, rfl, hR⟩
  | true =>
    cases hu : pairZ (B 0) u.toInt with
    | false => exact ⟨_, _, rfl, rfl, hR⟩
    | true =>
      obtain ⟨a, b, hab, hb, rfl⟩ := pairZ_of h12 hv
      obtain ⟨c, d, hcd, hd, rfl⟩ := pairZ_of h12 hu
      simp only [if_true]
      rw [crossBool B hB hab hb hcd hd, rem20 (by omega) (by omega), rem20 (by omega) (by omega), div20 (by omega) (by omega), div20 (by omega) (by omega), cross8_nI (by omega) (by omega) (by omega) (by omega), Nat.min_eq_left (Nat.le_of_lt hab), Nat.max_eq_right (Nat.le_of_lt hab)]
      simp only [bd1_some, bI_0']
      cases crossN a b c d
      · exact ⟨_, _, rfl, rfl, hR⟩
      · exact ⟨_, _, rfl, rfl, hR⟩
