-- uses:
/-! words, and the model's tokens -/
def wdB (x : Nat → Nat) (i st en : Nat) : Bool := decide (en = st + lenS.getD i 0) && !anyF (fun j => !decide (nI (x (st + j)) = chS i j)) 0 (lenS.getD i 0)
def wdT (x : Nat → Nat) (n p i : Nat) : Bool := decide (kT x n p = 0) && wdB x i (stp x n p) (enT x n p)
def spK (i : Nat) : Nat := [1, 9, 14, 19, 24, 30, 37, 43].getD i 43
theorem key_facts : ∀ i, i < 7 → (4 ≤ lenS.getD i 0 ∧ lenS.getD i 0 ≤ 7 ∧ spK i + lenS.getD i 0 < 43 ∧ chS 7 (spK i + lenS.getD i 0) = 32 ∧ spK (i + 1) = spK i + lenS.getD i 0 + 1) := by decide +kernel
theorem key_chars : ∀ i, i < 7 → ∀ j, j < lenS.getD i 0 → (chS 7 (spK i + j) = chS i j ∧ ¬ chS i j = 32) := by decide +kernel
theorem isWord7 {xt mt : Nat → Int32} {x : Nat → Nat} {n p i : Nat} (hT : TP xt mt x n) (hp : p ≤ n) (hi : i < 7) : fX3_isWord xt (nI (enT x n p)) (nI (kT x n p)) (nI (stp x n p)) i = some (bI (wdT x n p i)) := by
  have h900 := hT.1
  have he := en_le (x := x) hp
  have hk5 := kT_le (x := x) (n := n) (p := p)
  obtain ⟨k1, k2, _⟩ := key_facts i hi
  unfold fX3_isWord wdT
  by_cases q0 : kT x n p = 0
  · rw [if_pos (by rw [q0]; rfl), pk_sub he.1, decide_eq_true q0, Bool.true_and]
    unfold wdB
    by_cases q : enT x n p = stp x n p + lenS.getD i 0
    · rw [if_pos (by rw [q]; congr 1; omega), decide_eq_true q, Bool.true_and]
      have loop : ∀ r j F, j + r = lenS.getD i 0 → r < F → fX3_isWord_27 xt (nI (stp x n p)) i (some 1) F (nI j) = some (bI (!anyF (fun j => !decide (nI (x (stp x n p + j)) = chS i j)) j r)) := by
        intro r
        induction r with
        | zero =>
          intro j F hj hF
          obtain ⟨F, rfl⟩ : ∃ m, F = m + 1 := ⟨F - 1, by omega⟩
          rw [fX3_isWord_27, if_pos (ile (by omega) (by omega))]; rfl
        | succ r ih =>
          intro j F hj hF
          obtain ⟨F, rfl⟩ : ∃ m, F = m + 1 := ⟨F - 1, by omega⟩
          obtain ⟨t1, t2, t3⟩ := hT.2 (stp x n p + j) (by omega)
          have hw := kd_word ((tok_in (x := x) (p := p) (j := stp x n p + j) (by omega) (by omega) (by omega) (by omega)).trans q0)
          rw [fX3_isWord_27, if_neg (inle (by omega) (by omega)), nI_add, rdI_nI (by omega) (by decide), t3, fa_byte_small (by omega), rdI_nI (by omega) (by omega), nI_inc, ih _ _ (by omega) (by omega), anyF]
          by_cases e : nI (x (stp x n p + j)) = chS i j
          · rw [if_pos e, decide_eq_true e]; rfl
          · rw [if_neg e, decide_eq_false e]; rfl
      exact loop _ 0 FU (by omega) (FU_big (by omega))
    · rw [if_neg (ine (by omega) (by omega) (by omega)), decide_eq_false q]; rfl
  · rw [if_neg (by rw [n0]; exact ine q0 (by omega) (by decide)), decide_eq_false q0]; rfl
def kyF (x : Nat → Nat) (st en : Nat) : Nat → Nat → Nat
  | 0, i => i
  | f + 1, i => if wdB x i st en then i else kyF x st en f (i + 1)
theorem kyF_le (x : Nat → Nat) (st en : Nat) : ∀ f i, kyF x st en f i ≤ i + f
  | 0, _ => Nat.le_refl _
  | f + 1, i => by
    rw [kyF]
    split
    · omega
    · have := kyF_le x st en f (i + 1); omega
theorem key_in {mt : Nat → Int32} {x : Nat → Nat} {st en i : Nat} (hi : i < 7) (hen : en ≤ 900) (ht : ∀ j, st ≤ j → j < en → mt j = nI (x j)) (K : Int32 → Option Int32) :
    ∀ r j F, j + r = lenS.getD i 0 → r < F → st ≤ 900 → (∀ j', j' < j → nI (x (st + j')) = chS i j' ∧ st + j' < en) → ∃ w, fX8_keyAt_15 (nI (spK i)) mt (nI st) (nI en) K F (nI j) = K (nI w) ∧ w ≤ lenS.getD i 0 ∧ ((w = lenS.getD i 0 ∧ st + w = en) ↔ wdB x i st en = true) := by
  obtain ⟨k1, k2, k3, k4, k5⟩ := key_facts i hi
  intro r
  induction r with
  | zero =>
    intro j F hj hF hs hm
    obtain ⟨F, rfl⟩ : ∃ m, F = m + 1 := ⟨F - 1, by omega⟩
    obtain rfl : j = lenS.getD i 0 := by omega
    refine ⟨lenS.getD i 0, ?_, Nat.le_refl _, ?_⟩
    · rw [fX8_keyAt_15, nI_add, rdI_nI (show spK i + lenS.getD i 0 < lenS.getD 7 0 from k3) (by decide), if_pos k4]
    · unfold wdB
      have hany : anyF (fun j => !decide (nI (x (st + j)) = chS i j)) 0 (lenS.getD i 0) = false := by
        cases e : anyF (fun j => !decide (nI (x (st + j)) = chS i j)) 0 (lenS.getD i 0) with
        | false => rfl
        | true =>
          rw [anyF_iff] at e
          obtain ⟨j, _, h2, h3⟩ := e
          have := (hm j (by omega)).1
          rw [decide_eq_true this] at h3
          exact absurd h3 (by decide)
      rw [hany, Bool.not_false, Bool.and_true, decide_eq_true_eq]
      exact ⟨fun h => h.2.symm, fun h => ⟨rfl, h.symm⟩⟩
  | succ r ih =>
    intro j F hj hF hs hm
    obtain ⟨F, rfl⟩ : ∃ m, F = m + 1 := ⟨F - 1, by omega⟩
    obtain ⟨c1, c2⟩ := key_chars i hi j (by omega)
    have hrd : ∀ (k : Int32 → Option Int32), rdI (lenS.getD 7 0) (chS 7) (nI (spK i + j)) k = k (chS i j) := fun k => by
      rw [rdI_nI (show spK i + j < lenS.getD 7 0 from Nat.lt_of_lt_of_le (show spK i + j < 43 by omega) (by decide)) (by decide), c1]
    rw [fX8_keyAt_15, nI_add, hrd, if_neg c2, nI_add]
    by_cases q : en ≤ st + j
    · refine ⟨j, by rw [if_pos (ile q (by omega))], by omega, ⟨fun h => by omega, fun h => ?_⟩⟩
      unfold wdB at h
      rw [Bool.and_eq_true, decide_eq_true_eq] at h
      omega
    · rw [if_neg (inle (by omega) (by omega)), rdI_nI (by omega) (by decide), ht (st + j) (by omega) (by omega), hrd]
      by_cases e : nI (x (st + j)) = chS i j
      · rw [if_pos e, nI_inc]
        refine ih (j + 1) F (by omega) (by omega) hs (fun j' hj' => ?_)
        by_cases q2 : j' = j
        · rw [q2]; exact ⟨e, by omega⟩
        · exact hm j' (by omega)
      · rw [if_neg e]
        refine ⟨j, rfl, by omega, ⟨fun h => by omega, fun h => ?_⟩⟩
        unfold wdB at h
        rw [Bool.and_eq_true] at h
        have h2 := h.2
        have : anyF (fun j => !decide (nI (x (st + j)) = chS i j)) 0 (lenS.getD i 0) = true := by
          rw [anyF_iff]; exact ⟨j, by omega, by omega, by rw [decide_eq_false e]; rfl⟩
        rw [this] at h2
        exact absurd h2 (by decide)
theorem key_skip {i : Nat} (hi : i < 7) (K : Int32 → Option Int32) : ∀ r j F, j + r = lenS.getD i 0 → r < F → fX8_keyAt_97 K F (nI (spK i + j)) = K (nI (spK i + lenS.getD i 0)) := by
  obtain ⟨k1, k2, k3, k4, k5⟩ := key_facts i hi
  intro r
  induction r with
  | zero =>
    intro j F hj hF
    obtain ⟨F, rfl⟩ : ∃ m, F = m + 1 := ⟨F - 1, by omega⟩
    obtain rfl : j = lenS.getD i 0 := by omega
    rw [fX8_keyAt_97, rdI_nI (show spK i + lenS.getD i 0 < lenS.getD 7 0 from k3) (by decide), if_pos k4]
  | succ r ih =>
    intro j F hj hF
    obtain ⟨F, rfl⟩ : ∃ m, F = m + 1 := ⟨F - 1, by omega⟩
    obtain ⟨c1, c2⟩ := key_chars i hi j (by omega)
    rw [fX8_keyAt_97, rdI_nI (show spK i + j < lenS.getD 7 0 from Nat.lt_of_lt_of_le (show spK i + j < 43 by omega) (by decide)) (by decide), c1, if_neg c2, nI_inc, Nat.add_assoc]
    exact ih (j + 1) F (by omega) (by omega)
theorem keyAt8 {mt : Nat → Int32} {x : Nat → Nat} {st en : Nat} (hst : st ≤ 900) (hen : en ≤ 900) (ht : ∀ j, st ≤ j → j < en → mt j = nI (x j)) : fX8_keyAt mt (nI st) (nI en) = some (nI (kyF x st en 7 0)) := by
  have loop : ∀ f i F, i + f = 7 → f < F → fX8_keyAt_4 mt (nI st) (nI en) (some 7) F (nI i) (nI (spK i)) = some (nI (kyF x st en f i)) := by
    intro f
    induction f with
    | zero =>
      intro i F hi hF
      obtain ⟨F, rfl⟩ : ∃ m, F = m + 1 := ⟨F - 1, by omega⟩
      obtain rfl : i = 7 := by omega
      rw [fX8_keyAt_4, if_pos (by decide)]; rfl
    | succ f ih =>
      intro i F hi hF
      obtain ⟨F, rfl⟩ : ∃ m, F = m + 1 := ⟨F - 1, by omega⟩
      obtain ⟨k1, k2, k3, k4, k5⟩ := key_facts i (by omega)
      obtain ⟨w, g1, g2, g3⟩ := key_in (x := x) (show i < 7 by omega) hen ht (fun (w_11 : Int32) => rdI (lenS.getD 7 0) (chS 7) (nI (spK i) + w_11) (fun x_13 => jn (β := Int32) (fX8_keyAt_97 (fun (w_18 : Int32) => fX8_keyAt_4 mt (nI st) (nI en) (some 7) F (nI i + 1) (w_18 + 1)) FU (nI (spK i))) (fun k_14 => if x_13 = 32 then if (nI st + w_11) = nI en then some (nI i) else k_14 else k_14))) (lenS.getD i 0) 0 FU (by omega) (FU_big (by omega)) hst (fun j hj => absurd hj (by omega))
      replace g1 : fX8_keyAt_15 (nI (spK i)) mt (nI st) (nI en) (fun (w_11 : Int32) => rdI (lenS.getD 7 0) (chS 7) (nI (spK i) + w_11) (fun x_13 => jn (β := Int32) (fX8_keyAt_97 (fun (w_18 : Int32) => fX8_keyAt_4 mt (nI st) (nI en) (some 7) F (nI i + 1) (w_18 + 1)) FU (nI (spK i))) (fun k_14 => if x_13 = 32 then if (nI st + w_11) = nI en then some (nI i) else k_14 else k_14))) FU 0 = _ := g1
      have hskip := key_skip (show i < 7 by omega) (fun (w_18 : Int32) => fX8_keyAt_4 mt (nI st) (nI en) (some 7) F (nI i + 1) (w_18 + 1)) (lenS.getD i 0) 0 FU (by omega) (FU_big (by omega))
      rw [Nat.add_zero] at hskip
      rw [fX8_keyAt_4, if_neg (inle (show spK i < lenS.getD 7 0 from Nat.lt_of_lt_of_le (show spK i < 43 by omega) (by decide)) (by decide)), g1, nI_add, rdI_nI (show spK i + w < lenS.getD 7 0 from Nat.lt_of_lt_of_le (show spK i + w < 43 by omega) (by decide)) (by decide), jn_eq, hskip, nI_inc, nI_inc, ← k5, ih _ _ (by omega) (by omega), nI_add, kyF]
      by_cases q : w = lenS.getD i 0
      · rw [q, if_pos k4]
        by_cases q2 : st + lenS.getD i 0 = en
        · rw [if_pos (by rw [q2]), if_pos (g3.mp ⟨q, by rw [q]; exact q2⟩)]
        · rw [if_neg (ine q2 (by omega) (by omega)), if_neg (fun h => q2 (by have := (g3.mpr h).2; rw [q] at this; exact this))]
      · obtain ⟨c1, c2⟩ := key_chars i (by omega) w (by omega)
        rw [c1, if_neg c2, if_neg (fun h => q (g3.mpr h).1)]
  unfold fX8_keyAt
  exact loop 7 0 FU (by omega) (FU_big (by omega))
def en8 (x : Nat → Nat) (n p : Nat) : Nat := if kT x n p = 4 then stp x n p + 1 else enT x n p
def mkT (x : Nat → Nat) (n p : Nat) : Nat := if kT x n p = 5 then 10 else if badT x n p then 11 else if kT x n p = 0 then kyF x (stp x n p) (enT x n p) 7 0 else if kT x n p = 1 then 8 else 9
theorem see8 {xt mt : Nat → Int32} {x : Nat → Nat} {n q : Nat} (hT : TP xt mt x n) (hq : q ≤ 1000) : fX8_see mt (nI n) (nI q) = some (if n ≤ q then -1 else nI (x q)) := by
  have h900 := hT.1
  unfold fX8_see
  by_cases h : n ≤ q
  · rw [if_pos (ile h (by omega)), if_pos h]
  · rw [if_neg (inle (by omega) (by omega)), if_neg h, rdI_nI (by omega) (by decide), (hT.2 q (by omega)).2.1]
theorem blank8 {xt mt : Nat → Int32} {x : Nat → Nat} {n : Nat} (hT : TP xt mt x n) (K : Int32 → Option (Int32 × Int32 × Int32 × Int32)) : ∀ f q F, q + f = n → f < F → fX8_next_8 mt (nI n) K F (nI q) = K (nI (rn x 3 f q)) := by
  have h900 := hT.1
  intro f
  induction f with
  | zero =>
    intro q F hq hF
    obtain ⟨F, rfl⟩ : ∃ m, F = m + 1 := ⟨F - 1, by omega⟩
    rw [fX8_next_8, see8 hT (by omega), bd1_some, jn_eq, bd1_some, if_pos (show n ≤ q by omega), if_neg (by decide), if_neg (by decide)]; rfl
  | succ f ih =>
    intro q F hq hF
    obtain ⟨F, rfl⟩ : ∃ m, F = m + 1 := ⟨F - 1, by omega⟩
    obtain ⟨t1, t2, t3⟩ := hT.2 q (by omega)
    rw [fX8_next_8, see8 hT (by omega), bd1_some, jn_eq, bd1_some, if_neg (show ¬ n ≤ q by omega), bnd_e, nI_inc, ih _ _ (by omega) (by omega), rn]
    by_cases e : kd (x q) = 3
    · rw [if_pos e]
      rcases kd_blank.mp e with h | h
      · rw [if_pos (by rw [h]; rfl)]
      · rw [if_neg (by rw [h]; decide), if_pos (by rw [h]; rfl)]
    · rw [if_neg e, if_neg (by rw [lit 10]; exact ine (fun h => e (kd_blank.mpr (Or.inl h))) (by omega) (by decide)), if_neg (by rw [lit 32]; exact ine (fun h => e (kd_blank.mpr (Or.inr h))) (by omega) (by decide))]
theorem word8 {xt mt : Nat → Int32} {x : Nat → Nat} {n : Nat} (hT : TP xt mt x n) (K : Int32 → Option (Int32 × Int32 × Int32 × Int32)) : ∀ f q F, q + f = n → f < F → fX8_next_89 mt (nI n) K F (nI q) = K (nI (rn x 0 f q)) := by
  have h900 := hT.1
  intro f
  induction f with
  | zero =>
    intro q F hq hF
    obtain ⟨F, rfl⟩ : ∃ m, F = m + 1 := ⟨F - 1, by omega⟩
    rw [fX8_next_89, see8 hT (by omega), bd1_some, if_pos (show n ≤ q by omega), show fX8_isSmall (-1) = some 0 by decide, bd1_some, if_pos rfl]; rfl
  | succ f ih =>
    intro q F hq hF
    obtain ⟨F, rfl⟩ : ∃ m, F = m + 1 := ⟨F - 1, by omega⟩
    obtain ⟨t1, t2, t3⟩ := hT.2 q (by omega)
    rw [fX8_next_89, see8 hT (by omega), bd1_some, if_neg (show ¬ n ≤ q by omega), small8 t1, bd1_some, bI_0', bnd_e, nI_inc, ih _ _ (by omega) (by omega), rn]
    by_cases e : kd (x q) = 0
    · rw [decide_eq_true e, if_pos rfl, if_pos e]
    · rw [decide_eq_false e, if_neg e]; rfl
theorem digits8 {xt mt : Nat → Int32} {x : Nat → Nat} {n st : Nat} (hT : TP xt mt x n) (K : Int32 → Int32 → Option (Int32 × Int32 × Int32 × Int32)) : ∀ f q F num a, q + f = n → st ≤ q → f < F → (q - st ≤ 4 → num = nI a) → ∃ num', fX8_next_146 mt (nI st) (nI n) K F (nI q) num = K (nI (rn x 1 f q)) num' ∧ (rn x 1 f q - st ≤ 4 → num' = nI (vlF x (rn x 1 f q - q) a q)) := by
  have h900 := hT.1
  intro f
  induction f with
  | zero =>
    intro q F num a hq hs hF hn
    obtain ⟨F, rfl⟩ : ∃ m, F = m + 1 := ⟨F - 1, by omega⟩
    refine ⟨num, ?_, fun h => ?_⟩
    · rw [fX8_next_146, see8 hT (by omega), bd1_some, if_pos (show n ≤ q by omega), show fX8_isDigit (-1) = some 0 by decide, bd1_some, if_pos rfl]; rfl
    · rw [rn, Nat.sub_self]; exact hn h
  | succ f ih =>
    intro q F num a hq hs hF hn
    obtain ⟨F, rfl⟩ : ∃ m, F = m + 1 := ⟨F - 1, by omega⟩
    obtain ⟨t1, t2, t3⟩ := hT.2 q (by omega)
    rw [fX8_next_146, see8 hT (by omega), bd1_some, if_neg (show ¬ n ≤ q by omega), digit8 t1, bd1_some, bI_0', jn_eq, bd1_some, pk_sub hs, rn]
    by_cases e : kd (x q) = 1
    · have hd := kd_digit e
      have hle := rn_le x 1 f (q + 1)
      rw [decide_eq_true e, if_pos rfl, if_pos e]
      by_cases q4 : 4 ≤ q - st
      · rw [if_pos (by rw [lit 4]; exact ile q4 (by omega))]
        dsimp only
        rw [bnd_e, nI_inc]
        obtain ⟨num', g1, g2⟩ := ih (q + 1) F num 0 (by omega) (by omega) (by omega) (fun h => by omega)
        exact ⟨num', g1, fun h => by omega⟩
      · have hnum := hn (by omega)
        rw [if_neg (by rw [lit 4]; exact inle (by omega) (by omega)), hnum, bnd_e]
        dsimp only
        rw [bnd_e, nI_inc, lit 10, pk_mul, nI_add, lit 48, pk_sub (by omega), show 10 * a + x q - 48 = 10 * a + (x q - 48) by omega]
        obtain ⟨num', g1, g2⟩ := ih (q + 1) F (nI (10 * a + (x q - 48))) (10 * a + (x q - 48)) (by omega) (by omega) (by omega) (fun _ => rfl)
        refine ⟨num', g1, fun h => ?_⟩
        rw [g2 h, show rn x 1 f (q + 1) - q = (rn x 1 f (q + 1) - (q + 1)) + 1 by omega, vlF]
    · rw [decide_eq_false e, if_neg (by decide), if_neg e]
      refine ⟨num, rfl, fun h => ?_⟩
      rw [Nat.sub_self]; exact hn h
theorem nx8 {xt mt : Nat → Int32} {x : Nat → Nat} {n p : Nat} (hT : TP xt mt x n) (hp : p ≤ n) (a k num : Int32) : ∃ num', fX8_next mt a (nI p) (nI n) k num = some (nI (stp x n p), nI (en8 x n p), nI (mkT x n p), num') ∧ (kT x n p = 1 → badT x n p = false → num' = nI (valT x n p)) := by
  have h900 := hT.1
  have hs := stp_le (x := x) hp
  have he := en_le (x := x) hp
  unfold fX8_next
  rw [blank8 hT _ (n - p) p FU (by omega) (FU_big (by omega)), show rn x 3 (n - p) p = stp x n p from rfl]
  unfold en8 mkT
  by_cases q : n ≤ stp x n p
  · have hk : kT x n p = 5 := by unfold kT; rw [if_pos q]
    have hen : enT x n p = stp x n p := by unfold enT; rw [if_pos hk]
    refine ⟨num, ?_, fun h => by omega⟩
    rw [if_neg (inlt q (by omega)), if_neg (by omega), if_pos hk, hen]; rfl
  · obtain ⟨t1, t2, t3⟩ := hT.2 (stp x n p) (by omega)
    have hk : kT x n p = kd (x (stp x n p)) := by unfold kT; rw [if_neg q]
    have hkd := kd_le (x (stp x n p))
    have h5 : ¬ kT x n p = 5 := by omega
    have hb : badT x n p = (decide (kT x n p = 4) || (decide (kT x n p = 1) && decide (4 < enT x n p - stp x n p))) := rfl
    rw [if_pos (ilt (by omega) (by omega)), see8 hT (by omega), bd1_some, if_neg q, small8 t1, bd1_some, bI_0', bd1_some, digit8 t1, bd1_some, bI_0', bnd_e, bd1_some, jn_eq, if_neg h5, nI_inc]
    by_cases q0 : kT x n p = 0
    · have hbt : badT x n p = false := by rw [hb, q0]; rfl
      have hen : rn x 0 (n - stp x n p) (stp x n p) = enT x n p := by unfold enT; rw [if_neg h5, if_neg (by omega), q0]
      rw [decide_eq_true (show kd (x (stp x n p)) = 0 by omega), if_pos rfl, word8 hT _ (n - stp x n p) _ FU (by omega) (FU_big (by omega)), hen, keyAt8 (x := x) (by omega) (by omega) (fun j h1 h2 => (hT.2 j (by omega)).2.1), bd1_some, hbt, if_neg (show ¬ kT x n p = 4 by omega), if_neg (by decide), if_pos q0]
      exact ⟨num, rfl, fun h => by omega⟩
    · rw [decide_eq_false (show ¬ kd (x (stp x n p)) = 0 by omega), if_neg (by decide)]
      by_cases q1 : kT x n p = 1
      · have hen : rn x 1 (n - stp x n p) (stp x n p) = enT x n p := by unfold enT; rw [if_neg h5, if_neg (by omega), q1]
        rw [decide_eq_true (show kd (x (stp x n p)) = 1 by omega), if_pos rfl]
        obtain ⟨num', g1, g2⟩ := digits8 hT (st := stp x n p) (fun (t_behind_39 : Int32) (t_number_40 : Int32) => jn (β := Int32 × Int32 × Int32 × Int32) (fun (z_41 : Int32) => some (nI (stp x n p), t_behind_39, z_41, t_number_40)) (fun k_42 => if (t_behind_39 - nI (stp x n p)) ≤ 4 then k_42 8 else k_42 11)) (n - stp x n p) (stp x n p) FU 0 0 (by omega) (Nat.le_refl _) (FU_big (by omega)) (fun _ => rfl)
        rw [hen] at g1 g2
        rw [g1, jn_eq, pk_sub he.1, if_neg (show ¬ kT x n p = 4 by omega)]
        by_cases q4 : enT x n p - stp x n p ≤ 4
        · have hbt : badT x n p = false := by rw [hb, q1, decide_eq_false (show ¬ 4 < enT x n p - stp x n p by omega)]; rfl
          rw [if_pos (by rw [lit 4]; exact ile q4 (by omega)), hbt, if_neg (by decide), if_neg q0, if_pos q1]
          exact ⟨num', rfl, fun _ _ => g2 q4⟩
        · have hbt : badT x n p = true := by rw [hb, q1, decide_eq_true (show 4 < enT x n p - stp x n p by omega)]; rfl
          rw [if_neg (by rw [lit 4]; exact inle (by omega) (by omega)), hbt, if_pos rfl]
          exact ⟨num', rfl, fun _ h => absurd h (by decide)⟩
      · rw [decide_eq_false (show ¬ kd (x (stp x n p)) = 1 by omega), if_neg (by decide)]
        by_cases q2 : kT x n p = 2
        · have hbt : badT x n p = false := by rw [hb, q2]; rfl
          have h59 : x (stp x n p) = 59 := kd_semi.mp (by omega)
          have hen : enT x n p = stp x n p + 1 := by unfold enT; rw [if_neg h5, if_pos q2]
          rw [if_pos (by rw [h59]; rfl), hbt, if_neg (show ¬ kT x n p = 4 by omega), if_neg (by decide), if_neg q0, if_neg q1, hen]
          exact ⟨num, rfl, fun h => by omega⟩
        · have q4 : kT x n p = 4 := by have := kT_ne3 (x := x) hp; omega
          have hbt : badT x n p = true := by rw [hb, q4]; rfl
          have h59 : ¬ x (stp x n p) = 59 := fun h => by have := kd_semi.mpr h; omega
          rw [if_neg (by rw [lit 59]; exact ine h59 (by omega) (by decide)), hbt, if_pos q4, if_pos rfl]
          exact ⟨num, rfl, fun h => by omega⟩
