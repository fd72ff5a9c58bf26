-- uses:
/-! the text's tokens -/
def kd (b : Nat) : Nat := if 97 ≤ b ∧ b ≤ 122 then 0 else if 48 ≤ b ∧ b ≤ 57 then 1 else if b = 59 then 2 else if b = 10 ∨ b = 32 then 3 else 4
theorem kind7 {b : Nat} (hb : b < 256) : fX3_kindOf ((nI b).toInt8.toInt32) = some (nI (kd b)) := by
  have : ∀ b, b < 256 → fX3_kindOf ((nI b).toInt8.toInt32) = some (nI (kd b)) := by decide +kernel
  exact this b hb
theorem small8 {b : Nat} (hb : b < 256) : fX8_isSmall (nI b) = some (bI (decide (kd b = 0))) := by
  have : ∀ b, b < 256 → fX8_isSmall (nI b) = some (bI (decide (kd b = 0))) := by decide +kernel
  exact this b hb
theorem digit8 {b : Nat} (hb : b < 256) : fX8_isDigit (nI b) = some (bI (decide (kd b = 1))) := by
  have : ∀ b, b < 256 → fX8_isDigit (nI b) = some (bI (decide (kd b = 1))) := by decide +kernel
  exact this b hb
theorem kd_le (b : Nat) : kd b ≤ 4 := by unfold kd; repeat' (first | split | omega)
theorem kd_word {b : Nat} (h : kd b = 0) : 97 ≤ b ∧ b ≤ 122 := by
  unfold kd at h
  split at h
  · assumption
  · split at h
    · omega
    · split at h
      · omega
      · split at h <;> omega
theorem kd_digit {b : Nat} (h : kd b = 1) : 48 ≤ b ∧ b ≤ 57 := by
  unfold kd at h
  split at h
  · omega
  · split at h
    · assumption
    · split at h
      · omega
      · split at h <;> omega
theorem kd_semi {b : Nat} : kd b = 2 ↔ b = 59 := by
  unfold kd
  split
  · omega
  · split
    · omega
    · split
      · omega
      · split <;> omega
theorem kd_blank {b : Nat} : kd b = 3 ↔ (b = 10 ∨ b = 32) := by
  unfold kd
  split
  · omega
  · split
    · omega
    · split
      · omega
      · split <;> omega
/-- both tapes -/
def TP (xt mt : Nat → Int32) (x : Nat → Nat) (n : Nat) : Prop := n ≤ 900 ∧ ∀ j, j < n → x j < 256 ∧ mt j = nI (x j) ∧ xt j = (nI (x j)).toInt8.toInt32
def rn (x : Nat → Nat) (k : Nat) : Nat → Nat → Nat
  | 0, p => p
  | f + 1, p => if kd (x p) = k then rn x k f (p + 1) else p
theorem rn_le (x : Nat → Nat) (k : Nat) : ∀ f p, p ≤ rn x k f p ∧ rn x k f p ≤ p + f
  | 0, p => ⟨Nat.le_refl _, Nat.le_refl _⟩
  | f + 1, p => by
    rw [rn]
    split
    · have := rn_le x k f (p + 1); omega
    · omega
theorem rn_in (x : Nat → Nat) (k : Nat) : ∀ f p j, p ≤ j → j < rn x k f p → kd (x j) = k
  | 0, p, j, h1, h2 => by rw [rn] at h2; omega
  | f + 1, p, j, h1, h2 => by
    rw [rn] at h2
    split at h2
    · rename_i hk
      by_cases q : j = p
      · rw [q]; exact hk
      · exact rn_in x k f (p + 1) j (by omega) h2
    · omega
theorem rn_out (x : Nat → Nat) (k : Nat) : ∀ f p, rn x k f p < p + f → kd (x (rn x k f p)) ≠ k
  | 0, p, h => by rw [rn] at h; omega
  | f + 1, p, h => by
    rw [rn] at h ⊢
    split
    · rename_i hk
      rw [if_pos hk] at h
      exact rn_out x k f (p + 1) (by omega)
    · rename_i hk; exact hk
theorem rn_1 {x : Nat → Nat} {k f p : Nat} (hf : 0 < f) (h : kd (x p) = k) : p < rn x k f p := by
  obtain ⟨f, rfl⟩ : ∃ g, f = g + 1 := ⟨f - 1, by omega⟩
  rw [rn, if_pos h]
  have := rn_le x k f (p + 1)
  omega
def stp (x : Nat → Nat) (n p : Nat) : Nat := rn x 3 (n - p) p
def kT (x : Nat → Nat) (n p : Nat) : Nat := if n ≤ stp x n p then 5 else kd (x (stp x n p))
def enT (x : Nat → Nat) (n p : Nat) : Nat := if kT x n p = 5 then stp x n p else if kT x n p = 2 then stp x n p + 1 else rn x (kT x n p) (n - stp x n p) (stp x n p)
def badT (x : Nat → Nat) (n p : Nat) : Bool := decide (kT x n p = 4) || (decide (kT x n p = 1) && decide (4 < enT x n p - stp x n p))
def vlF (x : Nat → Nat) : Nat → Nat → Nat → Nat
  | 0, a, _ => a
  | f + 1, a, p => vlF x f (10 * a + (x p - 48)) (p + 1)
def valT (x : Nat → Nat) (n p : Nat) : Nat := vlF x (enT x n p - stp x n p) 0 (stp x n p)
theorem stp_le {x : Nat → Nat} {n p : Nat} (h : p ≤ n) : p ≤ stp x n p ∧ stp x n p ≤ n := by
  have := rn_le x 3 (n - p) p
  unfold stp
  omega
theorem kT_ne3 {x : Nat → Nat} {n p : Nat} (h : p ≤ n) : kT x n p ≠ 3 := by
  unfold kT
  split
  · omega
  · rename_i hq
    exact rn_out x 3 (n - p) p (by have := stp_le (x := x) h; unfold stp at hq this; omega)
theorem kT_le {x : Nat → Nat} {n p : Nat} : kT x n p ≤ 5 := by
  unfold kT
  split
  · omega
  · have := kd_le (x (stp x n p)); omega
theorem en_le {x : Nat → Nat} {n p : Nat} (h : p ≤ n) : stp x n p ≤ enT x n p ∧ enT x n p ≤ n ∧ (kT x n p ≠ 5 → stp x n p < enT x n p ∧ stp x n p < n) := by
  have h1 := stp_le (x := x) h
  by_cases q : n ≤ stp x n p
  · have e : kT x n p = 5 := by unfold kT; rw [if_pos q]
    unfold enT
    rw [if_pos e]
    exact ⟨Nat.le_refl _, h1.2, fun h => absurd e h⟩
  · have e : kT x n p = kd (x (stp x n p)) := by unfold kT; rw [if_neg q]
    have h5 : kT x n p ≠ 5 := by have := kd_le (x (stp x n p)); omega
    unfold enT
    rw [if_neg h5]
    by_cases q2 : kT x n p = 2
    · rw [if_pos q2]; exact ⟨by omega, by omega, fun _ => by omega⟩
    · rw [if_neg q2]
      have g1 := rn_le x (kT x n p) (n - stp x n p) (stp x n p)
      have g2 := rn_1 (x := x) (k := kT x n p) (f := n - stp x n p) (p := stp x n p) (by omega) e.symm
      exact ⟨by omega, by omega, fun _ => by omega⟩
theorem tok_in {x : Nat → Nat} {n p j : Nat} (h5 : kT x n p ≠ 5) (h2 : kT x n p ≠ 2) (h1 : stp x n p ≤ j) (hj : j < enT x n p) : kd (x j) = kT x n p := by
  unfold enT at hj
  rw [if_neg h5, if_neg h2] at hj
  exact rn_in x _ _ _ j h1 hj
theorem vlF_lt {x : Nat → Nat} : ∀ f a p m, (∀ j, p ≤ j → j < p + f → kd (x j) = 1) → a < m → vlF x f a p < m * 10 ^ f
  | 0, a, p, m, _, ha => by rw [vlF, Nat.pow_zero, Nat.mul_one]; exact ha
  | f + 1, a, p, m, h, ha => by
    have h1 := kd_digit (h p (by omega) (by omega))
    have := vlF_lt f (10 * a + (x p - 48)) (p + 1) (m * 10) (fun j g1 g2 => h j (by omega) (by omega)) (by omega)
    rw [vlF, Nat.pow_succ, Nat.mul_comm (10 ^ f) 10, ← Nat.mul_assoc]
    exact this
theorem val_lt {x : Nat → Nat} {n p : Nat} (h1 : kT x n p = 1) (hb : badT x n p = false) : valT x n p < 10000 ∧ enT x n p - stp x n p ≤ 4 := by
  have hl : enT x n p - stp x n p ≤ 4 := by
    unfold badT at hb
    rw [h1] at hb
    have : ¬ 4 < enT x n p - stp x n p := by simpa using hb
    omega
  refine ⟨?_, hl⟩
  have := vlF_lt (x := x) (enT x n p - stp x n p) 0 (stp x n p) 1 (fun j g1 g2 => (tok_in (by omega) (by omega) g1 (by omega)).trans h1) (by omega)
  have h2 : 10 ^ (enT x n p - stp x n p) ≤ 10 ^ 4 := Nat.pow_le_pow_right (by omega) hl
  unfold valT
  omega
theorem loop13 {xt mt : Nat → Int32} {x : Nat → Nat} {n : Nat} (hT : TP xt mt x n) (K : Int32 → Option (Int32 × Int32 × Int32 × Int32 × Int32 × Int32)) : ∀ f q F, q + f = n → f < F → fX3_nextToken_13 xt (nI n) K F (nI q) (nI q) = K (nI (rn x 3 f q)) := by
  have h900 := hT.1
  intro f
  induction f with
  | zero =>
    intro q F hq hF
    obtain ⟨F, rfl⟩ : ∃ m, F = m + 1 := ⟨F - 1, by omega⟩
    rw [fX3_nextToken_13, if_pos (ile (by omega) (by omega))]; rfl
  | succ f ih =>
    intro q F hq hF
    obtain ⟨F, rfl⟩ : ∃ m, F = m + 1 := ⟨F - 1, by omega⟩
    obtain ⟨t1, t2, t3⟩ := hT.2 q (by omega)
    have hk := kd_le (x q)
    rw [fX3_nextToken_13, if_neg (inle (by omega) (by omega)), rdI_nI (by omega) (by decide), t3, kind7 t1, bd1_some, bnd_e, nI_inc, ih _ _ (by omega) (by omega), rn]
    by_cases e : kd (x q) = 3
    · rw [if_pos (by rw [e]; rfl), if_pos e]
    · rw [if_neg (by rw [lit 3]; exact ine e (by omega) (by decide)), if_neg e]
theorem loop112 {xt mt : Nat → Int32} {x : Nat → Nat} {n k : Nat} (hT : TP xt mt x n) (hk5 : k ≤ 5) (K : Int32 → Option (Int32 × Int32 × Int32 × Int32 × Int32 × Int32)) : ∀ f q F, q + f = n → f < F → fX3_nextToken_112 xt (nI n) (nI k) K F (nI q) (nI q) = K (nI (rn x k f q)) := by
  have h900 := hT.1
  intro f
  induction f with
  | zero =>
    intro q F hq hF
    obtain ⟨F, rfl⟩ : ∃ m, F = m + 1 := ⟨F - 1, by omega⟩
    rw [fX3_nextToken_112, if_pos (ile (by omega) (by omega))]; rfl
  | succ f ih =>
    intro q F hq hF
    obtain ⟨F, rfl⟩ : ∃ m, F = m + 1 := ⟨F - 1, by omega⟩
    obtain ⟨t1, t2, t3⟩ := hT.2 q (by omega)
    have hk := kd_le (x q)
    rw [fX3_nextToken_112, if_neg (inle (by omega) (by omega)), rdI_nI (by omega) (by decide), t3, kind7 t1, bd1_some, bnd_e, nI_inc, ih _ _ (by omega) (by omega), rn]
    by_cases e : kd (x q) = k
    · rw [if_pos (by rw [e]), if_pos e]
    · rw [if_neg (ine e (by omega) (by omega)), if_neg e]
theorem value7 {xt mt : Nat → Int32} {x : Nat → Nat} {n p : Nat} (hT : TP xt mt x n) (hp : p ≤ n) (h1 : kT x n p = 1) : fX3_valueOfToken xt (nI (enT x n p)) (nI (stp x n p)) = some (nI (valT x n p)) := by
  have h900 := hT.1
  have he := en_le (x := x) hp
  have loop : ∀ f q F a, q + f = enT x n p → stp x n p ≤ q → f < F → fX3_valueOfToken_7 xt (nI (enT x n p)) (fun (w_5 : Int32) => some w_5) F (nI a) (nI q) = some (nI (vlF x f a q)) := by
    intro f
    induction f with
    | zero =>
      intro q F a hq hs hF
      obtain ⟨F, rfl⟩ : ∃ m, F = m + 1 := ⟨F - 1, by omega⟩
      rw [fX3_valueOfToken_7, if_pos (ile (by omega) (by omega))]; rfl
    | succ f ih =>
      intro q F a hq hs hF
      obtain ⟨F, rfl⟩ : ∃ m, F = m + 1 := ⟨F - 1, by omega⟩
      obtain ⟨t1, t2, t3⟩ := hT.2 q (by omega)
      have hd := kd_digit ((tok_in (x := x) (by omega) (by omega) hs (by omega)).trans h1)
      rw [fX3_valueOfToken_7, if_neg (inle (by omega) (by omega)), rdI_nI (by omega) (by decide), t3, fa_byte_small (by omega), bnd_e, lit 10, pk_mul, nI_add, lit 48, pk_sub (by omega), show 10 * a + x q - 48 = 10 * a + (x q - 48) by omega, nI_inc, ih _ _ _ (by omega) (by omega) (by omega)]
      rfl
  unfold fX3_valueOfToken valT
  exact loop _ _ FU 0 (by omega) (Nat.le_refl _) (FU_big (by omega))
theorem nt7_f (tape : Nat → Int32) (n at0 k s v f pl : Int32) (h : ¬ f = 0) : fX3_nextToken tape n at0 k s v f pl = some (at0, k, s, v, f, pl) := by
  unfold fX3_nextToken
  rw [if_neg h]
theorem nt7 {xt mt : Nat → Int32} {x : Nat → Nat} {n p : Nat} (hT : TP xt mt x n) (hp : p ≤ n) (k s v pl : Int32) : ∃ v', fX3_nextToken xt (nI n) (nI p) k s v 0 pl = some (nI (enT x n p), nI (kT x n p), nI (stp x n p), v', (if badT x n p then 1 else 0), (if badT x n p then nI (stp x n p) else pl)) ∧ (kT x n p = 1 → badT x n p = false → v' = nI (valT x n p)) := by
  have h900 := hT.1
  have hs := stp_le (x := x) hp
  have he := en_le (x := x) hp
  have hk5 := kT_le (x := x) (n := n) (p := p)
  have hk3 := kT_ne3 (x := x) hp
  unfold fX3_nextToken
  rw [if_pos rfl, loop13 hT _ (n - p) p FU (by omega) (FU_big (by omega))]
  rw [show rn x 3 (n - p) p = stp x n p from rfl]
  have hz : ∀ (g : Int32 → Option (Int32 × Int32 × Int32 × Int32 × Int32 × Int32)), jn g (fun k_11 => if nI n ≤ nI (stp x n p) then k_11 5 else rdI 900 xt (nI (stp x n p)) (fun x_36 => bd1 (fX3_kindOf x_36) (fun r_38 => k_11 r_38))) = g (nI (kT x n p)) := by
    intro g
    rw [jn_eq]
    unfold kT
    by_cases q : n ≤ stp x n p
    · rw [if_pos (ile q (by omega)), if_pos q]; rfl
    · obtain ⟨t1, t2, t3⟩ := hT.2 (stp x n p) (by omega)
      rw [if_neg (inle (by omega) (by omega)), if_neg q, rdI_nI (by omega) (by decide), t3, kind7 t1, bd1_some]
  rw [hz]
  have hend : ∀ (g : Int32 → Option (Int32 × Int32 × Int32 × Int32 × Int32 × Int32)), jn g (fun k_13 => if nI (kT x n p) = 2 then bnd (nI (stp x n p) + 1) (fun y_34 => k_13 y_34) else fX3_nextToken_112 xt (nI n) (nI (kT x n p)) (fun (t_at_33 : Int32) => k_13 t_at_33) FU (nI (stp x n p)) (nI (stp x n p))) = g (nI (enT x n p)) := by
    intro g
    rw [jn_eq]
    unfold enT
    by_cases q5 : kT x n p = 5
    · have hn : stp x n p = n := by
        unfold kT at q5
        split at q5
        · omega
        · have := kd_le (x (stp x n p)); omega
      rw [if_neg (by rw [q5]; decide), if_pos q5, loop112 hT (by omega) _ 0 _ FU (by omega) (FU_big (by decide))]; rfl
    · rw [if_neg q5]
      by_cases q2 : kT x n p = 2
      · rw [if_pos (by rw [q2]; rfl), if_pos q2, bnd_e, nI_inc]
      · rw [if_neg (by rw [lit 2]; exact ine q2 (by omega) (by decide)), if_neg q2, loop112 hT (by omega) _ (n - stp x n p) _ FU (by omega) (FU_big (by omega))]
  rw [hend, jn_eq, jn_eq]
  unfold fX3_refuse
  rw [if_pos rfl, bd2_some]
  have hb : badT x n p = (decide (kT x n p = 4) || (decide (kT x n p = 1) && decide (4 < enT x n p - stp x n p))) := rfl
  by_cases q4 : kT x n p = 4
  · have hbt : badT x n p = true := by rw [hb, q4]; rfl
    refine ⟨v, ?_, fun h => by omega⟩
    rw [if_pos (by rw [q4]; rfl), hbt]; rfl
  · rw [if_neg (by rw [lit 4]; exact ine q4 (by omega) (by decide))]
    by_cases q1 : kT x n p = 1
    · have e1 : nI (kT x n p) = 1 := by rw [q1]; rfl
      rw [if_pos e1, if_pos e1, pk_sub he.1, value7 hT hp q1, bd1_some]
      by_cases q : enT x n p - stp x n p ≤ 4
      · have hbt : badT x n p = false := by rw [hb, decide_eq_false q4, decide_eq_true q1, decide_eq_false (by omega)]; rfl
        rw [if_pos (by rw [lit 4]; exact ile q (by omega)), hbt]
        exact ⟨_, rfl, fun _ _ => rfl⟩
      · have hbt : badT x n p = true := by rw [hb, decide_eq_true q1, decide_eq_true (show 4 < enT x n p - stp x n p by omega)]; simp
        rw [if_neg (by rw [lit 4]; exact inle (by omega) (by omega)), hbt]
        exact ⟨v, rfl, fun _ h => absurd h (by decide)⟩
    · have e1 : ¬ nI (kT x n p) = 1 := by rw [n1]; exact ine q1 (by omega) (by decide)
      have hbt : badT x n p = false := by rw [hb, decide_eq_false q4, decide_eq_false q1]; rfl
      rw [if_neg e1, if_neg e1, hbt]
      exact ⟨v, rfl, fun h => absurd h q1⟩
