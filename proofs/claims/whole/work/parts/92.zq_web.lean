-- uses:
/-! nets -/
theorem slack_side {B : Nat → Nat} (hB : WF B) {hr a b : Nat} (hab : a < b) (h : b = a + 1 ∨ (a = 0 ∧ b + 1 = B 0)) : slackN B hr a b = false := by
  cases hs : slackN B hr a b with
  | false => rfl
  | true =>
    unfold slackN at hs
    rw [anyF_iff] at hs
    obtain ⟨k, _, hk, h2⟩ := hs
    rw [Bool.and_eq_true] at h2
    obtain ⟨g1, g2, g3, _⟩ := hB.2.2.2.2.2.2.2.2.1 k (by omega)
    have h3 := h2.2
    rw [Nat.min_eq_left (by omega), Nat.max_eq_right (by omega)] at h3
    unfold crossN at h3
    rw [Bool.and_eq_true, Bool.and_eq_true, Bool.and_eq_true, Bool.and_eq_true] at h3
    obtain ⟨⟨⟨⟨c1, c2⟩, c3⟩, c4⟩, c5⟩ := h3
    have c1 := of_decide_eq_true c1
    have c2 := of_decide_eq_true c2
    have c3 := of_decide_eq_true c3
    have c4 := of_decide_eq_true c4
    have c5 : ¬ (decide (a < B (18 + 3 * k) ∧ B (18 + 3 * k) < b) = decide (a < B (18 + 3 * k + 1) ∧ B (18 + 3 * k + 1) < b)) := by simpa using c5
    refine absurd ?_ c5
    rw [decide_eq_decide]
    omega
theorem add_same {L M : Nat → Int32} {h its ways : Nat} (hw : ways = 0) : fX8_adds 144 144 L M (nI h) (nI its) (nI ways) = some (L, M) := by
  unfold fX8_adds
  rw [hw, if_pos (show nI 0 = 0 from rfl)]
theorem add_more {L M : Nat → Int32} {h its ways l : Nat} (hh : h < 144) (hw : ways ≠ 0) (hw2 : ways ≤ 1000) (hl : L h = nI l) (hl2 : l ≤ 1000000) (hi : its ≤ 1000000) (hgt : l < its) : fX8_adds 144 144 L M (nI h) (nI its) (nI ways) = some (L, M) := by
  unfold fX8_adds
  rw [if_neg (by rw [n0]; exact ine hw (by omega) (by decide)), rdI_nI hh (by decide), hl, if_neg (inle hgt (by omega))]
theorem add_less {L M : Nat → Int32} {h its ways l : Nat} (hh : h < 144) (hw : ways ≠ 0) (hw2 : ways ≤ 1000) (hl : L h = nI l) (hl2 : l ≤ 1000000) (hgt : its < l) : fX8_adds 144 144 L M (nI h) (nI its) (nI ways) = some (upd L h (nI its), upd M h (nI ways)) := by
  unfold fX8_adds
  rw [if_neg (by rw [n0]; exact ine hw (by omega) (by decide)), rdI_nI hh (by decide), rdI_nI hh (by decide), hl, if_pos (ile (by omega) (by omega)), jn_eq, if_neg (ine (by omega) (by omega) (by omega))]
  dsimp only
  rw [wrI_nI hh (by decide), wrI_nI hh (by decide)]
theorem add_eq {L M : Nat → Int32} {h its ways k : Nat} (hh : h < 144) (hw : ways ≠ 0) (hw2 : ways ≤ 1000) (hl : L h = nI its) (hl2 : its ≤ 1000000) (hk : M h = nI k) : fX8_adds 144 144 L M (nI h) (nI its) (nI ways) = some (upd L h (nI its), upd M h (nI (k + ways))) := by
  unfold fX8_adds
  rw [if_neg (by rw [n0]; exact ine hw (by omega) (by decide)), rdI_nI hh (by decide), rdI_nI hh (by decide), hl, if_pos (ile (by omega) (by omega)), jn_eq, if_pos rfl, rdI_nI hh (by decide), hk, nI_add]
  dsimp only
  rw [wrI_nI hh (by decide), wrI_nI hh (by decide)]
def cN (n : Nat) (NL NM : Nat → Int32) (i j : Nat) : Prop := NL (12 * i + j) = nI ((j - i) * (n - 1)) ∧ NM (12 * i + j) = nI (if j - i = n - 1 then n else 1)
def cB (n : Nat) (BL BM : Nat → Int32) (i j : Nat) : Prop := ∃ l k, BL (12 * i + j) = nI l ∧ BM (12 * i + j) = nI k ∧ l ≤ 1000000 ∧ k ≤ 12 ∧ (j - i = 1 → l = n - 1 ∧ k = 1) ∧ (2 ≤ j - i → j - i < n - 1 → k ≠ 0 → (j - i) * (n - 1) < l ∧ l ≤ 2000)
def VV (n s : Nat) : Nat := (s - 1) * (n - 1) + s * (n - s)
theorem mulb {a b : Nat} (ha : a ≤ 12) (hb : b ≤ 12) : a * b ≤ 144 := Nat.le_trans (Nat.mul_le_mul ha hb) (by decide)
theorem VV_facts {n s : Nat} (hn : 3 ≤ n) (hn2 : n ≤ 12) (hs : 1 ≤ s) (hs2 : s ≤ n - 1) : VV n s ≤ 300 ∧ (s = 1 → VV n s = n - 1) ∧ (2 ≤ s → s < n - 1 → s * (n - 1) < VV n s) ∧ (s = n - 1 → VV n s = s * (n - 1)) := by
  have f1 : ∀ n, n ≤ 12 → ∀ s, s ≤ 12 → VV n s ≤ 300 := by unfold VV; decide +kernel
  have f3 : ∀ n, n ≤ 12 → ∀ s, s ≤ 12 → (2 ≤ s ∧ s < n - 1) → s * (n - 1) < VV n s := by unfold VV; decide +kernel
  have f4 : ∀ n, n ≤ 12 → 3 ≤ n → VV n (n - 1) = (n - 1) * (n - 1) := by unfold VV; decide +kernel
  refine ⟨f1 n hn2 s (by omega), fun e => ?_, fun h1 h2 => f3 n hn2 s (by omega) ⟨h1, h2⟩, fun e => ?_⟩
  · rw [e]; unfold VV; omega
  · rw [e]; exact f4 n hn2 hn
theorem nets_b {A : Nat → Int32} {B : Nat → Nat} (hM : MB A 0 B) (hB : WF B) (h3 : 3 ≤ B 0) {NL NM : Nat → Int32} {i j : Nat} (hij : i < j) (hj : j < B 0) (hN : ∀ a b, a ≤ b → b < B 0 → b - a < j - i → cN (B 0) NL NM a b)
    (K : (Nat → Int32) → (Nat → Int32) → Option ((Nat → Int32) × (Nat → Int32) × (Nat → Int32) × (Nat → Int32))) :
    ∀ k m F BL BM, m + k = j → i ≤ m → k < F → BL (12 * i + j) = nI (if m = i then 1000000 else VV (B 0) (j - i)) → BM (12 * i + j) = nI (m - i) → (slackN B (B 1) i j = true → m = i) →
    ∃ BL' BM', fX8_laysNets_113 (nI i) (nI j) (nI (12 * i + j)) A NL NM K F (nI m) BL BM = K BL' BM' ∧ (∀ x, x ≠ 12 * i + j → BL' x = BL x ∧ BM' x = BM x) ∧ ((slackN B (B 1) i j = true ∧ BL' (12 * i + j) = nI 1000000 ∧ BM' (12 * i + j) = nI 0) ∨ (slackN B (B 1) i j = false ∧ BL' (12 * i + j) = nI (VV (B 0) (j - i)) ∧ BM' (12 * i + j) = nI (j - i))) := by
  have h12 := hB.1
  obtain ⟨v1, v2, v3, v4⟩ := VV_facts h3 h12 (show 1 ≤ j - i by omega) (show j - i ≤ B 0 - 1 by omega)
  intro k
  induction k with
  | zero =>
    intro m F BL BM hm hi hF h1 h2 hs
    obtain ⟨F, rfl⟩ : ∃ m, F = m + 1 := ⟨F - 1, by omega⟩
    obtain rfl : m = j := by omega
    refine ⟨BL, BM, by rw [fX8_laysNets_113, if_pos (ile (by omega) (by omega))], fun x _ => ⟨rfl, rfl⟩, Or.inr ⟨?_, ?_, h2⟩⟩
    · cases e : slackN B (B 1) i m with
      | false => rfl
      | true => have := hs e; omega
    · rw [h1, if_neg (by omega)]
  | succ k ih =>
    intro m F BL BM hm hi hF h1 h2 hs
    obtain ⟨F, rfl⟩ : ∃ m, F = m + 1 := ⟨F - 1, by omega⟩
    rw [fX8_laysNets_113, if_neg (inle (by omega) (by omega)), slackNow8 hM hB (by omega) (by omega), bd1_some]
    cases e : slackN B (B 1) i j with
    | true =>
      have hmi := hs e
      refine ⟨BL, BM, by rw [if_neg (by decide)], fun x _ => ⟨rfl, rfl⟩, Or.inl ⟨rfl, ?_, ?_⟩⟩
      · rw [h1, if_pos hmi]
      · rw [h2, hmi, Nat.sub_self]
    | false =>
      obtain ⟨n1, n2⟩ := hN i m hi (by omega) (by omega)
      obtain ⟨n3, n4⟩ := hN (m + 1) j (by omega) hj (by omega)
      rw [if_neg (show ¬ m - i = B 0 - 1 by omega)] at n2
      rw [if_neg (show ¬ j - (m + 1) = B 0 - 1 by omega)] at n4
      have hsum : (m - i) * (B 0 - 1) + (j - (m + 1)) * (B 0 - 1) + lenN B i j = VV (B 0) (j - i) := by
        rw [← Nat.add_mul, lenN_lt hij, show m - i + (j - (m + 1)) = j - i - 1 by omega]; rfl
      have i1 : (12 * nI i + nI m : Int32) = nI (12 * i + m) := by rw [lit 12, pk_mul, nI_add]
      have i2 : (12 * (nI m + 1) + nI j : Int32) = nI (12 * (m + 1) + j) := by rw [nI_inc, lit 12, pk_mul, nI_add]
      rw [if_pos (show bI false = 0 by decide), i1, i2]
      simp only [rdI_nI (show 12 * i + m < 144 by omega) (show 144 < 2 ^ 31 by decide), rdI_nI (show 12 * (m + 1) + j < 144 by omega) (show 144 < 2 ^ 31 by decide), n1, n2, n3, n4, len8 hM hB (show i < B 0 by omega) hj, bd1_some]
      rw [nI_add, nI_add, hsum, pk_mul, nI_inc]
      by_cases q : m = i
      · rw [if_pos q] at h1
        rw [add_less (show 12 * i + j < 144 by omega) (by decide) (by decide) h1 (by omega) (by omega), bd2_some]
        obtain ⟨BL', BM', k1, k2, k3⟩ := ih (m + 1) F (upd BL (12 * i + j) (nI (VV (B 0) (j - i)))) (upd BM (12 * i + j) (nI (1 * 1))) (by omega) (by omega) (by omega) (by rw [if_neg (by omega)]; exact pk_us) (by rw [show m + 1 - i = 1 * 1 by omega]; exact pk_us) (fun h => by rw [e] at h; exact absurd h (by decide))
        refine ⟨BL', BM', k1, fun x hx => ?_, by
          rcases k3 with ⟨z, _⟩ | ⟨_, z⟩
          · rw [e] at z; exact absurd z (by decide)
          · exact Or.inr ⟨trivial, z⟩⟩
        obtain ⟨a1, a2⟩ := k2 x hx
        rw [a1, a2]
        unfold upd
        rw [if_neg hx, if_neg hx]; exact ⟨rfl, rfl⟩
      · rw [if_neg q] at h1
        rw [add_eq (show 12 * i + j < 144 by omega) (by decide) (by decide) h1 (by omega) h2, bd2_some]
        obtain ⟨BL', BM', k1, k2, k3⟩ := ih (m + 1) F (upd BL (12 * i + j) (nI (VV (B 0) (j - i)))) (upd BM (12 * i + j) (nI (m - i + 1 * 1))) (by omega) (by omega) (by omega) (by rw [if_neg (by omega)]; exact pk_us) (by rw [show m + 1 - i = m - i + 1 * 1 by omega]; exact pk_us) (fun h => by rw [e] at h; exact absurd h (by decide))
        refine ⟨BL', BM', k1, fun x hx => ?_, by
          rcases k3 with ⟨z, _⟩ | ⟨_, z⟩
          · rw [e] at z; exact absurd z (by decide)
          · exact Or.inr ⟨trivial, z⟩⟩
        obtain ⟨a1, a2⟩ := k2 x hx
        rw [a1, a2]
        unfold upd
        rw [if_neg hx, if_neg hx]; exact ⟨rfl, rfl⟩
theorem nets_n {n : Nat} (h3 : 3 ≤ n) (h12 : n ≤ 12) {BL BM : Nat → Int32} {i j : Nat} (hij : i < j) (hj : j < n) (hBd : ∀ k, i < k → k ≤ j → cB n BL BM i k) (hfull : j - i = n - 1 → BL (12 * i + j) = nI ((j - i) * (n - 1)) ∧ BM (12 * i + j) = nI (n - 1))
    (K : (Nat → Int32) → (Nat → Int32) → Option ((Nat → Int32) × (Nat → Int32) × (Nat → Int32) × (Nat → Int32))) :
    ∀ r k F NL NM, k + r = j + 1 → i + 1 ≤ k → r < F → (∀ a b, a ≤ b → b < n → b - a < j - i → cN n NL NM a b) → NL (12 * i + j) = nI (if k = i + 1 then 1000000 else (j - i) * (n - 1)) → NM (12 * i + j) = nI (if k = i + 1 then 0 else if j - i = n - 1 ∧ k = j + 1 then n else 1) →
    ∃ NL' NM', fX8_laysNets_213 (nI i) (nI j) (nI (12 * i + j)) BL BM K F (nI k) NL NM = K NL' NM' ∧ (∀ x, x ≠ 12 * i + j → NL' x = NL x ∧ NM' x = NM x) ∧ cN n NL' NM' i j := by
  have hb : (j - i) * (n - 1) ≤ 144 := mulb (by omega) (by omega)
  intro r
  induction r with
  | zero =>
    intro k F NL NM hk hi hF hN h1 h2
    obtain ⟨F, rfl⟩ : ∃ m, F = m + 1 := ⟨F - 1, by omega⟩
    refine ⟨NL, NM, by rw [fX8_laysNets_213, if_pos (ilt (by omega) (by omega))], fun x _ => ⟨rfl, rfl⟩, ?_, ?_⟩
    · rw [h1, if_neg (by omega)]
    · rw [h2, if_neg (by omega)]
      by_cases q : j - i = n - 1
      · rw [if_pos ⟨q, by omega⟩, if_pos q]
      · rw [if_neg (fun h => q h.1), if_neg q]
  | succ r ih =>
    intro k F NL NM hk hi hF hN h1 h2
    obtain ⟨F, rfl⟩ : ∃ m, F = m + 1 := ⟨F - 1, by omega⟩
    obtain ⟨l, kk, b1, b2, b3, b4, b5, b6⟩ := hBd k (by omega) (by omega)
    obtain ⟨n1, n2⟩ := hN k j (by omega) hj (by omega)
    rw [if_neg (show ¬ j - k = n - 1 by omega)] at n2
    have hb2 : (j - k) * (n - 1) ≤ 144 := mulb (by omega) (by omega)
    have i1 : (12 * nI i + nI k : Int32) = nI (12 * i + k) := by rw [lit 12, pk_mul, nI_add]
    have i2 : (12 * nI k + nI j : Int32) = nI (12 * k + j) := by rw [lit 12, pk_mul, nI_add]
    rw [fX8_laysNets_213, if_neg (inlt (by omega) (by omega)), i1, i2]
    simp only [rdI_nI (show 12 * i + k < 144 by omega) (show 144 < 2 ^ 31 by decide), rdI_nI (show 12 * k + j < 144 by omega) (show 144 < 2 ^ 31 by decide), b1, b2, n1, n2]
    rw [nI_add, pk_mul, nI_inc, Nat.mul_one]
    have hsplit : (k - i) * (n - 1) + (j - k) * (n - 1) = (j - i) * (n - 1) := by rw [← Nat.add_mul, show k - i + (j - k) = j - i by omega]
    have same : fX8_adds 144 144 NL NM (nI (12 * i + j)) (nI (l + (j - k) * (n - 1))) (nI kk) = some (NL, NM) → k ≠ i + 1 → ¬ (j - i = n - 1 ∧ k = j) → ∃ NL' NM', (bd2 (fX8_adds 144 144 NL NM (nI (12 * i + j)) (nI (l + (j - k) * (n - 1))) (nI kk)) (fun t_netLength_55 t_netMany_56 => fX8_laysNets_213 (nI i) (nI j) (nI (12 * i + j)) BL BM K F (nI (k + 1)) t_netLength_55 t_netMany_56)) = K NL' NM' ∧ (∀ x, x ≠ 12 * i + j → NL' x = NL x ∧ NM' x = NM x) ∧ cN n NL' NM' i j := by
      intro ha hk1 hk2
      rw [ha, bd2_some]
      refine ih (k + 1) F NL NM (by omega) (by omega) (by omega) hN (by rw [if_neg (by omega), h1, if_neg hk1]) ?_
      rw [h2, if_neg hk1, if_neg (show ¬ k + 1 = i + 1 by omega), if_neg (show ¬ (j - i = n - 1 ∧ k = j + 1) by omega), if_neg (show ¬ (j - i = n - 1 ∧ k + 1 = j + 1) by omega)]
    have chg : ∀ x, x ≠ 12 * i + j → ∀ u v : Int32, upd NL (12 * i + j) u x = NL x ∧ upd NM (12 * i + j) v x = NM x := by
      intro x hx u v
      unfold upd
      rw [if_neg hx, if_neg hx]; exact ⟨rfl, rfl⟩
    have keepN : ∀ u v : Int32, ∀ a b, a ≤ b → b < n → b - a < j - i → cN n (upd NL (12 * i + j) u) (upd NM (12 * i + j) v) a b := by
      intro u v a b h5 h6 h7
      obtain ⟨c1, c2⟩ := hN a b h5 h6 h7
      obtain ⟨c3, c4⟩ := chg (12 * a + b) (by omega) u v
      exact ⟨by rw [c3]; exact c1, by rw [c4]; exact c2⟩
    by_cases q1 : k = i + 1
    · obtain ⟨b7, b8⟩ := b5 (by omega)
      rw [if_pos q1] at h1 h2
      have hits : l + (j - k) * (n - 1) = (j - i) * (n - 1) := by
        rw [← hsplit, show k - i = 1 by omega, Nat.one_mul, b7]
      rw [hits, b8, add_less (show 12 * i + j < 144 by omega) (by decide) (by decide) h1 (by omega) (by omega), bd2_some]
      obtain ⟨NL', NM', k1, k2, k3⟩ := ih (k + 1) F (upd NL (12 * i + j) (nI ((j - i) * (n - 1)))) (upd NM (12 * i + j) (nI 1)) (by omega) (by omega) (by omega) (keepN _ _) (by rw [if_neg (by omega)]; exact pk_us) (by rw [if_neg (by omega), if_neg (by omega)]; exact pk_us)
      refine ⟨NL', NM', k1, fun x hx => ?_, k3⟩
      obtain ⟨a1, a2⟩ := k2 x hx
      obtain ⟨a3, a4⟩ := chg x hx (nI ((j - i) * (n - 1))) (nI 1)
      exact ⟨a1.trans a3, a2.trans a4⟩
    · rw [if_neg q1] at h1
      by_cases q2 : j - i = n - 1 ∧ k = j
      · obtain ⟨f1, f2⟩ := hfull q2.1
        obtain rfl := q2.2
        have e1 : l = (k - i) * (n - 1) := (nI_eq (by omega) (by omega)).mp (b1.symm.trans f1)
        have e2 : kk = n - 1 := (nI_eq (by omega) (by omega)).mp (b2.symm.trans f2)
        have h2' : NM (12 * i + k) = nI 1 := by rw [h2, if_neg q1, if_neg (by omega)]
        rw [Nat.sub_self, Nat.zero_mul, Nat.add_zero, e1, e2, add_eq (show 12 * i + k < 144 by omega) (by omega) (by omega) h1 (by omega) h2', bd2_some]
        obtain ⟨NL', NM', k1, k2, k3⟩ := ih (k + 1) F (upd NL (12 * i + k) (nI ((k - i) * (n - 1)))) (upd NM (12 * i + k) (nI (1 + (n - 1)))) (by omega) (by omega) (by omega) (keepN _ _) (by rw [if_neg (by omega)]; exact pk_us) (by rw [if_neg (by omega), if_pos ⟨q2.1, rfl⟩, show 1 + (n - 1) = n by omega]; exact pk_us)
        refine ⟨NL', NM', k1, fun x hx => ?_, k3⟩
        obtain ⟨a1, a2⟩ := k2 x hx
        obtain ⟨a3, a4⟩ := chg x hx (nI ((k - i) * (n - 1))) (nI (1 + (n - 1)))
        exact ⟨a1.trans a3, a2.trans a4⟩
      · by_cases q3 : kk = 0
        · exact same (add_same q3) q1 q2
        · have hlt : k - i < n - 1 := by omega
          obtain ⟨b7, b8⟩ := b6 (by omega) hlt q3
          exact same (add_more (show 12 * i + j < 144 by omega) q3 (by omega) h1 (by omega) (by omega) (by omega)) q1 q2
def DN (n : Nat) (NL NM BL BM : Nat → Int32) (s i0 : Nat) : Prop := ∀ i j, i ≤ j → j < n → (j - i < s ∨ (j - i = s ∧ i < i0)) → cN n NL NM i j ∧ (i < j → cB n BL BM i j)
theorem nets_row {A : Nat → Int32} {B : Nat → Nat} (hM : MB A 0 B) (hB : WF B) (h3 : 3 ≤ B 0) {s : Nat} (hs : 1 ≤ s) (hs2 : s < B 0)
    (K : (Nat → Int32) → (Nat → Int32) → (Nat → Int32) → (Nat → Int32) → Option ((Nat → Int32) × (Nat → Int32) × (Nat → Int32) × (Nat → Int32))) :
    ∀ r i F NL NM BL BM, i + r = B 0 - s → r < F → DN (B 0) NL NM BL BM s i → ∃ NL' NM' BL' BM', fX8_laysNets_52 (nI s) A K F (nI i) NL NM BL BM = K NL' NM' BL' BM' ∧ DN (B 0) NL' NM' BL' BM' (s + 1) 0 := by
  have h12 := hB.1
  intro r
  induction r with
  | zero =>
    intro i F NL NM BL BM hi hF hD
    obtain ⟨F, rfl⟩ : ∃ m, F = m + 1 := ⟨F - 1, by omega⟩
    refine ⟨NL, NM, BL, BM, by rw [fX8_laysNets_52, rdA0 hM, nI_add, if_pos (ile (by omega) (by omega))], fun a b h1 h2 h4 => hD a b h1 h2 ?_⟩
    omega
  | succ r ih =>
    intro i F NL NM BL BM hi hF hD
    obtain ⟨F, rfl⟩ : ∃ m, F = m + 1 := ⟨F - 1, by omega⟩
    have hj : i + s < B 0 := by omega
    have ih0 : (12 * nI i + nI (i + s) : Int32) = nI (12 * i + (i + s)) := by rw [lit 12, pk_mul, nI_add]
    obtain ⟨v1, v2, v3, v4⟩ := VV_facts h3 h12 hs (show s ≤ B 0 - 1 by omega)
    rw [fX8_laysNets_52, rdA0 hM, nI_add, if_neg (inle (by omega) (by omega)), bnd_e, bnd_e, ih0]
    rw [wrI_nI (show 12 * i + (i + s) < 144 by omega) (by decide), wrI_nI (show 12 * i + (i + s) < 144 by omega) (by decide), wrI_nI (show 12 * i + (i + s) < 144 by omega) (by decide), wrI_nI (show 12 * i + (i + s) < 144 by omega) (by decide)]
    have hne : ∀ a b, a ≤ b → b < B 0 → ¬ (a = i ∧ b = i + s) → 12 * a + b ≠ 12 * i + (i + s) := by intro a b h1 h2 h4; omega
    have hupd : ∀ (f : Nat → Int32) x v, x ≠ 12 * i + (i + s) → upd f (12 * i + (i + s)) v x = f x := by intro f x v hx; unfold upd; rw [if_neg hx]
    have hN0 : ∀ a b, a ≤ b → b < B 0 → b - a < i + s - i → cN (B 0) (upd NL (12 * i + (i + s)) 1000000) (upd NM (12 * i + (i + s)) 0) a b := by
      intro a b h1 h2 h4
      obtain ⟨c1, c2⟩ := (hD a b h1 h2 (by omega)).1
      exact ⟨by rw [hupd _ _ _ (hne a b h1 h2 (by omega))]; exact c1, by rw [hupd _ _ _ (hne a b h1 h2 (by omega))]; exact c2⟩
    obtain ⟨BL', BM', p1, p2, p3⟩ := nets_b hM hB h3 (show i < i + s by omega) hj hN0 (fun (t_boundLength_43 : Nat → Int32) (t_boundMany_44 : Nat → Int32) => bnd (nI i + 1) (fun y_45 => fX8_laysNets_213 (nI i) (nI (i + s)) (nI (12 * i + (i + s))) t_boundLength_43 t_boundMany_44 (fun (t_netLength_58 : Nat → Int32) (t_netMany_59 : Nat → Int32) => fX8_laysNets_52 (nI s) A K F (nI i + 1) t_netLength_58 t_netMany_59 t_boundLength_43 t_boundMany_44) FU y_45 (upd NL (12 * i + (i + s)) 1000000) (upd NM (12 * i + (i + s)) 0)))
      s i FU (upd BL (12 * i + (i + s)) 1000000) (upd BM (12 * i + (i + s)) 0) (by omega) (by omega) (FU_big (by omega)) (by rw [if_pos rfl]; exact pk_us) (by rw [Nat.sub_self]; exact pk_us) (fun _ => rfl)
    rw [p1, bnd_e, nI_inc]
    rw [show i + s - i = s by omega] at p3
    have hcBnew : cB (B 0) BL' BM' i (i + s) := by
      unfold cB
      rw [show i + s - i = s by omega]
      rcases p3 with ⟨z1, z2, z3⟩ | ⟨z1, z2, z3⟩
      · refine ⟨1000000, 0, z2, z3, by omega, by omega, fun h => ?_, fun _ _ h => absurd rfl h⟩
        rw [slack_side hB (show i < i + s by omega) (Or.inl (by omega))] at z1
        exact absurd z1 (by decide)
      · exact ⟨VV (B 0) s, s, z2, z3, by omega, by omega, fun h => ⟨v2 h, h⟩, fun h1 h2 _ => ⟨v3 h1 h2, by omega⟩⟩
    have hcB : ∀ a b, a < b → b < B 0 → (b - a < s ∨ (b - a = s ∧ a < i + 1)) → cB (B 0) BL' BM' a b := by
      intro a b h1 h2 h4
      by_cases e : a = i ∧ b = i + s
      · rw [e.1, e.2]; exact hcBnew
      · obtain ⟨l, kk, c1, c2, c3⟩ := (hD a b (by omega) h2 (by omega)).2 h1
        obtain ⟨c4, c5⟩ := p2 (12 * a + b) (hne a b (by omega) h2 e)
        exact ⟨l, kk, by rw [c4, hupd _ _ _ (hne a b (by omega) h2 e)]; exact c1, by rw [c5, hupd _ _ _ (hne a b (by omega) h2 e)]; exact c2, c3⟩
    obtain ⟨NL', NM', r1, r2, r3⟩ := nets_n h3 h12 (show i < i + s by omega) hj (BL := BL') (BM := BM') (fun k h1 h2 => hcB i k h1 (by omega) (by omega)) (fun hf => by
      rw [show i + s - i = s by omega] at hf ⊢
      rcases p3 with ⟨z1, z2, z3⟩ | ⟨z1, z2, z3⟩
      · rw [slack_side hB (show i < i + s by omega) (Or.inr ⟨by omega, by omega⟩)] at z1
        exact absurd z1 (by decide)
      · exact ⟨by rw [z2, v4 hf], by rw [z3, hf]⟩) (fun (t_netLength_58 : Nat → Int32) (t_netMany_59 : Nat → Int32) => fX8_laysNets_52 (nI s) A K F (nI (i + 1)) t_netLength_58 t_netMany_59 BL' BM')
      s (i + 1) FU (upd NL (12 * i + (i + s)) 1000000) (upd NM (12 * i + (i + s)) 0) (by omega) (by omega) (FU_big (by omega)) hN0 (by rw [if_pos rfl]; exact pk_us) (by rw [if_pos rfl]; exact pk_us)
    rw [r1]
    refine ih (i + 1) F NL' NM' BL' BM' (by omega) (by omega) (fun a b h1 h2 h4 => ⟨?_, fun h5 => hcB a b h5 h2 h4⟩)
    by_cases e : a = i ∧ b = i + s
    · rw [e.1, e.2]; exact r3
    · obtain ⟨c1, c2⟩ := (hD a b h1 h2 (by omega)).1
      obtain ⟨c4, c5⟩ := r2 (12 * a + b) (hne a b h1 h2 e)
      exact ⟨by rw [c4, hupd _ _ _ (hne a b h1 h2 e)]; exact c1, by rw [c5, hupd _ _ _ (hne a b h1 h2 e)]; exact c2⟩
theorem nets_all {A : Nat → Int32} {B : Nat → Nat} (hM : MB A 0 B) (hB : WF B) (h3 : 3 ≤ B 0) :
    ∀ r s F NL NM BL BM, s + r = B 0 → 1 ≤ s → r < F → DN (B 0) NL NM BL BM s 0 → ∃ NL' NM' BL' BM', fX8_laysNets_40 A (fun (a : Nat → Int32) (b : Nat → Int32) (c : Nat → Int32) (d : Nat → Int32) => some (a, b, c, d)) F (nI s) NL NM BL BM = some (NL', NM', BL', BM') ∧ DN (B 0) NL' NM' BL' BM' (B 0) 0 := by
  have h12 := hB.1
  intro r
  induction r with
  | zero =>
    intro s F NL NM BL BM hs h1 hF hD
    obtain ⟨F, rfl⟩ : ∃ m, F = m + 1 := ⟨F - 1, by omega⟩
    obtain rfl : s = B 0 := by omega
    exact ⟨NL, NM, BL, BM, by rw [fX8_laysNets_40, rdA0 hM, if_pos (ile (by omega) (by omega))], hD⟩
  | succ r ih =>
    intro s F NL NM BL BM hs h1 hF hD
    obtain ⟨F, rfl⟩ : ∃ m, F = m + 1 := ⟨F - 1, by omega⟩
    rw [fX8_laysNets_40, rdA0 hM, if_neg (inle (by omega) (by omega)), nI_inc]
    obtain ⟨NL', NM', BL', BM', k1, k2⟩ := nets_row hM hB h3 h1 (by omega) (fun (t_netLength_60 : Nat → Int32) (t_netMany_61 : Nat → Int32) (t_boundLength_62 : Nat → Int32) (t_boundMany_63 : Nat → Int32) => fX8_laysNets_40 A (fun (a : Nat → Int32) (b : Nat → Int32) (c : Nat → Int32) (d : Nat → Int32) => some (a, b, c, d)) F (nI (s + 1)) t_netLength_60 t_netMany_61 t_boundLength_62 t_boundMany_63) (B 0 - s) 0 FU NL NM BL BM (by omega) (FU_big (by omega)) hD
    replace k1 : fX8_laysNets_52 (nI s) A (fun (t_netLength_60 : Nat → Int32) (t_netMany_61 : Nat → Int32) (t_boundLength_62 : Nat → Int32) (t_boundMany_63 : Nat → Int32) => fX8_laysNets_40 A (fun (a : Nat → Int32) (b : Nat → Int32) (c : Nat → Int32) (d : Nat → Int32) => some (a, b, c, d)) F (nI (s + 1)) t_netLength_60 t_netMany_61 t_boundLength_62 t_boundMany_63) FU 0 NL NM BL BM = _ := k1
    rw [k1]
    exact ih (s + 1) F NL' NM' BL' BM' (by omega) (by omega) (by omega) k2
theorem nets_init {A : Nat → Int32} {B : Nat → Nat} (hM : MB A 0 B) (hB : WF B) (K : (Nat → Int32) → (Nat → Int32) → Option ((Nat → Int32) × (Nat → Int32) × (Nat → Int32) × (Nat → Int32))) :
    ∀ r i F NL NM, i + r = B 0 → r < F → (∀ a, a < i → NL (13 * a) = nI 0 ∧ NM (13 * a) = nI 1) → ∃ NL' NM', fX8_laysNets_2 A K F (nI i) NL NM = K NL' NM' ∧ ∀ a, a < B 0 → NL' (13 * a) = nI 0 ∧ NM' (13 * a) = nI 1 := by
  have h12 := hB.1
  intro r
  induction r with
  | zero =>
    intro i F NL NM hi hF h
    obtain ⟨F, rfl⟩ : ∃ m, F = m + 1 := ⟨F - 1, by omega⟩
    obtain rfl : i = B 0 := by omega
    exact ⟨NL, NM, by rw [fX8_laysNets_2, rdA0 hM, if_pos (ile (by omega) (by omega))], h⟩
  | succ r ih =>
    intro i F NL NM hi hF h
    obtain ⟨F, rfl⟩ : ∃ m, F = m + 1 := ⟨F - 1, by omega⟩
    rw [fX8_laysNets_2, rdA0 hM, if_neg (inle (by omega) (by omega)), show (13 * nI i : Int32) = nI (13 * i) by rw [lit 13, pk_mul], wrI_nI (by omega) (by decide), wrI_nI (by omega) (by decide), nI_inc]
    refine ih (i + 1) F _ _ (by omega) (by omega) (fun a ha => ?_)
    unfold upd
    by_cases q : a = i
    · rw [if_pos (by rw [q]), if_pos (by rw [q])]; exact ⟨rfl, rfl⟩
    · rw [if_neg (by omega), if_neg (by omega)]; exact h a (by omega)
theorem nets8 {A : Nat → Int32} {B : Nat → Nat} (hM : MB A 0 B) (hB : WF B) (h3 : 3 ≤ B 0) (NL NM BL BM : Nat → Int32) : ∃ NL' NM' BL' BM', fX8_laysNets A NL NM BL BM = some (NL', NM', BL', BM') ∧ NL' (B 0 - 1) = nI ((B 0 - 1) * (B 0 - 1)) ∧ NM' (B 0 - 1) = nI (B 0) := by
  have h12 := hB.1
  unfold fX8_laysNets
  obtain ⟨NL1, NM1, i1, i2⟩ := nets_init hM hB (fun (t_netLength_8 : Nat → Int32) (t_netMany_9 : Nat → Int32) => fX8_laysNets_40 A (fun (t_netLength_64 : Nat → Int32) (t_netMany_65 : Nat → Int32) (t_boundLength_66 : Nat → Int32) (t_boundMany_67 : Nat → Int32) => some (t_netLength_64, t_netMany_65, t_boundLength_66, t_boundMany_67)) FU 1 t_netLength_8 t_netMany_9 BL BM) (B 0) 0 FU NL NM (by omega) (FU_big (by omega)) (fun a ha => absurd ha (by omega))
  replace i1 : fX8_laysNets_2 A (fun (t_netLength_8 : Nat → Int32) (t_netMany_9 : Nat → Int32) => fX8_laysNets_40 A (fun (t_netLength_64 : Nat → Int32) (t_netMany_65 : Nat → Int32) (t_boundLength_66 : Nat → Int32) (t_boundMany_67 : Nat → Int32) => some (t_netLength_64, t_netMany_65, t_boundLength_66, t_boundMany_67)) FU 1 t_netLength_8 t_netMany_9 BL BM) FU 0 NL NM = _ := i1
  obtain ⟨NL', NM', BL', BM', k1, k2⟩ := nets_all hM hB h3 (B 0 - 1) 1 FU NL1 NM1 BL BM (by omega) (by omega) (FU_big (by omega)) (fun a b h1 h2 h4 => by
    obtain rfl : a = b := by omega
    refine ⟨⟨?_, ?_⟩, fun h => absurd h (by omega)⟩
    · rw [show 12 * a + a = 13 * a by omega, Nat.sub_self, Nat.zero_mul]; exact (i2 a h2).1
    · rw [show 12 * a + a = 13 * a by omega, Nat.sub_self, if_neg (by omega)]; exact (i2 a h2).2)
  obtain ⟨c1, c2⟩ := (k2 0 (B 0 - 1) (by omega) (by omega) (by omega)).1
  rw [show 12 * 0 + (B 0 - 1) = B 0 - 1 by omega, Nat.sub_zero] at c1 c2
  rw [if_pos rfl] at c2
  exact ⟨NL', NM', BL', BM', i1.trans k1, c1, c2⟩
theorem st_web : Step_web Rel0 := by
  intro w0 w1 w2 w3 w4 w5 w6 w7 w8 w9 w10 w11 xt xn xf xp rs rz rv made im all has mt mn mf mp so ma nu th a1 a2 a3 a4 v hR
  obtain ⟨⟨B, hB, hM, hC⟩, hT, hF, hRw, hI⟩ := id hR
  obtain ⟨e0, -⟩ := id hC
  dsimp only at e0
  subst e0
  have h12 := hB.1
  have h03 := hB.2.1
  unfold fX7_web fX8_web
  rw [show (1 : Int64) = lN 1 from rfl]
  rcases within_rng v (show 1 < 2 ^ 31 by decide) with ⟨h1, h2⟩ | ⟨h1, h2, h3⟩ | ⟨k, hk, rfl, r1, r2, r3⟩
  · rw [if_pos h1, h2]
    exact ⟨-2, 0, a1, a2, a3, a4, rfl, rfl, hR⟩
  · rw [if_neg h1, if_neg (show ¬ v ≤ 1 from h2), h3]
    exact ⟨-2, 0, a1, a2, a3, a4, rfl, rfl, hR⟩
  · rw [if_neg r1, if_pos (show nI k ≤ 1 from r2), r3, bd1_some, if_neg (show ¬ (1 : Int32) = 0 by decide), rdA0 hM]
    rcases h03 with h0 | h3
    · rw [if_neg (show ¬ (1 : Int32) ≤ nI (B 0) by rw [h0]; decide), if_pos (show nI (B 0) = 0 by rw [h0]; rfl)]
      exact ⟨-5, 0, a1, a2, a3, a4, rfl, rfl, hR⟩
    · obtain ⟨NL', NM', BL', BM', g1, g2, g3⟩ := nets8 hM hB h3 a1 a2 a3 a4
      have hb : (B 0 - 1) * (B 0 - 1) ≤ 144 := mulb (by omega) (by omega)
      rw [if_pos (show (1 : Int32) ≤ nI (B 0) from ile (a := 1) (by omega) (by omega)), if_neg (show ¬ nI (B 0) = 0 from ine (b := 0) (by omega) (by omega) (by decide)), g1, bd4_some, rdA0 hM]
      simp only [bnd_e]
      rw [sub1 (by omega), rdI_nI (by omega) (by decide), rdI_nI (by omega) (by decide), rdI_nI (by omega) (by decide), g2, g3, pk_mul]
      have hk2 : k = 0 ∨ k = 1 := by omega
      rcases hk2 with rfl | rfl
      · exact ⟨nI ((B 0 - 1) * (B 0 - 1)), 0, NL', NM', BL', BM', if_pos rfl, by rw [if_neg (show ¬ nI 0 = 1 by decide), if_neg (show ¬ nI (B 0) = 0 from ine (b := 0) (by omega) (by omega) (by decide))], hR⟩
      · exact ⟨nI (B 0), 0, NL', NM', BL', BM', if_neg (show ¬ nI 1 = 0 by decide), if_pos rfl, hR⟩
