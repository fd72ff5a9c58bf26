-- uses:
/-! best, exchange -/
theorem nI_all (v : Int32) : ∃ y, y < 2 ^ 32 ∧ v = nI y := by
  refine ⟨v.toBitVec.toNat, v.toBitVec.isLt, Int32.toBitVec_inj.mp ?_⟩
  show v.toBitVec = BitVec.ofNat 32 v.toBitVec.toNat
  rw [BitVec.ofNat_toNat, BitVec.setWidth_eq]
theorem nI_zero {w : Nat} (hw : w < 2 ^ 32) : nI w = 0 ↔ w = 0 := by
  constructor
  · intro e
    have h : (BitVec.ofNat 32 w).toNat = (BitVec.ofNat 32 0).toNat := congrArg (fun x : Int32 => x.toBitVec.toNat) e
    rw [BitVec.toNat_ofNat, BitVec.toNat_ofNat, Nat.mod_eq_of_lt hw] at h
    simpa using h
  · intro e; rw [e]; rfl
theorem past_iff {y o : Nat} {q : Nat → Prop} (hy : y < 2 ^ 32) (ho : Bits o 12 q) : y &&& (o ^^^ (2 ^ 32 - 1)) = 0 ↔ ∀ k, y.testBit k = true → q k := by
  have h32 : ∀ k, y.testBit k = true → k < 32 := fun k hk => by
    rcases Nat.lt_or_ge k 32 with h | h
    · exact h
    · rw [Nat.testBit_lt_two_pow (Nat.lt_of_lt_of_le hy (Nat.pow_le_pow_right (by omega) h))] at hk
      exact absurd hk (by decide)
  constructor
  · intro e k hk
    have h1 : (y &&& (o ^^^ (2 ^ 32 - 1))).testBit k = false := by rw [e, Nat.zero_testBit]
    rw [Nat.testBit_and, hk, Nat.testBit_xor, Nat.testBit_two_pow_sub_one, decide_eq_true (h32 k hk)] at h1
    refine (ho.2 k).mp ?_
    cases e2 : o.testBit k with
    | true => rfl
    | false => rw [e2] at h1; exact absurd h1 (by decide)
  · intro h
    apply Nat.eq_of_testBit_eq
    intro k
    rw [Nat.zero_testBit, Nat.testBit_and, Nat.testBit_xor, Nat.testBit_two_pow_sub_one]
    cases e2 : y.testBit k with
    | false => rfl
    | true => rw [(ho.2 k).mpr (h k e2), decide_eq_true (h32 k e2)]; rfl
theorem bits_lt {y n : Nat} (h : ∀ k, y.testBit k = true → k < n) : y < 2 ^ n := by
  apply Nat.lt_pow_two_of_testBit
  intro i hi
  cases e : y.testBit i with
  | false => rfl
  | true => have := h i e; omega
theorem pow12 {n : Nat} (h : n ≤ 12) : 2 ^ n ≤ 4096 := Nat.le_trans (Nat.pow_le_pow_right (by omega) h) (by decide)
theorem past_eq {n a b : Nat} (hn : n ≤ 12) (ha : a < n) (hb : b < n) (z : Int32) {A : Nat → Int32} {B : Nat → Nat} (hM : MB A 0 B) (eB : B 0 = n) :
    ((¬ z &&& (((nI (2 ^ n - 1) &&& (nI (2 ^ a) ^^^ (-1))) &&& (nI (2 ^ b) ^^^ (-1))) ^^^ (-1)) = 0) ∧ (fX8_within z.toInt64 0 (nI (2 ^ n - 1)).toInt64 = some 0 ∨ (fX8_within z.toInt64 0 (nI (2 ^ n - 1)).toInt64 = some 1 ∧ ((z >>> (nI a &&& 31)) &&& 1 = 1 ∨ (z >>> (nI b &&& 31)) &&& 1 = 1)))) ∨
    (z &&& (((nI (2 ^ n - 1) &&& (nI (2 ^ a) ^^^ (-1))) &&& (nI (2 ^ b) ^^^ (-1))) ^^^ (-1)) = 0 ∧ fX8_within z.toInt64 0 (nI (2 ^ n - 1)).toInt64 = some 1 ∧ ¬ (z >>> (nI a &&& 31)) &&& 1 = 1 ∧ ¬ (z >>> (nI b &&& 31)) &&& 1 = 1 ∧ ∃ x, x < 2 ^ 12 ∧ z = nI x ∧ ¬ x.testBit a = true ∧ ¬ x.testBit b = true) := by
  have p12 := pow12 hn
  have p1 : 1 ≤ 2 ^ n := Nat.two_pow_pos n
  have bn : Bits (2 ^ n - 1) n (fun v => v < n) := ⟨Nat.sub_lt (Nat.two_pow_pos n) (by decide), fun k => by rw [Nat.testBit_two_pow_sub_one, decide_eq_true_eq]⟩
  have bo := (((bn.andnot (bits1 (show a < 12 by omega)) (by omega)).andnot (bits1 (show b < 12 by omega)) (by omega))).mono hn
  rw [not_nI, fa_and, not_nI, fa_and, not_nI]
  have hlim : (nI (2 ^ n - 1)).toInt64.toInt = ((2 ^ n - 1 : Nat) : Int) := by rw [Int32.toInt_toInt64, nI_toInt (by omega)]
  have e0 : (0 : Int64).toInt = 0 := rfl
  rw [within_eq, Int32.toInt_toInt64, hlim, e0]
  rcases rng z (N := 2 ^ n - 1) (by omega) with ⟨_, hd⟩ | ⟨_, _, hd⟩ | ⟨k, hk, rfl⟩
  · refine Or.inl ⟨fun hz => ?_, Or.inl (by rw [hd]; rfl)⟩
    obtain ⟨y, hy, rfl⟩ := nI_all z
    rw [fa_and, nI_zero (Nat.lt_of_le_of_lt Nat.and_le_left hy)] at hz
    have hb2 := bits_lt (fun k hk => ((past_iff hy bo).mp hz k hk).1.1)
    have := of_decide_eq_false hd
    rw [nI_toInt (by omega)] at this
    omega
  · refine Or.inl ⟨fun hz => ?_, Or.inl (by rw [hd]; rfl)⟩
    obtain ⟨y, hy, rfl⟩ := nI_all z
    rw [fa_and, nI_zero (Nat.lt_of_le_of_lt Nat.and_le_left hy)] at hz
    have hb2 := bits_lt (fun k hk => ((past_iff hy bo).mp hz k hk).1.1)
    have := of_decide_eq_false hd
    rw [nI_toInt (by omega)] at this
    omega
  · have hd := (rng_in hk (show 2 ^ n - 1 < 2 ^ 31 by omega)).2.2
    rw [hd, fa_and, nI_zero (Nat.lt_of_le_of_lt Nat.and_le_left (show k < 2 ^ 32 by omega)), past_iff (show k < 2 ^ 32 by omega) bo, bit_nI (show k < 2 ^ 30 by omega) (by omega), bit_nI (show k < 2 ^ 30 by omega) (by omega)]
    have hkn : ∀ j, k.testBit j = true → j < n := fun j hj => by
      rcases Nat.lt_or_ge j n with h | h
      · exact h
      · rw [Nat.testBit_lt_two_pow (Nat.lt_of_lt_of_le (show k < 2 ^ n by omega) (Nat.pow_le_pow_right (by omega) h))] at hj
        exact absurd hj (by decide)
    by_cases qa : k.testBit a = true
    · exact Or.inl ⟨fun h => (h a qa).1.2 rfl, Or.inr ⟨rfl, Or.inl qa⟩⟩
    · by_cases qb : k.testBit b = true
      · exact Or.inl ⟨fun h => (h b qb).2 rfl, Or.inr ⟨rfl, Or.inr qb⟩⟩
      · exact Or.inr ⟨fun j hj => ⟨⟨hkn j hj, fun e => qa (by rw [← e]; exact hj)⟩, fun e => qb (by rw [← e]; exact hj)⟩, rfl, qa, qb, k, by omega, rfl, qa, qb⟩
theorem whatc (v : Int32) : v = 0 ∨ v = 1 ∨ (∃ k, k < 12 ∧ v = nI (10 + k)) ∨ (¬ v = 0 ∧ ¬ v = 1 ∧ (v < 10 ∨ 22 ≤ v) ∧ fX8_within v.toInt64 0 1 = some 0 ∧ fX8_within v.toInt64 10 21 = some 0) := by
  have i0 : (0 : Int64).toInt = 0 := rfl
  have i1 : (1 : Int64).toInt = 1 := rfl
  have i10 : (10 : Int64).toInt = 10 := rfl
  have i21 : (21 : Int64).toInt = 21 := rfl
  have z0 : (0 : Int32).toInt = 0 := rfl
  have z1 : (1 : Int32).toInt = 1 := rfl
  have z10 : (10 : Int32).toInt = 10 := rfl
  have z22 : (22 : Int32).toInt = 22 := rfl
  rw [within_eq, within_eq, Int32.toInt_toInt64, i0, i1, i10, i21, ← Int32.toInt_inj, ← Int32.toInt_inj, z0, z1, Int32.lt_iff_toInt_lt, Int32.le_iff_toInt_le, z10, z22]
  by_cases h0 : v.toInt = 0
  · exact Or.inl h0
  · by_cases h1 : v.toInt = 1
    · exact Or.inr (Or.inl h1)
    · by_cases h2 : 10 ≤ v.toInt ∧ v.toInt < 22
      · refine Or.inr (Or.inr (Or.inl ⟨(v.toInt - 10).toNat, by omega, ?_⟩))
        apply Int32.toInt_inj.mp
        rw [nI_toInt (by omega)]
        omega
      · refine Or.inr (Or.inr (Or.inr ⟨h0, h1, by omega, ?_, ?_⟩))
        · rw [decide_eq_false (by omega)]; rfl
        · rw [decide_eq_false (by omega)]; rfl
theorem st_best : Step_best Rel0 := by
  intro w0 w1 w2 w3 w4 w5 w6 w7 w8 w9 w10 w11 xt xn xf xp rs rz rv made im all has mt mn mf mp so ma nu y0 y1 y2 y3 th ml mh mw mwl v u z x hR
  obtain ⟨⟨B, hB, hM, hC⟩, hT, hF, hRw, hI⟩ := id hR
  obtain ⟨e0, e4, e2, e3, e5, e1, ⟨m, P, em, hL⟩, hc, hw⟩ := id hC
  dsimp only at e0 e4 e2 e3 e5 e1 em hL hc hw
  subst e0 e4 e2 e3 e5 e1 em
  have h12 := hB.1
  have hh := hB.2.2.1
  unfold fX7_best fX8_best
  rw [jn2, two7w h12, two8w hM hB, bd1_some, bd1_some, bI_0', bI_0']
  cases hv : twB (B 0) v u with
  | false => exact ⟨-2, y0, y1, y2, y3, 0, ml, mh, mw, mwl, rfl, rfl, hR⟩
  | true =>
    obtain ⟨a, b, ha, hb, hab, rfl, rfl⟩ := twB_of h12 hv
    rw [if_pos rfl, if_pos rfl, jn_eq]
    rcases whatc x with hx | hx | ⟨k, hk, hx⟩ | ⟨x0, x1, x2, x3, x4⟩
    rotate_left 3
    · have hz : (if x < 10 then (0 : Int32) else if 22 ≤ x then 0 else 1) = 0 := by
        rcases x2 with h | h
        · rw [if_pos h]
        · by_cases h' : x < 10
          · rw [if_pos h']
          · rw [if_neg h', if_pos h]
      rw [if_neg x0, if_neg x1, if_pos hz, x3, bd1_some, jn_eq, if_pos rfl, x4]
      exact ⟨-2, y0, y1, y2, y3, 0, ml, mh, mw, mwl, rfl, rfl, hR⟩
    all_goals
      have hgo7 : ∀ {β : Type} (c0 c1 : β), (if x = 0 then c0 else if x = 1 then c0 else if (if x < 10 then (0 : Int32) else if 22 ≤ x then 0 else 1) = 0 then c1 else c0) = c0 := by
        intro β c0 c1
        subst hx
        first
          | exact if_pos rfl
          | (rw [if_neg (by decide)]; exact if_pos rfl)
          | (rw [lit 10, lit 22, if_neg (inlt (by omega) (by omega)), if_neg (inle (by omega) (by omega)), if_neg (show ¬ (1 : Int32) = 0 by decide)]; split <;> (try rfl); split <;> rfl)
      have hgo8 : ∀ {β : Type} (c0 c1 : Option β), bd1 (fX8_within x.toInt64 0 1) (fun r_4 => jn (β := β) c0 (fun k_6 => if r_4 = 0 then bd1 (fX8_within x.toInt64 10 21) (fun r_33 => if r_33 = 0 then c1 else k_6) else k_6)) = c0 := by
        intro β c0 c1
        subst hx
        first
          | (rw [show fX8_within (Int32.toInt64 0) 0 1 = some 1 by decide]; rfl)
          | (rw [show fX8_within (Int32.toInt64 1) 0 1 = some 1 by decide]; rfl)
          | (rw [within_eq, within_eq, Int32.toInt_toInt64, nI_toInt (by omega), bd1_some, jn_eq, bd1_some, show (0 : Int64).toInt = 0 from rfl, show (1 : Int64).toInt = 1 from rfl, show (10 : Int64).toInt = 10 from rfl, show (21 : Int64).toInt = 21 from rfl, decide_eq_false (by omega), decide_eq_true (by omega)]; rfl)
      rw [hgo7, hgo8]
      unfold fX1_everyWindow
      rw [bd1_some, bnd_e, sh1 (by omega), sh1 (by omega), sh1 (by omega), sub1 (Nat.two_pow_pos _), rdA0 hM, sh1 (by omega), sub1 (Nat.two_pow_pos _)]
      rcases past_eq h12 ha hb z hM rfl with ⟨c1, c2⟩ | ⟨c1, c2, c3, c4, y, hy, rfl, c5, c6⟩
      · rw [if_neg c1]
        rcases c2 with c2 | ⟨c2, c3⟩
        · rw [c2]
          exact ⟨-3, y0, y1, y2, y3, 0, ml, mh, mw, mwl, rfl, rfl, hR⟩
        · rw [c2, bd1_some, if_neg (show ¬ (1 : Int32) = 0 by decide)]
          refine ⟨-3, y0, y1, y2, y3, 0, ml, mh, mw, mwl, rfl, ?_, hR⟩
          rcases c3 with c3 | c3
          · rw [if_pos c3]
          · rw [if_pos c3]; split <;> rfl
      · obtain ⟨l', q', t1, t2, t3⟩ := take_ok hL hB hw (show B 1 < 100000 by omega) y0 y1 y2
        have hby : Bits y 12 (fun j => y.testBit j = true) := ⟨hy, fun _ => Iff.rfl⟩
        obtain ⟨rest, g1, g2⟩ := meas7 hB t2 t3 hb hby c6 y3
        obtain ⟨tl, tn, g3, g4⟩ := lay8 hM hB (show B 1 < 100000 by omega) hby hb ml mh
        have l7 := lossF7 (show a < 12 by omega) (g2 a (by omega)).2.1 (g2 a (by omega)).2.2
        have s7 := strF7 (show a < 12 by omega) (g2 a (by omega)).2.1 (g2 a (by omega)).2.2
        have o7 : ∀ k, k < 1000 → _ := fun k hk => onWay7 h12 t2 t3 (tk_hp hB) (tk_hc hB) g2 (show a < 12 by omega) (k := k) hk
        rw [if_pos c1, t1, bd3_some, g1, bd1_some, c2, bd1_some, if_neg (show ¬ (1 : Int32) = 0 by decide), if_neg c3, if_neg c4, rdA1 hM, g3, bd2_some, rdI_nI (by omega) (by decide), (g4 a (by omega)).2.2.1]
        have hdd : dst (qp (tk B (B 1)) (fun j => y.testBit j = true)) (lossN B) b a = dd B (B 1) (fun j => y.testBit j = true) b a := rfl
        cases hd : dd B (B 1) (fun j => y.testBit j = true) b a with
        | none =>
          rw [hd] at l7 s7
          rw [hdd, hd] at o7
          refine ⟨-1, nI (B 0), l', q', rest, 0, tl, tn, mw, mwl, ?_, if_pos rfl, hR⟩
          subst hx
          first
            | (rw [if_pos rfl, l7]; rfl)
            | (rw [if_neg (by decide), if_pos rfl, s7]; rfl)
            | (rw [if_neg (by rw [n0]; exact ine (by omega) (by omega) (by decide)), if_neg (by rw [n1]; exact ine (by omega) (by omega) (by decide)), lit 10, pk_sub (by omega), show 10 + k - 10 = k by omega, o7 k (by omega)]; rfl)
        | some d =>
          obtain ⟨L, h⟩ := d
          rw [hd] at l7 s7
          rw [hdd, hd] at o7
          obtain ⟨b1, b2⟩ := (g2 a (by omega)).2.1 L h hd
          have b3 := ((g4 a (by omega)).2.2.2 L h hd).2
          have hne : ¬ encL (some (L, h)) = 1000000 := by
            show ¬ nI L = 1000000
            rw [lit 1000000]; exact ine (by omega) (by omega) (by decide)
          obtain ⟨way, p1, p2⟩ := walks8 hM hB hby c6 g4 (show a < 12 by omega) hd mw mwl
          rw [if_neg hne, p1, bd2_some]
          subst hx
          first
            | exact ⟨nI L, nI (B 0), l', q', rest, 0, tl, tn, way, nI h, by rw [if_pos rfl, l7]; rfl, by rw [if_pos rfl, rdI_nI (by omega) (by decide), (g4 a (by omega)).2.2.1, hd]; rfl, hR⟩
            | exact ⟨nI h, nI (B 0), l', q', rest, 0, tl, tn, way, nI h, by rw [if_neg (by decide), if_pos rfl, s7]; rfl, by rw [if_neg (by decide), if_pos rfl], hR⟩
            | (rw [if_neg (by rw [n0]; exact ine (by omega) (by omega) (by decide)), if_neg (by rw [n1]; exact ine (by omega) (by omega) (by decide)), if_neg (by rw [n0]; exact ine (by omega) (by omega) (by decide)), if_neg (by rw [n1]; exact ine (by omega) (by omega) (by decide)), lit 10, pk_sub (by omega), show 10 + k - 10 = k by omega, o7 k (by omega), bd1_some]
               by_cases q : k ≤ h
               · exact ⟨nI (wyN (nxw (tk B (B 1)) (dst (qp (tk B (B 1)) (fun j => y.testBit j = true)) (lossN B) b) (lossN B)) a k), nI (B 0), l', q', rest, 0, tl, tn, way, nI h, by show some ((if k ≤ h then _ else _), _, _, _, _) = _; rw [if_pos q], by rw [if_neg (inlt q (by omega)), rdI_nI (by omega) (by decide), p2 k q], hR⟩
               · exact ⟨-1, nI (B 0), l', q', rest, 0, tl, tn, way, nI h, by show some ((if k ≤ h then _ else _), _, _, _, _) = _; rw [if_neg q], by rw [if_pos (ilt (by omega) (by omega))], hR⟩)
