-- uses:
/-! which places can be strung together -/
def indS (X : Nat → Nat → Bool) (c S : Nat) : Prop := ∀ i j, i < c → j < i → S.testBit i = true → S.testBit j = true → X i j = false
def cntS (S i k : Nat) : Nat := cntF (fun b => S.testBit b) i k
def lngS (LN : Nat → Nat) (S i k : Nat) : Nat := sumF (fun b => if S.testBit b then LN b else 0) i k
def RK (LN : Nat → Nat) (c S : Nat) : Nat := (12 - cntS S 0 c) * 4096000 + lngS LN S 0 c * 4096 + S
theorem cntF_add (p : Nat → Bool) : ∀ k l i, cntF p i (k + l) = cntF p i k + cntF p (i + k) l
  | 0, l, i => by rw [Nat.zero_add, Nat.add_zero, cntF, Nat.zero_add]
  | k + 1, l, i => by rw [show k + 1 + l = (k + l) + 1 by omega, cntF, cntF, cntF_add p k l (i + 1), show i + 1 + k = i + (k + 1) by omega, Nat.add_assoc]
theorem sumF_add (p : Nat → Nat) : ∀ k l i, sumF p i (k + l) = sumF p i k + sumF p (i + k) l
  | 0, l, i => by rw [Nat.zero_add, Nat.add_zero, sumF, Nat.zero_add]
  | k + 1, l, i => by rw [show k + 1 + l = (k + l) + 1 by omega, sumF, sumF, sumF_add p k l (i + 1), show i + 1 + k = i + (k + 1) by omega, Nat.add_assoc]
theorem sumF_congr {p q : Nat → Nat} : ∀ k i, (∀ j, i ≤ j → j < i + k → p j = q j) → sumF p i k = sumF q i k
  | 0, i, _ => rfl
  | k + 1, i, h => by rw [sumF, sumF, h i (by omega) (by omega), sumF_congr k (i + 1) (fun j h1 h2 => h j (by omega) (by omega))]
theorem cntS_out {S c : Nat} (hc : c ≤ 12) (h : S < 2 ^ c) : cntS S 0 12 = cntS S 0 c := by
  unfold cntS
  have e := cntF_add (fun b => S.testBit b) c (12 - c) 0
  rw [show c + (12 - c) = 12 by omega] at e
  have z : cntF (fun b => S.testBit b) (0 + c) (12 - c) = cntF (fun _ => false) (0 + c) (12 - c) := cntF_congr _ _ (fun j h1 h2 => Nat.testBit_lt_two_pow (Nat.lt_of_lt_of_le h (Nat.pow_le_pow_right (by omega) (by omega))))
  have z2 : ∀ k i, cntF (fun _ => false) i k = 0 := by
    intro k
    induction k with
    | zero => intro i; rfl
    | succ k ih => intro i; rw [cntF, ih]; rfl
  rw [e, z, z2]; rfl
theorem lngS_le {LN : Nat → Nat} {c S : Nat} (hc : c ≤ 12) (hL : ∀ j, j < c → LN j ≤ 36) (i k : Nat) (hk : i + k ≤ c) : lngS LN S i k ≤ 432 := by
  have := sumF_le (f := fun b => if S.testBit b then LN b else 0) (M := 36) k i (fun j h1 h2 => by
    have := hL j (by omega)
    show (if S.testBit j then LN j else 0) ≤ 36
    split <;> omega)
  have h2 : k * 36 ≤ 12 * 36 := Nat.mul_le_mul_right _ (by omega)
  unfold lngS
  omega
theorem RK_inj {LN : Nat → Nat} {c S T : Nat} (hc : c ≤ 12) (hL : ∀ j, j < c → LN j ≤ 36) (h1 : S < 2 ^ c) (h2 : T < 2 ^ c) (e : RK LN c S = RK LN c T) : S = T := by
  have p := pow12 hc
  have a1 := lngS_le (S := S) hc hL 0 c (by omega)
  have a2 := lngS_le (S := T) hc hL 0 c (by omega)
  unfold RK at e
  omega
theorem some_eq' {S S2 : Nat} {st : Option Nat} (e : st = some S) (hS : st = some S2) : S = S2 := by
  rw [e] at hS
  simpa using hS
/-- what may still come to a choice -/
def Ext (X : Nat → Nat → Bool) (c place bits T : Nat) : Prop := T < 2 ^ c ∧ indS X c T ∧ ∀ i, i < place → T.testBit i = bits.testBit i
theorem bit_hi {b n i : Nat} (h : b < 2 ^ n) (hi : n ≤ i) : b.testBit i = false := Nat.testBit_lt_two_pow (Nat.lt_of_lt_of_le h (Nat.pow_le_pow_right (by omega) hi))
def DR (X : Nat → Nat → Bool) (LN : Nat → Nat) (c : Nat) (st : Option Nat) (m l p : Int32) : Prop := (st = none ∧ m = -1) ∨ ∃ S, st = some S ∧ S < 2 ^ c ∧ indS X c S ∧ m = nI (cntS S 0 c) ∧ l = nI (lngS LN S 0 c) ∧ p = nI S
def Res (X : Nat → Nat → Bool) (LN : Nat → Nat) (c place bits : Nat) (st : Option Nat) (r : Option (Int32 × Int32 × Int32)) : Prop := ∃ S', r = some (nI (cntS S' 0 c), nI (lngS LN S' 0 c), nI S') ∧ S' < 2 ^ c ∧ indS X c S' ∧ (∀ T, Ext X c place bits T → RK LN c S' ≤ RK LN c T) ∧ ∀ S, st = some S → RK LN c S' ≤ RK LN c S
theorem compare7 {X : Nat → Nat → Bool} {LN : Nat → Nat} {c bits : Nat} {st : Option Nat} {m l p : Int32} (hc : c ≤ 12) (hL : ∀ j, j < c → LN j ≤ 36) (hD : DR X LN c st m l p) (hb : bits < 2 ^ c) (hi : indS X c bits) : Res X LN c c bits st (fX0_compare m l p (nI (cntS bits 0 c)) (nI (lngS LN bits 0 c)) (nI bits)) := by
  have pw := pow12 hc
  have a1 := lngS_le (S := bits) hc hL 0 c (by omega)
  have a2 : cntS bits 0 c ≤ c := cntF_le _ _ _
  have hext : ∀ T, Ext X c c bits T → T = bits := by
    rintro T ⟨t1, t2, t3⟩
    apply Nat.eq_of_testBit_eq
    intro i
    by_cases q : i < c
    · exact t3 i q
    · rw [bit_hi t1 (by omega), bit_hi hb (by omega)]
  unfold fX0_compare
  simp only [jn_eq]
  rcases hD with ⟨e, rfl⟩ | ⟨S, e, s1, s2, rfl, rfl, rfl⟩
  · have hlt : (-1 : Int32) < nI (cntS bits 0 c) := by
      rw [Int32.lt_iff_toInt_lt, nI_toInt (by omega)]; show (-1 : Int) < _; omega
    refine ⟨bits, ?_, hb, hi, fun T hT => by rw [hext T hT]; exact Nat.le_refl _, fun S hS => by rw [e] at hS; exact absurd hS (by simp)⟩
    simp only [hlt, if_true]
    split
    · split <;> rfl
    · rfl
  · have b1 := lngS_le (S := S) hc hL 0 c (by omega)
    have b2 : cntS S 0 c ≤ c := cntF_le _ _ _
    have hnew : RK LN c bits ≤ RK LN c S → ∀ r, r = some (nI (cntS bits 0 c), nI (lngS LN bits 0 c), nI bits) → Res X LN c c bits st r := fun h r hr => ⟨bits, hr, hb, hi, fun T hT => by rw [hext T hT]; exact Nat.le_refl _, fun S2 hS => by rw [← some_eq' e hS]; exact h⟩
    have hold : RK LN c S ≤ RK LN c bits → ∀ r, r = some (nI (cntS S 0 c), nI (lngS LN S 0 c), nI S) → Res X LN c c bits st r := fun h r hr => ⟨S, hr, s1, s2, fun T hT => by rw [hext T hT]; exact h, fun S2 hS => by rw [← some_eq' e hS]; exact Nat.le_refl _⟩
    have er1 : RK LN c bits = (12 - cntS bits 0 c) * 4096000 + lngS LN bits 0 c * 4096 + bits := rfl
    have er2 : RK LN c S = (12 - cntS S 0 c) * 4096000 + lngS LN S 0 c * 4096 + S := rfl
    generalize cntS bits 0 c = c1 at *
    generalize lngS LN bits 0 c = l1 at *
    generalize cntS S 0 c = c2 at *
    generalize lngS LN S 0 c = l2 at *
    by_cases q1 : c2 < c1
    · refine hnew (by omega) _ ?_
      rw [if_neg (ine (by omega) (by omega) (by omega)), if_pos (ilt q1 (by omega))]
    · by_cases q2 : c1 = c2
      · subst q2
        rw [if_pos rfl]
        by_cases q3 : l1 = l2
        · subst q3
          rw [if_pos rfl, if_neg (inlt (Nat.le_refl _) (by omega)), if_neg (inlt (Nat.le_refl _) (by omega)), if_neg (show ¬ (1 : Int32) = 0 by decide)]
          by_cases q4 : S ≤ bits
          · rw [if_pos (ile q4 (by omega))]
            exact hold (by omega) _ (if_pos rfl)
          · rw [if_neg (inle (by omega) (by omega))]
            exact hnew (by omega) _ (if_pos rfl)
        · rw [if_neg (ine q3 (by omega) (by omega)), if_neg (inlt (Nat.le_refl _) (by omega))]
          by_cases q4 : l1 < l2
          · rw [if_pos (ilt q4 (by omega))]
            exact hnew (by omega) _ (if_pos rfl)
          · rw [if_neg (inlt (by omega) (by omega)), if_pos rfl]
            exact hold (by omega) _ rfl
      · refine hold (by omega) _ ?_
        rw [if_neg (ine q2 (by omega) (by omega)), if_neg (inlt (by omega) (by omega)), if_neg (ine q2 (by omega) (by omega)), if_pos trivial]
theorem decide7 {X : Nat → Nat → Bool} {LN : Nat → Nat} {c : Nat} {lens crs : Nat → Int32} (hc : c ≤ 12) (hL : ∀ j, j < c → LN j ≤ 36) (hlen : ∀ j, j < c → lens j = nI (LN j)) (hcr : ∀ j, j < c → ∃ x, crs j = nI x ∧ Bits x 12 (fun i => i < c ∧ X j i = true)) :
    ∀ r place d st m l p bits, place + r = c → r < d → DR X LN c st m l p → bits < 2 ^ place → indS X c bits → Res X LN c place bits st (fX0_decide d lens crs (nI c) m l p (nI place) (nI (cntS bits 0 place)) (nI (lngS LN bits 0 place)) (nI bits)) := by
  have pw := pow12 hc
  intro r
  induction r with
  | zero =>
    intro place d st m l p bits hr hd hD hb hi
    obtain ⟨d, rfl⟩ : ∃ n, d = n + 1 := ⟨d - 1, by omega⟩
    obtain rfl : place = c := by omega
    have a2 : cntS bits 0 place ≤ place := cntF_le _ _ _
    obtain ⟨S', k1, k2⟩ := compare7 hc hL hD hb hi
    rw [fX0_decide]
    unfold fX0_decide_b
    rw [nI_add, pk_sub (by omega), show cntS bits 0 place + place - place = cntS bits 0 place by omega, if_neg (show ¬ nI place < nI place from inlt (Nat.le_refl _) (by omega)), k1, bd3_some]
    by_cases hp : m ≤ nI (cntS bits 0 place)
    · rw [if_pos hp]
      exact ⟨S', rfl, k2⟩
    · rw [if_neg hp]
      rcases hD with ⟨e, rfl⟩ | ⟨S, e, s1, s2, rfl, rfl, rfl⟩
      · exfalso; apply hp; rw [Int32.le_iff_toInt_le, nI_toInt (by omega)]; show (-1 : Int) ≤ _; omega
      · have b2 : cntS S 0 place ≤ place := cntF_le _ _ _
        have hlt : cntS bits 0 place < cntS S 0 place := by
          rcases Nat.lt_or_ge (cntS bits 0 place) (cntS S 0 place) with h | h
          · exact h
          · exact absurd (ile h (by omega)) hp
        refine ⟨S, rfl, s1, s2, fun T hT => ?_, fun S2 hS => by rw [← some_eq' e hS]; exact Nat.le_refl _⟩
        obtain ⟨t1, t2, t3⟩ := hT
        have hTb : T = bits := by
          apply Nat.eq_of_testBit_eq
          intro i
          by_cases q : i < place
          · exact t3 i q
          · rw [bit_hi t1 (by omega), bit_hi hb (by omega)]
        have a1 := lngS_le (S := S) hc hL 0 place (by omega)
        rw [hTb]
        unfold RK
        omega
  | succ r ih =>
    intro place d st m l p bits hr hd hD hb hi
    obtain ⟨d, rfl⟩ : ∃ n, d = n + 1 := ⟨d - 1, by omega⟩
    have hpc : place < c := by omega
    have a2 : cntS bits 0 place ≤ place := cntF_le _ _ _
    have a3 := lngS_le (S := bits) hc hL 0 place (by omega)
    have hbc : bits < 2 ^ c := Nat.lt_of_lt_of_le hb (Nat.pow_le_pow_right (by omega) (by omega))
    have hbp1 : bits < 2 ^ (place + 1) := Nat.lt_of_lt_of_le hb (Nat.pow_le_pow_right (by omega) (by omega))
    have hbit0 : bits.testBit place = false := bit_hi hb (Nat.le_refl _)
    rw [fX0_decide]
    unfold fX0_decide_b
    rw [nI_add, pk_sub (by omega), if_pos (show nI place < nI c from ilt hpc (by omega))]
    by_cases hp : m ≤ nI (cntS bits 0 place + c - place)
    · rw [if_pos hp]
      obtain ⟨x, x1, x2⟩ := hcr place hpc
      -- without the place
      have c0 : cntS bits 0 (place + 1) = cntS bits 0 place := by
        unfold cntS
        rw [cntF_add, Nat.zero_add, cntF, cntF, hbit0]; rfl
      have l0 : lngS LN bits 0 (place + 1) = lngS LN bits 0 place := by
        unfold lngS
        rw [sumF_add, Nat.zero_add, sumF, sumF, hbit0]; rfl
      have second : ∀ st' m' l' p', DR X LN c st' m' l' p' → Res X LN c (place + 1) bits st' (fX0_decide d lens crs (nI c) m' l' p' (nI place + 1) (nI (cntS bits 0 place)) (nI (lngS LN bits 0 place)) (nI bits)) := by
        intro st' m' l' p' hD'
        have := ih (place + 1) d st' m' l' p' bits (by omega) (by omega) hD' hbp1 hi
        rw [c0, l0, ← nI_inc] at this
        exact this
      have hx12 := x2.1
      have hb12 : bits < 4096 := by omega
      rw [rdI_nI (by omega) (by decide), x1, jn_eq, rdI_nI (by omega) (by decide), hlen place hpc, fa_and]
      have bz := x2.and (⟨show bits < 2 ^ 12 from hb12, fun k => Iff.rfl⟩ : Bits bits 12 (fun k => bits.testBit k = true))
      have bz12 := bz.1
      by_cases hz : x &&& bits = 0
      · rw [hz, if_pos (show nI 0 = 0 from rfl)]
        -- with the place
        have hbits : ∀ k, (bits ||| 2 ^ place).testBit k = (bits.testBit k || decide (k = place)) := fun k => fb_bit_set bits place k
        have hnew : indS X c (bits ||| 2 ^ place) := by
          intro i j hi1 hj1 g1 g2
          rw [hbits, Bool.or_eq_true, decide_eq_true_eq] at g1 g2
          have hlow : ∀ k, bits.testBit k = true → k < place := fun k hk => by
            rcases Nat.lt_or_ge k place with h | h
            · exact h
            · rw [bit_hi hb h] at hk; exact absurd hk (by decide)
          rcases g1 with g1 | g1
          · rcases g2 with g2 | g2
            · exact hi i j hi1 hj1 g1 g2
            · have := hlow i g1; omega
          · rcases g2 with g2 | g2
            · subst g1
              cases hX : X i j with
              | false => rfl
              | true => exact absurd ⟨⟨by omega, hX⟩, g2⟩ (bits_empty bz hz j)
            · omega
        have c1 : cntS (bits ||| 2 ^ place) 0 (place + 1) = cntS bits 0 place + 1 := by
          unfold cntS
          rw [cntF_add, Nat.zero_add, cntF, cntF, hbits place, decide_eq_true rfl, Bool.or_true]
          rw [cntF_congr (p := fun b => (bits ||| 2 ^ place).testBit b) (q := fun b => bits.testBit b) place 0 (fun j _ hj => by rw [hbits, decide_eq_false (by omega), Bool.or_false])]
          rfl
        have l1 : lngS LN (bits ||| 2 ^ place) 0 (place + 1) = lngS LN bits 0 place + LN place := by
          unfold lngS
          rw [sumF_add, Nat.zero_add, sumF, sumF, hbits place, decide_eq_true rfl, Bool.or_true]
          rw [sumF_congr (p := fun b => if (bits ||| 2 ^ place).testBit b then LN b else 0) (q := fun b => if bits.testBit b then LN b else 0) place 0 (fun j _ hj => by rw [hbits, decide_eq_false (by omega), Bool.or_false])]
          simp
        have first := ih (place + 1) d st m l p (bits ||| 2 ^ place) (by omega) (by omega) hD (Nat.or_lt_two_pow hbp1 (Nat.pow_lt_pow_right (by omega) (by omega))) hnew
        rw [c1, l1, ← nI_inc, ← nI_inc, ← nI_add, ← fa_or, ← sh1 (show place < 31 by omega)] at first
        obtain ⟨S1, k1, k2, k3, k4, k5⟩ := first
        obtain ⟨S2, j1, j2, j3, j4, j5⟩ := second (some S1) _ _ _ (Or.inr ⟨S1, rfl, k2, k3, rfl, rfl, rfl⟩)
        rw [k1, bd3_some]
        dsimp only
        rw [j1, bd3_some]
        refine ⟨S2, rfl, j2, j3, fun T hT => ?_, fun S hS => Nat.le_trans (j5 S1 rfl) (k5 S hS)⟩
        obtain ⟨t1, t2, t3⟩ := hT
        cases hTp : T.testBit place with
        | true =>
          refine Nat.le_trans (j5 S1 rfl) (k4 T ⟨t1, t2, fun i hi2 => ?_⟩)
          rw [hbits]
          by_cases q : i = place
          · rw [q, hTp, decide_eq_true rfl, Bool.or_true]
          · rw [decide_eq_false q, Bool.or_false]; exact t3 i (by omega)
        | false =>
          refine j4 T ⟨t1, t2, fun i hi2 => ?_⟩
          by_cases q : i = place
          · rw [q, hTp, hbit0]
          · exact t3 i (by omega)
      · rw [if_neg (by rw [n0]; exact ine hz (by omega) (by decide))]
        obtain ⟨S2, j1, j2, j3, j4, j5⟩ := second st m l p hD
        dsimp only
        rw [j1, bd3_some]
        refine ⟨S2, rfl, j2, j3, fun T hT => ?_, j5⟩
        obtain ⟨t1, t2, t3⟩ := hT
        refine j4 T ⟨t1, t2, fun i hi2 => ?_⟩
        by_cases q : i = place
        · rw [q, hbit0]
          cases hTp : T.testBit place with
          | false => rfl
          | true =>
            obtain ⟨j, ⟨g1, g2⟩, g3⟩ := bits_some bz hz
            have hjp : j < place := by
              rcases Nat.lt_or_ge j place with h | h
              · exact h
              · rw [bit_hi hb h] at g3; exact absurd g3 (by decide)
            have := t2 place j hpc hjp hTp (by rw [t3 j hjp]; exact g3)
            rw [g2] at this
            exact absurd this (by decide)
        · exact t3 i (by omega)
    · rw [if_neg hp]
      rcases hD with ⟨e, rfl⟩ | ⟨S, e, s1, s2, rfl, rfl, rfl⟩
      · exfalso; apply hp; rw [Int32.le_iff_toInt_le, nI_toInt (by omega)]; show (-1 : Int) ≤ _; omega
      · have b2 : cntS S 0 c ≤ c := cntF_le _ _ _
        have hlt : cntS bits 0 place + c - place < cntS S 0 c := by
          rcases Nat.lt_or_ge (cntS bits 0 place + c - place) (cntS S 0 c) with h | h
          · exact h
          · exact absurd (ile h (by omega)) hp
        refine ⟨S, rfl, s1, s2, fun T hT => ?_, fun S2 hS => by rw [← some_eq' e hS]; exact Nat.le_refl _⟩
        obtain ⟨t1, t2, t3⟩ := hT
        have hcT : cntS T 0 c ≤ cntS bits 0 place + (c - place) := by
          unfold cntS
          have e1 := cntF_add (fun b => T.testBit b) place (c - place) 0
          rw [show place + (c - place) = c by omega] at e1
          have e2 : cntF (fun b => T.testBit b) 0 place = cntF (fun b => bits.testBit b) 0 place := cntF_congr _ _ (fun j _ hj => t3 j (by omega))
          have e3 := cntF_le (fun b => T.testBit b) (c - place) (0 + place)
          omega
        have a1 := lngS_le (S := S) hc hL 0 c (by omega)
        unfold RK
        omega
