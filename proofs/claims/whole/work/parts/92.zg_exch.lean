-- uses:
/-! the exchange -/
def lsN (o : Option (Nat × Nat)) : Nat := match o with
  | none => 0
  | some (L, _) => L
def exB (D : Nat → Option (Nat × Nat)) (w m k : Nat) : Bool := !decide (k = w) && hdB (D k) m
def exC (D : Nat → Option (Nat × Nat)) (w m i k : Nat) : Nat := cntF (exB D w m) i k
def exL (D : Nat → Option (Nat × Nat)) (w m i k : Nat) : Nat := sumF (fun k => if exB D w m k then lsN (D k) else 0) i k
theorem sumF_le {f : Nat → Nat} {M : Nat} : ∀ k i, (∀ j, i ≤ j → j < i + k → f j ≤ M) → sumF f i k ≤ k * M
  | 0, _, _ => by rw [Nat.zero_mul]; exact Nat.le_refl _
  | k + 1, i, h => by
    have h1 := h i (by omega) (by omega)
    have h2 := sumF_le k (i + 1) (fun j a b => h j (by omega) (by omega))
    rw [sumF, Nat.succ_mul]; omega
theorem lsN_le {o : Option (Nat × Nat)} (h : DB o) : lsN o ≤ 1755 := by
  cases o with
  | none => exact Nat.zero_le _
  | some d => obtain ⟨L, k⟩ := d; exact (h L k rfl).2
theorem hd_some {o : Option (Nat × Nat)} {m : Nat} (h : hdB o m = true) : encL o = nI (lsN o) := by
  cases o with
  | none => exact absurd h (by simp [hdB])
  | some d => rfl
theorem exC7 {D : Nat → Option (Nat × Nat)} {rest : Nat → Int32} {n w m : Nat} (hn : n ≤ 12) (hm : m ≤ 999) (hw : w < n) (h7 : ∀ v, v < 12 → DB (D v) ∧ rest v = encC (D v)) : fX6_heardCount (nI n) rest (nI w) (nI m) = some (nI (exC D w m 0 n)) := by
  have loop : ∀ k i F c, i + k = n → k < F → fX6_heardCount_5 (nI w) (nI m) (nI n) rest (fun (w_6 : Int32) => some w_6) F (nI c) (nI i) = some (nI (c + exC D w m i k)) := by
    intro k
    induction k with
    | zero =>
      intro i F c hi hF
      obtain ⟨F, rfl⟩ : ∃ m, F = m + 1 := ⟨F - 1, by omega⟩
      rw [fX6_heardCount_5, if_pos (ile (by omega) (by omega))]; rfl
    | succ k ih =>
      intro i F c hi hF
      obtain ⟨F, rfl⟩ : ∃ m, F = m + 1 := ⟨F - 1, by omega⟩
      have g7 := h7 i (by omega)
      rw [fX6_heardCount_5, if_neg (inle (by omega) (by omega)), heardF7 (by omega) g7.1 g7.2 hm, bd1_some, bI_0', nI_inc, nI_inc]
      have e : exC D w m i (k + 1) = (if exB D w m i then 1 else 0) + exC D w m (i + 1) k := rfl
      rw [e]
      by_cases q : i = w
      · rw [if_pos (by rw [q]), ih _ _ _ (by omega) (by omega)]
        have : exB D w m i = false := by unfold exB; rw [decide_eq_true q]; rfl
        rw [this]; simp
      · rw [if_neg (ine q (by omega) (by omega))]
        have : exB D w m i = hdB (D i) m := by unfold exB; rw [decide_eq_false q]; rfl
        rw [this]
        cases hdB (D i) m with
        | false => simp only [Bool.false_eq_true, if_false]; rw [ih _ _ _ (by omega) (by omega), Nat.zero_add]
        | true => simp only [if_true]; rw [ih _ _ _ (by omega) (by omega), Nat.add_assoc]
  unfold fX6_heardCount
  have := loop n 0 FU 0 (by omega) (FU_big (by omega))
  rw [Nat.zero_add] at this
  exact this
theorem exL7 {D : Nat → Option (Nat × Nat)} {rest : Nat → Int32} {n w m : Nat} (hn : n ≤ 12) (hm : m ≤ 999) (hw : w < n) (h7 : ∀ v, v < 12 → DB (D v) ∧ rest v = encC (D v)) : fX6_heardLoss (nI n) rest (nI w) (nI m) = some (nI (exL D w m 0 n)) := by
  have loop : ∀ k i F c, i + k = n → k < F → fX6_heardLoss_5 (nI w) (nI m) (nI n) rest (fun (w_9 : Int32) => some w_9) F (nI c) (nI i) = some (nI (c + exL D w m i k)) := by
    intro k
    induction k with
    | zero =>
      intro i F c hi hF
      obtain ⟨F, rfl⟩ : ∃ m, F = m + 1 := ⟨F - 1, by omega⟩
      rw [fX6_heardLoss_5, if_pos (ile (by omega) (by omega))]; rfl
    | succ k ih =>
      intro i F c hi hF
      obtain ⟨F, rfl⟩ : ∃ m, F = m + 1 := ⟨F - 1, by omega⟩
      have g7 := h7 i (by omega)
      rw [fX6_heardLoss_5, if_neg (inle (by omega) (by omega)), heardF7 (by omega) g7.1 g7.2 hm, bd1_some, bI_0', lossF7 (by omega) g7.1 g7.2, bd1_some, bnd_e, nI_inc]
      have e : exL D w m i (k + 1) = (if exB D w m i then lsN (D i) else 0) + exL D w m (i + 1) k := rfl
      rw [e]
      by_cases q : i = w
      · rw [if_pos (by rw [q]), ih _ _ _ (by omega) (by omega)]
        have : exB D w m i = false := by unfold exB; rw [decide_eq_true q]; rfl
        rw [this]; simp
      · rw [if_neg (ine q (by omega) (by omega))]
        have : exB D w m i = hdB (D i) m := by unfold exB; rw [decide_eq_false q]; rfl
        rw [this]
        cases hd : hdB (D i) m with
        | false => simp only [Bool.false_eq_true, if_false]; rw [ih _ _ _ (by omega) (by omega), Nat.zero_add]
        | true =>
          simp only [if_true]
          have e2 : lssI (D i) = nI (lsN (D i)) := by
            cases h9 : D i with
            | none => rw [h9] at hd; exact absurd hd (by simp [hdB])
            | some d => rfl
          rw [e2, nI_add, ih _ _ _ (by omega) (by omega), Nat.add_assoc]
  unfold fX6_heardLoss
  have := loop n 0 FU 0 (by omega) (FU_big (by omega))
  rw [Nat.zero_add] at this
  exact this
theorem ex8_loop {A : Nat → Int32} {B : Nat → Nat} (hM : MB A 0 B) (hB : WF B) {D : Nat → Option (Nat × Nat)} {tl : Nat → Int32} {w : Nat} (hw : w < B 0) (h7 : ∀ v, v < 12 → DB (D v) ∧ tl v = encL (D v)) (K : Int32 → Int32 → Option (Int32 × Int32 × (Nat → Int32) × (Nat → Int32))) :
    ∀ k i F c s, i + k = B 0 → k < F → fX8_exchange_63 (nI w) A tl K F (nI c) (nI s) (nI i) = K (nI (c + exC D w (B 3) i k)) (nI (s + exL D w (B 3) i k)) := by
  have h12 := hB.1
  have h3 := hB.2.2.2.2.1
  intro k
  induction k with
  | zero =>
    intro i F c s hi hF
    obtain ⟨F, rfl⟩ : ∃ m, F = m + 1 := ⟨F - 1, by omega⟩
    rw [fX8_exchange_63, rdA0 hM, if_pos (ile (by omega) (by omega))]; rfl
  | succ k ih =>
    intro i F c s hi hF
    obtain ⟨F, rfl⟩ : ∃ m, F = m + 1 := ⟨F - 1, by omega⟩
    have g7 := h7 i (by omega)
    rw [fX8_exchange_63, rdA0 hM, if_neg (inle (by omega) (by omega)), rdI_nI (by omega) (by decide), rdA3 hM, rdI_nI (by omega) (by decide), g7.2, bnd_e, nI_inc, nI_inc]
    have e1 : exC D w (B 3) i (k + 1) = (if exB D w (B 3) i then 1 else 0) + exC D w (B 3) (i + 1) k := rfl
    have e2 : exL D w (B 3) i (k + 1) = (if exB D w (B 3) i then lsN (D i) else 0) + exL D w (B 3) (i + 1) k := rfl
    rw [e1, e2]
    by_cases q : i = w
    · rw [if_pos (by rw [q]), ih _ _ _ _ (by omega) (by omega)]
      have : exB D w (B 3) i = false := by unfold exB; rw [decide_eq_true q]; rfl
      rw [this]; simp
    · rw [if_neg (ine q (by omega) (by omega))]
      have : exB D w (B 3) i = hdB (D i) (B 3) := by unfold exB; rw [decide_eq_false q]; rfl
      rw [this]
      cases hd : hdB (D i) (B 3) with
      | false =>
        have hlt := (encL_le g7.1 (show B 3 ≤ 999 by omega)).mpr hd
        rw [if_neg (fun h => (fa_of_lt hlt).2.1 h)]
        simp only [Bool.false_eq_true, if_false]
        rw [ih _ _ _ _ (by omega) (by omega), Nat.zero_add, Nat.zero_add]
      | true =>
        have hle : encL (D i) ≤ nI (B 3) := fa_of_nlt (fun h => by rw [(encL_le g7.1 (show B 3 ≤ 999 by omega)).mp h] at hd; exact absurd hd (by decide))
        rw [if_pos hle, hd_some hd, nI_add]
        simp only [if_true]
        rw [ih _ _ _ _ (by omega) (by omega), Nat.add_assoc, Nat.add_assoc]
theorem st_exchange : Step_exchange Rel0 := by
  intro w0 w1 w2 w3 w4 w5 w6 w7 w8 w9 w10 w11 xt xn xf xp rs rz rv made im all has mt mn mf mp so ma nu y0 y1 y2 y3 th ml mh v hR
  obtain ⟨⟨B, hB, hM, hC⟩, hT, hF, hRw, hI⟩ := id hR
  obtain ⟨e0, e4, e2, e3, e5, e1, ⟨m, P, em, hL⟩, hc, hw⟩ := id hC
  dsimp only at e0 e4 e2 e3 e5 e1 em hL hc hw
  subst e0 e4 e2 e3 e5 e1 em
  have h12 := hB.1
  have hh := hB.2.2.1
  have h3 := hB.2.2.2.2.1
  unfold fX7_exchange fX8_exchange
  rcases within_rng v (show 2 < 2 ^ 31 by decide) with ⟨h1, h2⟩ | ⟨h1, h2, h3'⟩ | ⟨k, hk, rfl, r1, r2, r3⟩
  · exact ⟨-2, y0, y1, y2, y3, 0, ml, mh, by rw [if_pos h1], by rw [show (2 : Int64) = lN 2 from rfl, h2]; rfl, hR⟩
  · exact ⟨-2, y0, y1, y2, y3, 0, ml, mh, by rw [if_neg h1, if_neg (show ¬ v ≤ 2 from h2)], by rw [show (2 : Int64) = lN 2 from rfl, h3']; rfl, hR⟩
  · obtain ⟨l', q', t1, t2, t3⟩ := take_ok hL hB hw (show B 1 < 100000 by omega) y0 y1 y2
    rw [if_neg r1, if_pos (show nI k ≤ 2 from r2), t1, bd3_some, show (2 : Int64) = lN 2 from rfl, r3, bd1_some, if_neg (show ¬ (1 : Int32) = 0 by decide)]
    have L : ∀ j i F G rest tl tn l2 l3 l4 m3 m4, i + j = B 0 → j < F → j < G → ((i = 0 ∧ l2 = -1 ∧ l3 = -1 ∧ l4 = -1 ∧ m3 = 0 ∧ m4 = 0) ∨ ∃ w c s, w < 12 ∧ c ≤ 12 ∧ s ≤ 100000 ∧ l2 = nI w ∧ l3 = nI c ∧ l4 = nI s ∧ m3 = nI c ∧ m4 = nI s) →
        ∃ r rest' tl' tn', fX7_exchange_40 (nI (B 0)) (nI (B 3)) (nI (B 0)) l' q' (fun (w_18 : Int32) (w_19 : Int32) (w_20 : Int32) (wy_rest_21 : Nat → Int32) => if nI k = 0 then some (w_18, nI (B 0), l', q', wy_rest_21) else if nI k = 1 then some (w_19, nI (B 0), l', q', wy_rest_21) else some (w_20, nI (B 0), l', q', wy_rest_21)) F l2 l3 l4 (nI i) rest = some (r, nI (B 0), l', q', rest') ∧
          fX8_exchange_30 all (fun (w_31 : Int32) (w_32 : Int32) (w_33 : Int32) (t_loss_34 : Nat → Int32) (t_hops_35 : Nat → Int32) => if w_31 = (-1) then some (w_31, (0 : Int32), t_loss_34, t_hops_35) else if nI k = 0 then some (w_31, (0 : Int32), t_loss_34, t_hops_35) else if nI k = 1 then some (w_32, (0 : Int32), t_loss_34, t_hops_35) else some (w_33, (0 : Int32), t_loss_34, t_hops_35)) G l2 m3 m4 (nI i) tl tn = some (r, 0, tl', tn') := by
      intro j
      induction j with
      | zero =>
        intro i F G rest tl tn l2 l3 l4 m3 m4 hi hF hG hS
        obtain ⟨F, rfl⟩ : ∃ m, F = m + 1 := ⟨F - 1, by omega⟩
        obtain ⟨G, rfl⟩ : ∃ m, G = m + 1 := ⟨G - 1, by omega⟩
        rw [fX7_exchange_40, if_pos (ile (by omega) (by omega)), fX8_exchange_30, rdA0 hM, if_pos (ile (by omega) (by omega))]
        rcases hS with ⟨_, a1, a2, a3, a4, a5⟩ | ⟨w, c, s, b1, b2, b3, a1, a2, a3, a4, a5⟩
        · subst a1 a2 a3 a4 a5
          refine ⟨-1, rest, tl, tn, ?_, if_pos rfl⟩
          split
          · rfl
          · split <;> rfl
        · subst a1 a2 a3 a4 a5
          rw [if_neg (m1_ne (by omega))]
          by_cases q0 : nI k = 0
          · exact ⟨_, rest, tl, tn, if_pos q0, if_pos q0⟩
          · rw [if_neg q0, if_neg q0]
            by_cases q1 : nI k = 1
            · exact ⟨_, rest, tl, tn, if_pos q1, if_pos q1⟩
            · exact ⟨_, rest, tl, tn, if_neg q1, if_neg q1⟩
      | succ j ih =>
        intro i F G rest tl tn l2 l3 l4 m3 m4 hi hF hG hS
        obtain ⟨F, rfl⟩ : ∃ m, F = m + 1 := ⟨F - 1, by omega⟩
        obtain ⟨G, rfl⟩ : ∃ m, G = m + 1 := ⟨G - 1, by omega⟩
        have hil : i < B 0 := by omega
        obtain ⟨rest1, g1, g2⟩ := meas7_0 hB t2 t3 hil rest
        obtain ⟨tl1, tn1, g3, g4⟩ := lay8_0 hM hB (show B 1 < 100000 by omega) hil tl tn
        have c1 := exC7 (D := dd B (B 1) no_one i) (m := B 3) h12 (by omega) hil (fun v hv => (g2 v hv).2)
        have c2 := exL7 (D := dd B (B 1) no_one i) (m := B 3) h12 (by omega) hil (fun v hv => (g2 v hv).2)
        have c3 := ex8_loop hM hB (D := dd B (B 1) no_one i) hil (fun v hv => ⟨(g4 v hv).2.1, (g4 v hv).2.2.1⟩)
        have d1 : exC (dd B (B 1) no_one i) i (B 3) 0 (B 0) ≤ 12 := Nat.le_trans (cntF_le _ _ _) h12
        have d2 : exL (dd B (B 1) no_one i) i (B 3) 0 (B 0) ≤ 100000 := by
          have := sumF_le (f := fun k => if exB (dd B (B 1) no_one i) i (B 3) k then lsN (dd B (B 1) no_one i k) else 0) (M := 1755) (B 0) 0 (fun j _ hj => by
            have := lsN_le (g2 j (by omega)).2.1
            show (if exB (dd B (B 1) no_one i) i (B 3) j then lsN (dd B (B 1) no_one i j) else 0) ≤ 1755
            split <;> omega)
          have h5 : B 0 * 1755 ≤ 12 * 1755 := Nat.mul_le_mul_right _ h12
          unfold exL
          omega
        rw [fX7_exchange_40, if_neg (inle (by omega) (by omega)), g1, bd1_some, c1, bd1_some, c2, bd1_some, jn_eq, fX8_exchange_30, rdA0 hM, if_neg (inle (by omega) (by omega)), rdA1 hM, g3, bd2_some]
        have c3' := fun K => c3 K (B 0) 0 FU 0 0 (by omega) (FU_big (by omega))
        simp only [Nat.zero_add] at c3'
        replace c3' : ∀ K, fX8_exchange_63 (nI i) all tl1 K FU 0 0 0 = K (nI (exC (dd B (B 1) no_one i) i (B 3) 0 (B 0))) (nI (exL (dd B (B 1) no_one i) i (B 3) 0 (B 0))) := c3'
        rw [c3', jn_eq, nI_inc]
        generalize exC (dd B (B 1) no_one i) i (B 3) 0 (B 0) = c' at d1 ⊢
        generalize exL (dd B (B 1) no_one i) i (B 3) 0 (B 0) = s' at d2 ⊢
        have take := ih (i + 1) F G rest1 tl1 tn1 (nI i) (nI c') (nI s') (nI c') (nI s') (by omega) (by omega) (by omega) (Or.inr ⟨i, c', s', by omega, d1, d2, rfl, rfl, rfl, rfl, rfl⟩)
        rcases hS with ⟨_, a1, a2, a3, a4, a5⟩ | ⟨w, c, s, b1, b2, b3, a1, a2, a3, a4, a5⟩
        · subst a1 a2 a3 a4 a5
          rw [if_pos (show (-1 : Int32) < nI c' by rw [Int32.lt_iff_toInt_lt, nI_toInt (by omega)]; show (-1 : Int) < _; omega), if_pos rfl]
          exact take
        · subst a1 a2 a3 a4 a5
          have keep := ih (i + 1) F G rest1 tl1 tn1 (nI w) (nI c) (nI s) (nI c) (nI s) (by omega) (by omega) (by omega) (Or.inr ⟨w, c, s, b1, b2, b3, rfl, rfl, rfl, rfl, rfl⟩)
          rw [if_neg (m1_ne (show w < 2 ^ 31 by omega))]
          by_cases q1 : c < c'
          · rw [if_pos (ilt q1 (by omega)), if_neg (inlt (by omega) (by omega)), if_neg (ine (by omega) (by omega) (by omega))]
            exact take
          · rw [if_neg (inlt (by omega) (by omega))]
            by_cases q2 : c' = c
            · have e12 : nI c' = nI c := by rw [q2]
              rw [if_pos e12, if_neg (show ¬ nI c' < nI c from inlt (by omega) (by omega)), if_pos e12]
              by_cases q3 : s ≤ s'
              · rw [if_pos (ile q3 (by omega)), if_neg (inlt q3 (by omega))]
                exact keep
              · rw [if_neg (inle (by omega) (by omega)), if_pos (ilt (by omega) (by omega))]
                exact take
            · rw [if_neg (ine q2 (by omega) (by omega)), if_pos (ilt (by omega) (by omega))]
              exact keep
    obtain ⟨r, rest', tl', tn', k1, k2⟩ := L (B 0) 0 FU FU y3 ml mh (-1) (-1) (-1) 0 0 (by omega) (FU_big (by omega)) (FU_big (by omega)) (Or.inl ⟨rfl, rfl, rfl, rfl, rfl, rfl⟩)
    exact ⟨r, nI (B 0), l', q', rest', 0, tl', tn', k1, k2, hR⟩
