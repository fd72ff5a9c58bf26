-- uses: a_lib b_court c_leaf8 d_loop8 e_list f_why g_leaf h_rel i_state j_gen k_list l_cut m_fill n_rows o_rows2
/-! rows of pairs -/
theorem pairZ_L {n : Nat} {v : Int64} (hn : n ≤ 12) (h : pairZ n v.toInt = true) : ∃ a b, a < b ∧ b < n ∧ v = lN (20 * a + b) ∧ v.toInt32 = nI (20 * a + b) := by
  obtain ⟨h1, h2, h3⟩ := of_decide_eq_true h
  have e : v = lN (20 * (v.toInt / 20).toNat + (v.toInt % 20).toNat) := by
    apply Int64.toInt_inj.mp
    rw [lN_toInt (by omega)]
    omega
  refine ⟨(v.toInt / 20).toNat, (v.toInt % 20).toNat, by omega, by omega, e, ?_⟩
  have : v.toInt32 = (lN (20 * (v.toInt / 20).toNat + (v.toInt % 20).toNat)).toInt32 := congrArg Int64.toInt32 e
  rw [this, lN_i]
theorem pairsRef7_loop {f : Nat → Int64} {n c k : Nat} (hn : n ≤ 12) (hc : c ≤ 40) (hk : k < 4) : ∀ l i F, i + l = c → l < F → fX7_pairsRefusal_14 (nI k) (nI n) f (nI c) (some 0) F (nI i) = some (if anyF (fun j => !pairZ n (f j).toInt) i l then -3 else 0) := by
  intro l
  induction l with
  | zero =>
    intro i F hi hF
    obtain ⟨F, rfl⟩ : ∃ m, F = m + 1 := ⟨F - 1, by omega⟩
    rw [fX7_pairsRefusal_14, ckI_nI hk (by decide), if_pos (ile (by omega) (by omega))]; rfl
  | succ l ih =>
    intro i F hi hF
    obtain ⟨F, rfl⟩ : ∃ m, F = m + 1 := ⟨F - 1, by omega⟩
    rw [fX7_pairsRefusal_14, ckI_nI hk (by decide), if_neg (inle (by omega) (by omega)), ckI_nI hk (by decide), numAt7 hc (by omega), bd1_some, hasP_eq hn, bd1_some, bI_0', nI_inc, ih (i + 1) F (by omega) (by omega), anyF]
    cases pairZ n (f i).toInt <;> simp
theorem pairsRef7 {f : Nat → Int64} {n c k : Nat} (hn : n ≤ 12) (hc : c ≤ 40) (hk : k < 4) : fX7_pairsRefusal (nI n) f (nI c) (nI k) = some (if anyF (fun j => !pairZ n (f j).toInt) 0 c then -3 else 0) := by
  unfold fX7_pairsRefusal
  rw [refusal7 hk, bd1_some, if_neg (m1_ne (by omega)), if_pos rfl, n0, show (some (nI 0)) = some (0 : Int32) from rfl, pairsRef7_loop hn hc hk c 0 FU (by omega) (FU_big (by omega))]
  rfl
theorem arePairs8_loop {A ma : Nat → Int32} {B : Nat → Nat} {nu : Nat → Int64} {c k : Nat} (h : MB A 0 B) (hB : WF B) (hc : c ≤ 40) (hk : k < 4) (em : ma k = nI c) : ∀ l i F, i + l = c → l < F → fX8_arePairs_2 (nI k) A ma nu (some 1) F (nI i) = some (bI (!anyF (fun j => !pairZ (B 0) (nu (40 * k + j)).toInt) i l)) := by
  intro l
  induction l with
  | zero =>
    intro i F hi hF
    obtain ⟨F, rfl⟩ : ∃ m, F = m + 1 := ⟨F - 1, by omega⟩
    rw [fX8_arePairs_2, rdI_nI hk (by decide), em, if_pos (ile (by omega) (by omega))]; rfl
  | succ l ih =>
    intro i F hi hF
    obtain ⟨F, rfl⟩ : ∃ m, F = m + 1 := ⟨F - 1, by omega⟩
    rw [fX8_arePairs_2, rdI_nI hk (by decide), em, if_neg (inle (by omega) (by omega)), row_at (c := 0) hk, rdL_nI (by omega) (by decide), isPair8 h hB, bd1_some, bI_0', nI_inc, ih (i + 1) F (by omega) (by omega), anyF]
    cases pairZ (B 0) (nu (40 * k + i)).toInt <;> simp [bI]
theorem arePairs8 {A ma : Nat → Int32} {B : Nat → Nat} {nu : Nat → Int64} {c k : Nat} (h : MB A 0 B) (hB : WF B) (hc : c ≤ 40) (hk : k < 4) (em : ma k = nI c) : fX8_arePairs A ma nu (nI k) = some (bI (!anyF (fun j => !pairZ (B 0) (nu (40 * k + j)).toInt) 0 c)) := by
  unfold fX8_arePairs
  rw [n0, arePairs8_loop h hB hc hk em c 0 FU (by omega) (FU_big (by omega))]
/-- all numbers of a row are pairs, or not all -/
theorem pairs_cases {A ma : Nat → Int32} {B : Nat → Nat} {f nu : Nat → Int64} {c k : Nat} (h : MB A 0 B) (hB : WF B) (hc : c ≤ 40) (hk : k < 4) (em : ma k = nI c) (hf : ∀ j, j < c → f j = nu (40 * k + j)) :
    (fX7_pairsRefusal (nI (B 0)) f (nI c) (nI k) = some (-3) ∧ fX8_arePairs A ma nu (nI k) = some 0) ∨
    (fX7_pairsRefusal (nI (B 0)) f (nI c) (nI k) = some 0 ∧ fX8_arePairs A ma nu (nI k) = some 1 ∧ ∃ p : Nat → Nat, ∀ j, j < c → p j / 20 < p j % 20 ∧ p j % 20 < B 0 ∧ f j = lN (p j) ∧ (f j).toInt32 = nI (p j)) := by
  have h12 := hB.1
  rw [pairsRef7 h12 hc hk, arePairs8 h hB hc hk em]
  have e : anyF (fun j => !pairZ (B 0) (nu (40 * k + j)).toInt) 0 c = anyF (fun j => !pairZ (B 0) (f j).toInt) 0 c := anyF_congr c 0 (fun j _ h2 => by rw [hf j (by omega)])
  rw [e]
  cases hx : anyF (fun j => !pairZ (B 0) (f j).toInt) 0 c with
  | true => exact Or.inl ⟨rfl, rfl⟩
  | false =>
    refine Or.inr ⟨rfl, rfl, ?_⟩
    have hall : ∀ j, j < c → pairZ (B 0) (f j).toInt = true := by
      intro j hj
      cases hp : pairZ (B 0) (f j).toInt with
      | true => rfl
      | false =>
        refine absurd ?_ (Bool.eq_false_iff.mp hx)
        rw [anyF_iff]
        exact ⟨j, Nat.zero_le j, by omega, by rw [hp]; rfl⟩
    have hx2 : ∀ j, ∃ q, j < c → q / 20 < q % 20 ∧ q % 20 < B 0 ∧ f j = lN q ∧ (f j).toInt32 = nI q := by
      intro j
      by_cases hj : j < c
      · obtain ⟨a, b, h1, h2, h3, h4⟩ := pairZ_L h12 (hall j hj)
        exact ⟨20 * a + b, fun _ => ⟨by omega, by omega, h3, h4⟩⟩
      · exact ⟨0, fun h => absurd h hj⟩
    obtain ⟨p, hp⟩ := Classical.axiomOfChoice hx2
    exact ⟨p, hp⟩
theorem areCrossed8 {nu : Nat → Int64} {n k i j p q : Nat} (hn : n ≤ 12) (hk : k < 4) (hi : i < 40) (hj : j < 40) (ep : (nu (40 * k + i)).toInt32 = nI p) (eq : (nu (40 * k + j)).toInt32 = nI q) (hp : p / 20 < p % 20 ∧ p % 20 < n) (hq : q / 20 < q % 20 ∧ q % 20 < n) :
    fX8_areCrossed nu (nI k) (nI i) (nI j) = some (bI (crossN (p / 20) (p % 20) (q / 20) (q % 20))) := by
  have d1 : ∀ x : Nat, x < 1000 → nI x / 20 = nI (x / 20) := fun x hx => by rw [lit 20, pk_div (by omega) (by decide) (by decide)]
  have d2 : ∀ x : Nat, x < 1000 → nI x - nI (x / 20) * 20 = nI (x % 20) := fun x hx => by rw [← d1 x hx, lit 20, pk_rem (by omega) (by decide) (by decide)]
  unfold fX8_areCrossed
  rw [row_at (c := 0) hk, rdL_nI (by omega) (by decide), bnd_e, row_at (c := 0) hk, rdL_nI (by omega) (by decide), bnd_e, ep, eq, d1 p (by omega), d1 q (by omega), d2 p (by omega), d2 q (by omega), cross8_nI (by omega) (by omega) (by omega) (by omega), bd1_some, bzI_bI, Nat.min_eq_left (by omega), Nat.max_eq_right (by omega)]
theorem st_shut : Step_shut Rel0 := by
  intro w0 w1 w2 w3 w4 w5 w6 w7 w8 w9 w10 w11 xt xn xf xp rs rz rv made im all has mt mn mf mp so ma nu th v u i ei hR
  obtain ⟨⟨B, hB, hM, hC⟩, hT, hF, hRw, hI⟩ := id hR
  obtain ⟨e0, -⟩ := id hC
  dsimp only at e0
  subst e0
  have h12 := hB.1
  unfold fX7_shut fX8_shut
  rcases row_cases v with ⟨h1, h2⟩ | ⟨k, hk, rfl, h1, h2⟩
  · exact ⟨-2, 0, by rw [refusal7_no h1]; rfl, by rw [h2]; rfl, hR⟩
  · rw [refusal7 hk, h2, bd1_some, bd1_some, if_neg (show ¬ (1 : Int32) = 0 by decide), rdI_nI hk (by decide)]
    rw [rix_nI hk] at ei
    subst ei
    rcases hRw i hk with ⟨z1, z2⟩ | ⟨c, q, z1, z2, z3, z4, z5, z6, z7⟩
    · rw [z1, z2]
      exact ⟨-6, 0, rfl, rfl, hR⟩
    · rw [z3, z6, if_neg (m1_ne (by omega)), if_pos rfl, if_neg (m1_q z2), rdI_nI hk (by decide), z4, ckI_nI hk (by decide)]
      rcases idx_cases u (show c ≤ 1000 by omega) with ⟨g1, g2⟩ | ⟨j, hj, rfl, g1, g2, g3⟩
      · refine ⟨-7, 0, ?_, by rw [g2]; rfl, hR⟩
        rcases g1 with g1 | ⟨g1, g3⟩
        · rw [if_pos g1]
        · rw [if_neg g1, if_neg g3]
      · rw [if_neg g1, if_pos g2, g3, bd1_some, if_neg (show ¬ (1 : Int32) = 0 by decide)]
        rcases pairs_cases hM hB z1 hk z4 z7 with ⟨p1, p2⟩ | ⟨p1, p2, p, hp⟩
        · rw [p1, p2]
          exact ⟨-3, 0, rfl, rfl, hR⟩
        · rw [p1, p2, bd1_some, bd1_some, if_pos rfl, if_neg (show ¬ (1 : Int32) = 0 by decide)]
          have L7 : ∀ l i0 s F, i0 + l = c → l < F → fX7_shut_54 (nI j) (rv i) (nI c) (fun (w_17 : Int32) => some w_17) F (nI s) (nI i0) = some (nI (s + cntF (fun l => crossN (p j / 20) (p j % 20) (p l / 20) (p l % 20)) i0 l)) := by
            intro l
            induction l with
            | zero =>
              intro i0 s F hi hF
              obtain ⟨F, rfl⟩ : ∃ m, F = m + 1 := ⟨F - 1, by omega⟩
              rw [fX7_shut_54, if_pos (ile (by omega) (by omega))]; rfl
            | succ l ih =>
              intro i0 s F hi hF
              obtain ⟨F, rfl⟩ : ∃ m, F = m + 1 := ⟨F - 1, by omega⟩
              have q1 := hp j hj
              have q2 := hp i0 (by omega)
              rw [fX7_shut_54, if_neg (inle (by omega) (by omega)), numAt7 z1 hj, bd1_some, numAt7 z1 (by omega), bd1_some, q1.2.2.2, q2.2.2.2, cross_nI (by omega) (by omega), bd1_some, bI_0', nI_inc, nI_inc, ih _ _ _ (by omega) (by omega), ih _ _ _ (by omega) (by omega), cntF]
              cases crossN (p j / 20) (p j % 20) (p i0 / 20) (p i0 % 20)
              · simp
              · simp [Nat.add_assoc]
          have L8 : ∀ l i0 s F, i0 + l = c → l < F → fX8_shut_70 (nI i) (nI j) ma nu (fun (w_23 : Int32) => some (w_23, (0 : Int32))) F (nI s) (nI i0) = some (nI (s + cntF (fun l => crossN (p j / 20) (p j % 20) (p l / 20) (p l % 20)) i0 l), 0) := by
            intro l
            induction l with
            | zero =>
              intro i0 s F hi hF
              obtain ⟨F, rfl⟩ : ∃ m, F = m + 1 := ⟨F - 1, by omega⟩
              rw [fX8_shut_70, rdI_nI hk (by decide), z4, if_pos (ile (by omega) (by omega))]; rfl
            | succ l ih =>
              intro i0 s F hi hF
              obtain ⟨F, rfl⟩ : ∃ m, F = m + 1 := ⟨F - 1, by omega⟩
              have q1 := hp j hj
              have q2 := hp i0 (by omega)
              rw [fX8_shut_70, rdI_nI hk (by decide), z4, if_neg (inle (by omega) (by omega)), areCrossed8 h12 hk (by omega) (by omega) (by rw [← z7 j hj]; exact q1.2.2.2) (by rw [← z7 i0 (by omega)]; exact q2.2.2.2) ⟨q1.1, q1.2.1⟩ ⟨q2.1, q2.2.1⟩, bd1_some, bI_0', bnd_e, bnd_e, Int32.add_zero, nI_inc, nI_inc, ih _ _ _ (by omega) (by omega), ih _ _ _ (by omega) (by omega), cntF]
              cases crossN (p j / 20) (p j % 20) (p i0 / 20) (p i0 % 20)
              · simp
              · simp [Nat.add_assoc]
          have l7 := L7 c 0 0 FU (by omega) (FU_big (by omega))
          have l8 := L8 c 0 0 FU (by omega) (FU_big (by omega))
          exact ⟨_, 0, l7, l8, hR⟩
