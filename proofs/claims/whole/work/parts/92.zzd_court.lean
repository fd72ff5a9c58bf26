-- uses:
/-! the whole text, and the step -/
theorem bd16_some {A1 A2 A3 A4 A5 A6 A7 A8 A9 A10 A11 A12 A13 A14 A15 A16 δ : Type} (a1 : A1) (a2 : A2) (a3 : A3) (a4 : A4) (a5 : A5) (a6 : A6) (a7 : A7) (a8 : A8) (a9 : A9) (a10 : A10) (a11 : A11) (a12 : A12) (a13 : A13) (a14 : A14) (a15 : A15) (a16 : A16) (k : A1 → A2 → A3 → A4 → A5 → A6 → A7 → A8 → A9 → A10 → A11 → A12 → A13 → A14 → A15 → A16 → Option δ) : bd16 (some (a1, a2, a3, a4, a5, a6, a7, a8, a9, a10, a11, a12, a13, a14, a15, a16)) k = k a1 a2 a3 a4 a5 a6 a7 a8 a9 a10 a11 a12 a13 a14 a15 a16 := rfl
theorem bd20_some {A1 A2 A3 A4 A5 A6 A7 A8 A9 A10 A11 A12 A13 A14 A15 A16 A17 A18 A19 A20 δ : Type} (a1 : A1) (a2 : A2) (a3 : A3) (a4 : A4) (a5 : A5) (a6 : A6) (a7 : A7) (a8 : A8) (a9 : A9) (a10 : A10) (a11 : A11) (a12 : A12) (a13 : A13) (a14 : A14) (a15 : A15) (a16 : A16) (a17 : A17) (a18 : A18) (a19 : A19) (a20 : A20) (k : A1 → A2 → A3 → A4 → A5 → A6 → A7 → A8 → A9 → A10 → A11 → A12 → A13 → A14 → A15 → A16 → A17 → A18 → A19 → A20 → Option δ) : bd20 (some (a1, a2, a3, a4, a5, a6, a7, a8, a9, a10, a11, a12, a13, a14, a15, a16, a17, a18, a19, a20)) k = k a1 a2 a3 a4 a5 a6 a7 a8 a9 a10 a11 a12 a13 a14 a15 a16 a17 a18 a19 a20 := rfl
theorem bd8_some {A1 A2 A3 A4 A5 A6 A7 A8 δ : Type} (a1 : A1) (a2 : A2) (a3 : A3) (a4 : A4) (a5 : A5) (a6 : A6) (a7 : A7) (a8 : A8) (k : A1 → A2 → A3 → A4 → A5 → A6 → A7 → A8 → Option δ) : bd8 (some (a1, a2, a3, a4, a5, a6, a7, a8)) k = k a1 a2 a3 a4 a5 a6 a7 a8 := rfl
theorem text_loops {xt mt : Nat → Int32} {x : Nat → Nat} {n : Nat} (hT : TP xt mt x n)
    (K7 : Int32 → Int32 → Int32 → Int32 → Int32 → Int32 → Int32 → Int32 → Int32 → Int32 → Int32 → Int32 → (Nat → Int32) → (Nat → Int32) → (Nat → Int32) → (Nat → Int32) → (Nat → Int32) → Option (Int32 × Int32 × Int32 × Int32 × Int32 × Int32 × Int32 × Int32 × Int32 × Int32 × Int32 × Int32 × Int32 × Int32 × Int32 × (Nat → Int32) × (Nat → Int32) × (Nat → Int32) × (Nat → Int32) × (Nat → Int32)))
    (K8 : (Nat → Int32) → Int32 → Int32 → Int32 → Int32 → Int32 → Int32 → Option (Int32 × Int32 × (Nat → Int32) × (Nat → Int32) × Int32 × Int32 × Int32 × Int32 × Int32 × Int32 × Int32 × Int32 × Int32 × Int32)) :
    ∀ μ p F G B v cw cs cd ch cst cc cwp cwh cp ck fresh num wa, n ≤ p + μ → p ≤ n → μ + 2 < F → μ + 2 < G → WF B → B 1 = 0 → B 5 ≤ p → CX B cw cs cd ch cst cc cwp cwh cp ck → MB fresh 0 B → nok x n p num →
    (∃ f st a k s v' c1 c2 c3 c4 c5 c6 c7 c8 c9 c10 c11 fr a' b' k' m', 1 ≤ f ∧ f ≤ 5 ∧ fX3_readTape_42 xt (nI n) K7 F (nI (B 5)) (nI (enT x n p)) (nI (kT x n p)) (nI (stp x n p)) v (if badT x n p then 1 else 0) (if badT x n p then nI (stp x n p) else -1) cw cs cd ch (nI (B 5)) cst cc cwp cwh cp ck = K7 a k s v' (nI f) (nI st) c1 c2 c3 c4 c5 c6 c7 c8 c9 c10 c11 ∧
      fX8_court_78 mt (nI n) K8 G fresh (nI (stp x n p)) (nI (en8 x n p)) (nI (mkT x n p)) num 0 wa = K8 fr a' b' k' m' (nI f) (nI st)) ∨
    ∃ B' a k s v' c1 c2 c3 c4 c5 c6 c7 c8 c9 c10 fr a' b' k' m' wa', WF B' ∧ B' 1 = 0 ∧ CX B' c1 c2 c3 c4 c5 c6 c7 c8 c9 c10 ∧ MB fr 0 B' ∧ fX3_readTape_42 xt (nI n) K7 F (nI (B 5)) (nI (enT x n p)) (nI (kT x n p)) (nI (stp x n p)) v (if badT x n p then 1 else 0) (if badT x n p then nI (stp x n p) else -1) cw cs cd ch (nI (B 5)) cst cc cwp cwh cp ck = K7 a k s v' 0 (-1) c1 c2 c3 c4 (nI (B' 5)) c5 c6 c7 c8 c9 c10 ∧
      fX8_court_78 mt (nI n) K8 G fresh (nI (stp x n p)) (nI (en8 x n p)) (nI (mkT x n p)) num 0 wa = K8 fr a' b' k' m' 0 wa' := by
  have h900 := hT.1
  intro μ
  induction μ with
  | zero =>
    intro p F G B v cw cs cd ch cst cc cwp cwh cp ck fresh num wa hμ hp hF hG hB h1 h5 hC hM hn
    obtain ⟨F, rfl⟩ : ∃ m, F = m + 1 := ⟨F - 1, by omega⟩
    obtain ⟨G, rfl⟩ : ∃ m, G = m + 1 := ⟨G - 1, by omega⟩
    have hs := stp_le (x := x) hp
    have hk : kT x n p = 5 := by unfold kT; rw [if_pos (by omega)]
    have hb : badT x n p = false := by unfold badT; rw [hk]; rfl
    refine Or.inr ⟨B, nI (enT x n p), nI (kT x n p), nI (stp x n p), v, cw, cs, cd, ch, cst, cc, cwp, cwh, cp, ck, fresh, nI (stp x n p), nI (en8 x n p), nI (mkT x n p), num, wa, hB, h1, hC, hM, ?_, ?_⟩
    · rw [fX3_readTape_42, hb, if_neg Bool.false_ne_true, if_neg Bool.false_ne_true, if_pos rfl, if_pos (show nI (kT x n p) = 5 by rw [hk]; rfl)]
      exact ite_self _
    · rw [fX8_court_78, if_pos rfl, if_pos (show nI (mkT x n p) = 10 by rw [mk_10.mpr hk]; rfl)]
  | succ μ ih =>
    intro p F G B v cw cs cd ch cst cc cwp cwh cp ck fresh num wa hμ hp hF hG hB h1 h5 hC hM hn
    obtain ⟨F, rfl⟩ : ∃ m, F = m + 1 + 1 := ⟨F - 2, by omega⟩
    obtain ⟨G, rfl⟩ : ∃ m, G = m + 1 + 1 := ⟨G - 2, by omega⟩
    have hs := stp_le (x := x) hp
    have he := en_le (x := x) hp
    have hmk := mkT_le x n p
    have hk5 := kT_le (x := x) (n := n) (p := p)
    by_cases k5 : kT x n p = 5
    · have hb : badT x n p = false := by unfold badT; rw [k5]; rfl
      refine Or.inr ⟨B, nI (enT x n p), nI (kT x n p), nI (stp x n p), v, cw, cs, cd, ch, cst, cc, cwp, cwh, cp, ck, fresh, nI (stp x n p), nI (en8 x n p), nI (mkT x n p), num, wa, hB, h1, hC, hM, ?_, ?_⟩
      · rw [fX3_readTape_42, hb, if_neg Bool.false_ne_true, if_neg Bool.false_ne_true, if_pos rfl, if_pos (show nI (kT x n p) = 5 by rw [k5]; rfl)]
        exact ite_self _
      · rw [fX8_court_78, if_pos rfl, if_pos (show nI (mkT x n p) = 10 by rw [mk_10.mpr k5]; rfl)]
    · have hlt := he.2.2 k5
      have m10 : ¬ nI (mkT x n p) = 10 := by rw [lit 10]; exact ine (fun e => k5 (mk_10.mp e)) (by omega) (by decide)
      cases hb : badT x n p with
      | true =>
        obtain ⟨fr, a, b, k, m, g1⟩ := line8_bad (mt := mt) hB hb hM num wa
        have h11 : ¬ (1 : Int32) = 0 := by decide
        refine Or.inl ⟨1, stp x n p, nI (enT x n p), nI (kT x n p), nI (stp x n p), v, cw, cs, cd, ch, nI (B 5), cst, cc, cwp, cwh, cp, ck, fr, a, b, k, m, by omega, by omega, ?_, ?_⟩
        · rw [fX3_readTape_42, if_neg (inle (by omega) (by omega)), if_pos rfl, if_pos rfl, if_neg h11]; rfl
        · rw [fX8_court_78, if_pos rfl, if_neg m10, g1, bd7_some, fX8_court_78, if_neg h11]; rfl
      | false =>
        rw [if_neg Bool.false_ne_true, if_neg Bool.false_ne_true]
        have k5' : ¬ nI (kT x n p) = 5 := by rw [lit 5]; exact ine k5 (by omega) (by decide)
        have h8 := line8 hT hB hp hb hM num wa
        rcases line7 hT hB hp v (-1) hC with ⟨f, st, a, k, s, v', c1, c2, c3, c4, c5, c6, c7, c8, c9, c10, ⟨r1, r2, r3, r4⟩, j2⟩ | ⟨q', B', v', c1, c2, c3, c4, c5, c6, c7, c8, c9, c10, ⟨r1, r2, r3, r4, r5⟩, w1, ⟨w2, w3⟩, w4, j2⟩
        · have hne := f_ne r2 r3
          rcases h8 with ⟨f', st', fr, a', b', k', m', o1, o2⟩ | ⟨q', B', fr, num', wa', o1, o2, o3, o4⟩
          · rw [r1] at o1
            have oe : f = f' ∧ st = st' := by simpa using o1
            obtain ⟨rfl, rfl⟩ := oe
            refine Or.inl ⟨f, st, a, k, s, v', c1, c2, c3, c4, nI (B 5), c5, c6, c7, c8, c9, c10, fr, a', b', k', m', r2, r3, ?_, ?_⟩
            · rw [fX3_readTape_42, if_neg (inle (by omega) (by omega)), if_pos rfl, if_neg k5', j2, bd16_some, if_neg hne, fX3_readTape_42, if_neg hne]
              exact ite_self _
            · rw [fX8_court_78, if_pos rfl, if_neg m10, o2, bd7_some, fX8_court_78, if_neg hne]
          · rw [r1] at o1; exact absurd o1 (by simp)
        · rcases h8 with ⟨f', st', fr, a', b', k', m', o1, o2⟩ | ⟨q2, B2, fr, num', wa', o1, o2, o3, o4⟩
          · rw [r1] at o1; exact absurd o1 (by simp)
          · rw [r1] at o1
            have oe : q' = q2 ∧ B' = B2 := by simpa using o1
            obtain ⟨rfl, rfl⟩ := oe
            have he' := en_le (x := x) r3
            obtain ⟨v2, t1, t2⟩ := nt7 hT (show enT x n q' ≤ n by omega) (nI (kT x n q')) (nI (stp x n q')) v' (-1)
            have ag : AG B' (va_up B' 5 (B' 5 + 1)) := AG_up (by omega)
            have g := w1.2.2
            have u5 : va_up B' 5 (B' 5 + 1) 5 = B 5 + 1 := by rw [up_at, w2]
            have hs' := stp_le (x := x) r3
            have hW : WF (va_up B' 5 (B' 5 + 1)) := ag.WF w1 (by rw [up_ne B' (by omega)]; exact g.1) (by rw [up_ne B' (by omega)]; exact g.2.1) (by rw [up_ne B' (by omega)]; exact g.2.2.1) (by rw [u5]; omega)
            obtain ⟨x1, x2, x3, x4, ⟨m2, P2, x5, x6⟩, x7, x8, x9⟩ := w4
            have hCX : CX (va_up B' 5 (B' 5 + 1)) c1 c2 c3 c4 c5 c6 c7 c8 c9 c10 := ⟨by rw [ag.1]; exact x1, by rw [ag.2.1]; exact x2, by rw [up_ne B' (by omega)]; exact x3, by rw [up_ne B' (by omega)]; exact x4, ⟨m2, P2, x5, ag.CL x6⟩, fun w hw => by rw [ag.2.2 _ (by omega)]; exact x7 w (by rw [← ag.1]; exact hw), ag.CWs x8, fun h w hw => x9 (by rw [← ag.1]; exact h) w hw⟩
            have nxt := ih (enT x n q') (F + 1) (G + 1) (va_up B' 5 (B' 5 + 1)) v2 c1 c2 c3 c4 c5 c6 c7 c8 c9 c10 fr num' wa' (by omega) (by omega) (by omega) (by omega) hW (by rw [up_ne B' (by omega), w3]; exact h1) (by rw [u5]; omega) hCX o4 o3
            rw [u5] at nxt
            have e7 : fX3_readTape_42 xt (nI n) K7 (F + 1 + 1) (nI (B 5)) (nI (enT x n p)) (nI (kT x n p)) (nI (stp x n p)) v 0 (-1) cw cs cd ch (nI (B 5)) cst cc cwp cwh cp ck = fX3_readTape_42 xt (nI n) K7 (F + 1) (nI (B 5 + 1)) (nI (enT x n (enT x n q'))) (nI (kT x n (enT x n q'))) (nI (stp x n (enT x n q'))) v2 (if badT x n (enT x n q') then 1 else 0) (if badT x n (enT x n q') then nI (stp x n (enT x n q')) else -1) c1 c2 c3 c4 (nI (B 5 + 1)) c5 c6 c7 c8 c9 c10 := by
              rw [fX3_readTape_42, if_neg (inle (by omega) (by omega)), if_pos rfl, if_neg k5', j2, bd16_some, if_pos rfl, bnd_e, t1, bd6_some, nI_inc]
            have e8 : fX8_court_78 mt (nI n) K8 (G + 1 + 1) fresh (nI (stp x n p)) (nI (en8 x n p)) (nI (mkT x n p)) num 0 wa = fX8_court_78 mt (nI n) K8 (G + 1) fr (nI (stp x n (enT x n q'))) (nI (en8 x n (enT x n q'))) (nI (mkT x n (enT x n q'))) num' 0 wa' := by
              rw [fX8_court_78, if_pos rfl, if_neg m10, o2, bd7_some]
            rw [e7, e8]
            exact nxt
def B00 (j : Nat) : Nat := if j = 3 then 60 else 0
theorem b00_0 (j : Nat) : ¬ j < B00 0 := by
  have : B00 0 = 0 := by decide
  omega
theorem b00_4 (j : Nat) : ¬ j < B00 4 := by
  have : B00 4 = 0 := by decide
  omega
theorem WF_00 : WF B00 := by
  refine ⟨by decide, Or.inl (by decide), by decide, by decide, by decide, by decide, by decide, fun w hw => ?_, fun k hk => ?_, fun a b ha hb => ?_, fun a b c d hab hb => ?_⟩
  · unfold B00; rw [if_neg (by omega)]; omega
  · have : B00 4 = 0 := by decide
    omega
  · have e : ∀ j, 42 ≤ j → B00 j = 0 := fun j hj => by unfold B00; rw [if_neg (by omega)]
    rw [e _ (by omega), e _ (by omega)]; exact ⟨by omega, rfl, fun h => by omega⟩
  · have : B00 0 = 0 := by decide
    omega
theorem fresh8 (K : (Nat → Int32) → Option (Int32 × Int32 × (Nat → Int32) × (Nat → Int32) × Int32 × Int32 × Int32 × Int32 × Int32 × Int32 × Int32 × Int32 × Int32 × Int32)) : ∀ r i F fresh, i + r = 186 → r < F → (∀ j, j < i → fresh j = nI (B00 j)) → ∃ fr, fX8_court_44 K F (nI i) fresh = K fr ∧ MB fr 0 B00 := by
  intro r
  induction r with
  | zero =>
    intro i F fresh hi hF h
    obtain ⟨F, rfl⟩ : ∃ m, F = m + 1 := ⟨F - 1, by omega⟩
    exact ⟨fresh, by rw [fX8_court_44, lit 186, if_pos (ile (by omega) (by omega))], fun j hj => by rw [Nat.zero_add]; exact h j (by omega)⟩
  | succ r ih =>
    intro i F fresh hi hF h
    obtain ⟨F, rfl⟩ : ∃ m, F = m + 1 := ⟨F - 1, by omega⟩
    rw [fX8_court_44, lit 186, if_neg (inle (by omega) (by omega)), jn1, wr_n i (by omega), nI_inc]
    refine ih (i + 1) F _ (by omega) (by omega) (fun j hj => ?_)
    unfold upd
    by_cases q : j = i
    · rw [if_pos q, q]
      unfold B00
      by_cases q3 : i = 3
      · rw [if_pos (show nI i = 3 by rw [q3]; rfl), if_pos q3]; rfl
      · rw [if_neg (show ¬ nI i = 3 by rw [lit 3]; exact ine q3 (by omega) (by decide)), if_neg q3]; rfl
    · rw [if_neg q]; exact h j (by omega)
theorem copy_all {fresh : Nat → Int32} (K : (Nat → Int32) → Option (Int32 × Int32 × (Nat → Int32) × (Nat → Int32) × Int32 × Int32 × Int32 × Int32 × Int32 × Int32 × Int32 × Int32 × Int32 × Int32)) (A0 : Nat → Int32) : ∀ r i F A, i + r = 186 → r < F → (∀ j, j < i → A j = fresh j) → (∀ j, 186 ≤ j → A j = A0 j) → ∃ A', fX8_court_145 fresh K F (nI i) A = K A' ∧ (∀ j, j < 186 → A' j = fresh j) ∧ ∀ j, 186 ≤ j → A' j = A0 j := by
  intro r
  induction r with
  | zero =>
    intro i F A hi hF h1 h2
    obtain ⟨F, rfl⟩ : ∃ m, F = m + 1 := ⟨F - 1, by omega⟩
    exact ⟨A, by rw [fX8_court_145, lit 186, if_pos (ile (by omega) (by omega))], fun j hj => h1 j (by omega), h2⟩
  | succ r ih =>
    intro i F A hi hF h1 h2
    obtain ⟨F, rfl⟩ : ∃ m, F = m + 1 := ⟨F - 1, by omega⟩
    rw [fX8_court_145, lit 186, if_neg (inle (by omega) (by omega)), rdI_nI (by omega) (by decide), wrI_nI (by omega) (by decide), nI_inc]
    refine ih (i + 1) F _ (by omega) (by omega) (fun j hj => ?_) (fun j hj => ?_)
    · unfold upd
      by_cases q : j = i
      · rw [if_pos q, q]
      · rw [if_neg q]; exact h1 j (by omega)
    · unfold upd
      rw [if_neg (by omega)]; exact h2 j hj
set_option maxRecDepth 4000 in
theorem st_court : Step_court Rel0 := by
  intro w0 w1 w2 w3 w4 w5 w6 w7 w8 w9 w10 w11 xt xn xf xp rs rz rv made im all has mt mn mf mp so ma nu nh sh g1 g2 g3 g4 g5 s1 s2 s3 s4 s5 s6 s7 s8 s9 s10 s11 s12 th fresh m1 m2 m3 m4 m5 m6 m7 u hR
  obtain ⟨hCt, ⟨t, ht, e1, e2, hTp⟩, ⟨hf1, hf2⟩, hRw, hI⟩ := id hR
  subst e1 e2
  unfold fX7_court fX8_court
  have hlim : (nI t).toInt64.toInt = ((t : Nat) : Int) := by rw [Int32.toInt_toInt64, nI_toInt (by omega)]
  have e0 : (0 : Int64).toInt = 0 := rfl
  rw [within_eq, Int32.toInt_toInt64, hlim, e0, bd1_some]
  rcases rng u (N := t) (by omega) with ⟨h1, hd⟩ | ⟨h1, h2, hd⟩ | ⟨n, hn, rfl⟩
  · rw [if_pos h1, hd]
    exact ⟨-3, nh, sh, nI t, g1, g2, g3, g4, g5, xf, xp, s1, s2, s3, s4, s5, s6, s7, s8, s9, s10, s11, s12, 0, all, fresh, nI t, m1, m2, m3, m4, m5, m6, m7, mf, mp, rfl, rfl, Or.inl ⟨rfl, rfl, hR⟩⟩
  · rw [if_neg h1, if_neg h2, hd]
    exact ⟨-3, nh, sh, nI t, g1, g2, g3, g4, g5, xf, xp, s1, s2, s3, s4, s5, s6, s7, s8, s9, s10, s11, s12, 0, all, fresh, nI t, m1, m2, m3, m4, m5, m6, m7, mf, mp, rfl, rfl, Or.inl ⟨rfl, rfl, hR⟩⟩
  · obtain ⟨r1, r2, r3⟩ := rng_in hn (show t < 2 ^ 31 by omega)
    rw [if_neg r1, if_pos r2, r3, if_neg (show ¬ bI true = 0 by decide)]
    have hx2 : ∀ j, ∃ q, j < t → q < 256 ∧ mt j = nI q ∧ xt j = (nI q).toInt8.toInt32 := fun j => by
      by_cases hj : j < t
      · obtain ⟨q, hq⟩ := hTp j hj; exact ⟨q, fun _ => hq⟩
      · exact ⟨0, fun h => absurd h hj⟩
    obtain ⟨x, hx⟩ := Classical.axiomOfChoice hx2
    have hT : TP xt mt x n := ⟨by omega, fun j hj => hx j (by omega)⟩
    unfold fX3_readTape fX1_clear
    obtain ⟨cc, f1, f2, f3⟩ := fillI (show 12 < 2 ^ 31 by decide) s8 3
    obtain ⟨v1, t1, t2⟩ := nt7 hT (show 0 ≤ n by omega) g3 g4 g5 (-1)
    replace t1 : fX3_nextToken xt (nI n) 0 g3 g4 g5 0 (-1) = _ := t1
    rw [f1, bd1_some, bd8_some, bnd_e, if_neg (inlt hn (by omega)), t1, bd6_some]
    obtain ⟨num0, n1', n2'⟩ := nx8 hT (show 0 ≤ n by omega) m1 m4 m5
    replace n1' : fX8_next mt m1 0 (nI n) m4 m5 = _ := n1'
    obtain ⟨fr0, a1, a2⟩ := fresh8 (fun (t_fresh_10 : Nat → Int32) => bd4 (fX8_next mt m1 0 (nI n) m4 m5) (fun t_at_11 t_behind_12 t_kind_13 t_number_14 => fX8_court_78 mt (nI n) (fun (t_fresh_26 : Nat → Int32) (t_at_27 : Int32) (t_behind_28 : Int32) (t_kind_29 : Int32) (t_number_30 : Int32) (t_wrong_31 : Int32) (t_wrongAt_32 : Int32) => jn (β := Int32 × Int32 × (Nat → Int32) × (Nat → Int32) × Int32 × Int32 × Int32 × Int32 × Int32 × Int32 × Int32 × Int32 × Int32 × Int32) (fun (z_33 : Int32) => if t_wrong_31 = 0 then fX8_court_145 t_fresh_26 (fun (t_all_41 : Nat → Int32) => rdI 558 t_all_41 5 (fun x_42 => some (x_42, (0 : Int32), t_all_41, t_fresh_26, (0 : Int32), t_at_27, t_behind_28, nI n, t_kind_29, t_number_30, t_wrong_31, t_wrongAt_32, t_wrong_31, z_33))) FU 0 all else some (((-30) - t_wrong_31), (0 : Int32), all, t_fresh_26, (0 : Int32), t_at_27, t_behind_28, nI n, t_kind_29, t_number_30, t_wrong_31, t_wrongAt_32, t_wrong_31, z_33)) (fun k_34 => if t_wrong_31 = 0 then k_34 (-1) else k_34 t_wrongAt_32)) FU t_fresh_10 t_at_11 t_behind_12 t_kind_13 t_number_14 0 m7)) 186 0 FU fresh (by omega) (FU_big (by omega)) (fun j hj => absurd hj (by omega))
    have hCX : CX B00 0 0 0 60 0 cc s9 s10 s11 s12 := by
      refine ⟨rfl, rfl, rfl, rfl, ⟨0, fun _ => 0, rfl, by omega, ⟨fun i hi => absurd hi (by omega), fun i j _ hj => absurd hj (by omega), fun a b hab hb ht => absurd hb (b00_0 _)⟩, fun i hi => absurd hi (by omega)⟩, fun w hw => absurd hw (b00_0 _), fun k hk => absurd hk (b00_4 _), fun _ w hw => f2 w hw⟩
    have lp := text_loops hT (fun (t_at_47 : Int32) (t_kind_48 : Int32) (t_start_49 : Int32) (t_value_50 : Int32) (t_fault_51 : Int32) (t_place_52 : Int32) (p1_windows_53 : Int32) (p1_washes_54 : Int32) (p1_damp_55 : Int32) (p1_heard_56 : Int32) (p1_lines_57 : Int32) (p1_strings_58 : Int32) (p1_cans_59 : Nat → Int32) (p1_washPairs_60 : Nat → Int32) (p1_washHours_61 : Nat → Int32) (p1_pairs_62 : Nat → Int32) (p1_knots_63 : Nat → Int32) => some ((0 : Int32), nI n, t_at_47, t_kind_48, t_start_49, t_value_50, t_fault_51, t_place_52, p1_windows_53, p1_washes_54, p1_damp_55, p1_heard_56, p1_lines_57, (0 : Int32), p1_strings_58, p1_cans_59, p1_washPairs_60, p1_washHours_61, p1_pairs_62, p1_knots_63)) (fun (t_fresh_26 : Nat → Int32) (t_at_27 : Int32) (t_behind_28 : Int32) (t_kind_29 : Int32) (t_number_30 : Int32) (t_wrong_31 : Int32) (t_wrongAt_32 : Int32) => jn (β := Int32 × Int32 × (Nat → Int32) × (Nat → Int32) × Int32 × Int32 × Int32 × Int32 × Int32 × Int32 × Int32 × Int32 × Int32 × Int32) (fun (z_33 : Int32) => if t_wrong_31 = 0 then fX8_court_145 t_fresh_26 (fun (t_all_41 : Nat → Int32) => rdI 558 t_all_41 5 (fun x_42 => some (x_42, (0 : Int32), t_all_41, t_fresh_26, (0 : Int32), t_at_27, t_behind_28, nI n, t_kind_29, t_number_30, t_wrong_31, t_wrongAt_32, t_wrong_31, z_33))) FU 0 all else some (((-30) - t_wrong_31), (0 : Int32), all, t_fresh_26, (0 : Int32), t_at_27, t_behind_28, nI n, t_kind_29, t_number_30, t_wrong_31, t_wrongAt_32, t_wrong_31, z_33)) (fun k_34 => if t_wrong_31 = 0 then k_34 (-1) else k_34 t_wrongAt_32)) n 0 FU FU B00 v1 0 0 0 60 0 cc s9 s10 s11 s12 fr0 num0 m7 (by omega) (by omega) (FU_big (by omega)) (FU_big (by omega)) WF_00 (by decide) (by decide) hCX a2 n2'
    replace a1 : fX8_court_44 _ FU 0 fresh = _ := a1
    rcases lp with ⟨f, st, a, k, s, v', c1, c2, c3, c4, c5, c6, c7, c8, c9, c10, c11, fr, a', b', k', m', q1, q2, j1, j2⟩ | ⟨B', a, k, s, v', c1, c2, c3, c4, c5, c6, c7, c8, c9, c10, fr, a', b', k', m', wa', w1', w2', w3', w4', j1, j2⟩
    · have hne := f_ne q1 q2
      refine ⟨-30 - nI f, nh, sh, 0, nI n, a, k, s, v', nI f, nI st, c1, c2, c3, c4, c5, 0, c6, c7, c8, c9, c10, c11, 0, all, fr, 0, a', b', nI n, k', m', nI f, nI st, nI f, nI st, ?_, a1.trans ?_, Or.inl ⟨rfl, rfl, hCt, ⟨0, by omega, rfl, rfl, fun j hj => absurd hj (by omega)⟩, ⟨rfl, rfl⟩, hRw, hI⟩⟩
      · refine Eq.trans (congrArg (fun z => bd20 z _) j1) ?_
        show (if nI f = 0 then _ else _) = _
        rw [if_neg hne]
      · rw [n1', bd4_some]
        refine j2.trans ?_
        rw [jn_eq, if_neg hne]
        dsimp only
        rw [if_neg hne]
    · obtain ⟨A', p1, p2, p3⟩ := copy_all (fresh := fr) (fun (t_all_41 : Nat → Int32) => rdI 558 t_all_41 5 (fun x_42 => some (x_42, (0 : Int32), t_all_41, fr, (0 : Int32), a', b', nI n, k', m', (0 : Int32), wa', (0 : Int32), (-1 : Int32)))) all 186 0 FU all (by omega) (FU_big (by omega)) (fun j hj => absurd hj (by omega)) (fun _ _ => rfl)
      replace p1 : fX8_court_145 fr _ FU 0 all = _ := p1
      have hMB : MB A' 0 B' := fun j hj => by rw [Nat.zero_add, p2 j hj]; have := w4' j hj; rw [Nat.zero_add] at this; exact this
      have rd5 : ∀ {β : Type} (kk : Int32 → Option β), rdI 558 A' 5 kk = kk (nI (B' 5)) := fun kk => rd_MB (j := 5) hMB (by decide) (by decide) (by decide)
      obtain ⟨x1, x2, x3, x4, x5, x7, x8, x9⟩ := w3'
      refine ⟨nI (B' 5), sh, nh, 0, nI n, a, k, s, v', 0, -1, c1, c2, c3, c4, nI (B' 5), 0, c5, c6, c7, c8, c9, c10, 0, A', fr, 0, a', b', nI n, k', m', 0, wa', 0, -1, ?_, a1.trans ?_, Or.inr ⟨rfl, rfl, ⟨B', w1', hMB, x1, x2, x3, x4, rfl, by rw [w2']; rfl, x5, x7, x8⟩, ⟨0, by omega, rfl, rfl, fun j hj => absurd hj (by omega)⟩, ⟨rfl, rfl⟩, hRw, imgs_keep hI p3⟩⟩
      · refine Eq.trans (congrArg (fun z => bd20 z _) j1) ?_
        rw [bd20_some, if_pos rfl]
      · rw [n1', bd4_some]
        refine j2.trans ?_
        rw [jn_eq, if_pos rfl]
        dsimp only
        rw [if_pos rfl]
        refine p1.trans ?_
        rw [rd5]
