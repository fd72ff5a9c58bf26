-- uses:
/-! the model's strings, and its line -/
def seK (fresh : Nat → Int32) (r7 r20 z a b k m w wa : Int32) : Option ((Nat → Int32) × Int32 × Int32 × Int32 × Int32 × Int32 × Int32) :=
  bd1 (fX8_is k w 9) (fun r_36 => jn (β := (Nat → Int32) × Int32 × Int32 × Int32 × Int32 × Int32 × Int32) (fun (t_wrong_38 : Int32) (t_wrongAt_39 : Int32) => if t_wrong_38 = 0 then bd1 (fX8_sets 186 fresh r7 r20 (z + 1)) (fun t_fresh_42 => some (t_fresh_42, a, b, k, m, t_wrong_38, t_wrongAt_39)) else some (fresh, a, b, k, m, t_wrong_38, t_wrongAt_39)) (fun k_40 => if r_36 = 0 then bd2 (fX8_fails a k w wa 2) (fun t_wrong_57 t_wrongAt_58 => k_40 t_wrong_57 t_wrongAt_58) else jn (β := (Nat → Int32) × Int32 × Int32 × Int32 × Int32 × Int32 × Int32) (fun (z_45 : Int32) => jn (β := (Nat → Int32) × Int32 × Int32 × Int32 × Int32 × Int32 × Int32) (fun (z_47 : Int32) => bd1 (fX8_refusesIn 186 fresh z_45 z_47) (fun r_49 => if r_49 = 0 then k_40 w wa else bd2 (fX8_fails a k w wa 5) (fun t_wrong_52 t_wrongAt_53 => k_40 t_wrong_52 t_wrongAt_53))) (fun k_48 => if r20 ≤ r7 then k_48 r7 else k_48 r20)) (fun k_46 => if r20 ≤ r7 then k_46 r20 else k_46 r7)))
def seR (mt : Nat → Int32) (n : Int32) (fresh : Nat → Int32) (r7 r20 a b k m w wa : Int32) : Option ((Nat → Int32) × Int32 × Int32 × Int32 × Int32 × Int32 × Int32) :=
  bd5 (fX8_eats mt a b n k m w 6) (fun r_26 t_at_22 t_behind_23 t_kind_24 t_number_25 => if r_26 = 0 then seK fresh r7 r20 0 t_at_22 t_behind_23 t_kind_24 t_number_25 w wa else bd7 (fX8_takes mt t_at_22 t_behind_23 n t_kind_24 t_number_25 w wa 0 9) (fun r_67 t_at_61 t_behind_62 t_kind_63 t_number_64 t_wrong_65 t_wrongAt_66 => seK fresh r7 r20 r_67 t_at_61 t_behind_62 t_kind_63 t_number_64 t_wrong_65 t_wrongAt_66))
theorem str8_unf (mt fresh : Nat → Int32) (a b n k m w wa : Int32) : fX8_readString mt fresh a b n k m w wa = bd7 (fX8_takesWindow mt fresh a b n k m w wa) (fun r_7 t_at_1 t_behind_2 t_kind_3 t_number_4 t_wrong_5 t_wrongAt_6 => bd1 (fX8_is t_kind_3 t_wrong_5 8) (fun r_9 => jn (β := (Nat → Int32) × Int32 × Int32 × Int32 × Int32 × Int32 × Int32) (fun (t_wrong_11 : Int32) (t_wrongAt_12 : Int32) => bd7 (fX8_takesWindow mt fresh t_at_1 t_behind_2 n t_kind_3 t_number_4 t_wrong_11 t_wrongAt_12) (fun r_20 t_at_14 t_behind_15 t_kind_16 t_number_17 t_wrong_18 t_wrongAt_19 => seR mt n fresh r_7 r_20 t_at_14 t_behind_15 t_kind_16 t_number_17 t_wrong_18 t_wrongAt_19)) (fun k_13 => if r_9 = 0 then k_13 t_wrong_5 t_wrongAt_6 else if t_number_4 = r_7 then bd2 (fX8_fails t_at_1 t_kind_3 t_wrong_5 t_wrongAt_6 3) (fun t_wrong_71 t_wrongAt_72 => k_13 t_wrong_71 t_wrongAt_72) else k_13 t_wrong_5 t_wrongAt_6))) := rfl
theorem seK_f {fresh : Nat → Int32} {r7 r20 z a b k m w wa : Int32} (h : ¬ w = 0) : seK fresh r7 r20 z a b k m w wa = some (fresh, a, b, k, m, w, wa) := by
  unfold seK
  rw [is8_f h, bd1_some, jn_eq, if_pos rfl, fails8_f h, bd2_some]
  dsimp only
  rw [if_neg h]
theorem seR_f {mt fresh : Nat → Int32} {n r7 r20 a b k m w wa : Int32} (h : ¬ w = 0) : seR mt n fresh r7 r20 a b k m w wa = some (fresh, a, b, k, m, w, wa) := by
  unfold seR fX8_eats
  rw [is8_f h, bd1_some, if_pos rfl, bd5_some, if_pos rfl, seK_f h]
theorem setB_mm (B : Nat → Nat) (a b v : Nat) : setB B a b v = setB B (min a b) (max a b) v := by
  by_cases q : a ≤ b
  · rw [Nat.min_eq_left q, Nat.max_eq_right q]
  · rw [Nat.min_eq_right (by omega), Nat.max_eq_left (by omega)]
    funext j
    unfold setB va_up
    by_cases c1 : j = 42 + 12 * b + a
    · by_cases c2 : j = 42 + 12 * a + b
      · rw [if_pos c1, if_pos c2]
      · rw [if_pos c1, if_neg c2, if_pos c1]
    · by_cases c2 : j = 42 + 12 * a + b
      · rw [if_neg c1, if_pos c2, if_pos c2]
      · rw [if_neg c1, if_neg c2, if_neg c2, if_neg c1]
theorem seK_ok {xt mt fresh : Nat → Int32} {x B : Nat → Nat} {n q a b kn : Nat} (hT : TP xt mt x n) (hB : WF B) (hq : q ≤ n) (ha : a < B 0) (hb : b < B 0) (hM : MB fresh 0 B) (num wa : Int32) :
    out8 x n (strE x n B a b q kn) (bd7 (seK fresh (nI a) (nI b) (nI kn) (nI (stp x n q)) (nI (en8 x n q)) (nI (mkT x n q)) num 0 wa) (tlF mt n)) := by
  have h12 := hB.1
  have i9 := is8 (x := x) (n := n) (q := q) (i := 9) (by omega)
  replace i9 : fX8_is (nI (mkT x n q)) 0 9 = _ := i9
  have hr := refN_le B (min a b) (max a b)
  unfold seK strE
  rw [i9, bd1_some, jn_eq, bI_0', jn1, jn1]
  have e1 : (if nI b ≤ nI a then nI b else nI a) = nI (min a b) := by
    by_cases c : b ≤ a
    · rw [if_pos (ile c (by omega)), Nat.min_eq_right c]
    · rw [if_neg (inle (by omega) (by omega)), Nat.min_eq_left (by omega)]
  have e2 : (if nI b ≤ nI a then nI a else nI b) = nI (max a b) := by
    by_cases c : b ≤ a
    · rw [if_pos (ile c (by omega)), Nat.max_eq_left c]
    · rw [if_neg (inle (by omega) (by omega)), Nat.max_eq_right (by omega)]
  rw [e1, e2, ref8 hM hB (Nat.le_refl _) (by decide) (by omega) (by omega), bd1_some, fails8, fails8, bd2_some, bd2_some]
  by_cases q9 : mkT x n q = 9
  · obtain ⟨c1, c2⟩ := (mk_9 hq).mp q9
    have hs : sfT x n q = none := by unfold sfT; rw [c1, if_neg (by decide), if_pos c2]
    rw [decide_eq_true q9, if_pos rfl, bsem_n hs, c1]
    simp only [Bool.false_eq_true, if_false]
    by_cases q5 : refN B (min a b) (max a b) = 0
    · obtain ⟨A', s1, s2, s3⟩ := sets8 (N := 186) (a := a) (b := b) (v := kn + 1) hM (Nat.le_refl _) (by decide) (by omega) (by omega)
      rw [if_pos q5, q5, if_pos (show nI 0 = 0 from rfl), if_pos trivial, nI_inc, s1, bd1_some, bd7_some]
      have := semi8 hT hq s2 num wa
      rw [bsem_n hs, setB_mm] at this
      exact this
    · rw [if_neg q5, if_neg (show ¬ nI (refN B (min a b) (max a b)) = 0 by rw [n0]; exact ine q5 (by omega) (by decide)), if_neg (show ¬ (5 : Int32) = 0 by decide), bd7_some]
      exact out_f (f := 5) (by omega) (by omega)
  · rw [decide_eq_false q9, if_neg Bool.false_ne_true]
    cases hbd : badT x n q with
    | true =>
      have hs : sfT x n q = some (1, stp x n q) := by unfold sfT; rw [hbd, if_pos rfl]
      simp only [if_true]
      rw [bsem_s hs, if_neg (show ¬ (1 : Int32) = 0 by decide), bd7_some]
      exact out_f (f := 1) (by omega) (by omega)
    | false =>
      have h2 : ¬ kT x n q = 2 := fun e => q9 ((mk_9 hq).mpr ⟨hbd, e⟩)
      have hs : sfT x n q = some (2, stp x n q) := by unfold sfT; rw [hbd, if_neg (by decide), if_neg h2]
      simp only [Bool.false_eq_true, if_false]
      rw [bsem_s hs, if_neg (show ¬ (2 : Int32) = 0 by decide), bd7_some]
      exact out_f (f := 2) (by omega) (by omega)
theorem eats8_y {xt mt : Nat → Int32} {x : Nat → Nat} {n q i : Nat} (hT : TP xt mt x n) (hq : q ≤ n) (hb : badT x n q = false) (hi : i ≤ 11) (h : mkT x n q = i) (num : Int32) : ∃ num', fX8_eats mt (nI (stp x n q)) (nI (en8 x n q)) (nI n) (nI (mkT x n q)) num 0 (nI i) = some (1, nI (stp x n (enT x n q)), nI (en8 x n (enT x n q)), nI (mkT x n (enT x n q)), num') ∧ nok x n (enT x n q) num' := by
  have he := en_le (x := x) hq
  obtain ⟨num', g1, g2⟩ := nx8 hT (show enT x n q ≤ n by omega) (nI (stp x n q)) (nI (mkT x n q)) num
  refine ⟨num', ?_, g2⟩
  unfold fX8_eats
  rw [is8 hi, bd1_some, decide_eq_true h, bI_0', if_pos rfl, en8_ok hb, g1, bd4_some]
theorem eats8_n {mt : Nat → Int32} {x : Nat → Nat} {n q i : Nat} (hi : i ≤ 11) (h : ¬ mkT x n q = i) (num : Int32) : fX8_eats mt (nI (stp x n q)) (nI (en8 x n q)) (nI n) (nI (mkT x n q)) num 0 (nI i) = some (0, nI (stp x n q), nI (en8 x n q), nI (mkT x n q), num) := by
  unfold fX8_eats
  rw [is8 hi, bd1_some, decide_eq_false h, bI_0', if_neg Bool.false_ne_true]
theorem str8 {xt mt fresh : Nat → Int32} {x B : Nat → Nat} {n q : Nat} (hT : TP xt mt x n) (hB : WF B) (h3 : 3 ≤ B 0) (hq : q ≤ n) (hM : MB fresh 0 B) {num : Int32} (hn : nok x n q num) (wa : Int32) :
    out8 x n (lnStr x n B q) (bd7 (fX8_readString mt fresh (nI (stp x n q)) (nI (en8 x n q)) (nI n) (nI (mkT x n q)) num 0 wa) (tlF mt n)) := by
  have h12 := hB.1
  have he := en_le (x := x) hq
  rw [str8_unf]
  unfold lnStr
  rw [tw8 hM h3]
  rcases takes8 (lo := 0) (hi := B 0 - 1) hT hq (by omega) (by omega) hn wa with ⟨h1, num2, h2, h4⟩ | ⟨f, r, a, b, k, m, h1, h2, h4, h5⟩
  · obtain ⟨_, _, b1, b2⟩ := nf_ok h1
    rw [h2, bd7_some, bnum_n h1]
    have he1 := en_le (x := x) (show enT x n q ≤ n by omega)
    generalize enT x n q = q2 at *
    generalize valT x n q = a at *
    have i8 := is8 (x := x) (n := n) (q := q2) (i := 8) (by omega)
    replace i8 : fX8_is (nI (mkT x n q2)) 0 8 = _ := i8
    rw [i8, bd1_some, jn_eq, bI_0', fails8, bd2_some]
    dsimp only
    rw [tw8 hM h3, tw8 hM h3]
    by_cases q3 : nfT x n q2 0 (B 0 - 1) = none ∧ a = valT x n q2
    · obtain ⟨c1, c2, c3, c4⟩ := nf_ok q3.1
      have hv := h4 c2 c1
      have h31 : ¬ (3 : Int32) = 0 := by decide
      rw [bnum_n q3.1, if_pos q3.2, decide_eq_true (mk_8.mpr ⟨c2, c1⟩), if_pos rfl, c1, if_neg Bool.false_ne_true, if_pos (by rw [hv, q3.2]), takes8_f h31, bd7_some, seR_f h31, bd7_some]
      exact out_f (f := 3) (by omega) (by omega)
    · have hgo : ∀ {β : Type} (c0 c1 : Option β), (if decide (mkT x n q2 = 8) = true then (if num2 = nI a then c1 else c0) else c0) = c0 := by
        intro β c0 c1
        by_cases m8 : mkT x n q2 = 8
        · obtain ⟨c2, c3⟩ := mk_8.mp m8
          obtain ⟨l1, l2⟩ := val_lt c2 c3
          have hv := h4 c2 c3
          rw [decide_eq_true m8, if_pos rfl, hv]
          by_cases e : valT x n q2 = a
          · exfalso
            apply q3
            refine ⟨?_, e.symm⟩
            unfold nfT
            rw [c3, if_neg (by decide), if_pos c2, if_pos (by omega)]
          · rw [if_neg (ine e (by omega) (by omega))]
        · rw [decide_eq_false m8, if_neg Bool.false_ne_true]
      rw [hgo]
      rcases takes8 (lo := 0) (hi := B 0 - 1) hT (show q2 ≤ n by omega) (by omega) (by omega) h4 wa with ⟨i1, num3, i2, i4⟩ | ⟨f, r, a', b, k, m, i1, i2, i4, i5⟩
      · obtain ⟨_, _, d1, d2⟩ := nf_ok i1
        have hne : ¬ a = valT x n q2 := fun e => q3 ⟨i1, e⟩
        rw [i2, bd7_some, bnum_n i1, if_neg hne]
        have he2 := en_le (x := x) (show enT x n q2 ≤ n by omega)
        generalize enT x n q2 = q3' at *
        generalize valT x n q2 = b at *
        unfold seR
        rw [wdT_mk (by decide)]
        by_cases m6 : mkT x n q3' = 6
        · have hb3 : badT x n q3' = false := by
            cases e : badT x n q3' with
            | false => rfl
            | true => have := mk_11.mpr e; omega
          obtain ⟨num4, j1, j2⟩ := eats8_y hT (show q3' ≤ n by omega) hb3 (by omega) m6 num3
          replace j1 : fX8_eats mt (nI (stp x n q3')) (nI (en8 x n q3')) (nI n) (nI (mkT x n q3')) num3 0 6 = _ := j1
          rw [j1, bd5_some, if_neg (show ¬ (1 : Int32) = 0 by decide), decide_eq_true m6, if_pos rfl]
          have he3 := en_le (x := x) (show enT x n q3' ≤ n by omega)
          generalize enT x n q3' = q4 at *
          rcases takes8 (lo := 0) (hi := 9) hT (show q4 ≤ n by omega) (by omega) (by omega) j2 wa with ⟨k1, num5, k2, k4⟩ | ⟨f, r, a', b', k, m, k1, k2, k4, k5⟩
          · replace k2 : fX8_takes mt (nI (stp x n q4)) (nI (en8 x n q4)) (nI n) (nI (mkT x n q4)) num4 0 wa 0 9 = _ := k2
            rw [k2, bd7_some, bnum_n k1]
            exact seK_ok hT hB (by omega) (by omega) (by omega) hM num5 wa
          · replace k5 : fX8_takes mt (nI (stp x n q4)) (nI (en8 x n q4)) (nI n) (nI (mkT x n q4)) num4 0 wa 0 9 = _ := k5
            rw [k5, bd7_some, bnum_s k1, seK_f (f_ne k2 k4), bd7_some]
            exact out_f k2 k4
        · have j1 := eats8_n (mt := mt) (x := x) (n := n) (q := q3') (i := 6) (by omega) m6 num3
          replace j1 : fX8_eats mt (nI (stp x n q3')) (nI (en8 x n q3')) (nI n) (nI (mkT x n q3')) num3 0 6 = _ := j1
          rw [j1, bd5_some, if_pos rfl, decide_eq_false m6, if_neg Bool.false_ne_true]
          exact seK_ok (kn := 0) hT hB (by omega) (by omega) (by omega) hM num3 wa
      · rw [i5, bd7_some, bnum_s i1, seR_f (f_ne i2 i4), bd7_some]
        exact out_f i2 i4
  · have hne := f_ne h2 h4
    rw [h5, bd7_some, bnum_s h1, is8_f hne, bd1_some, jn_eq, if_pos rfl]
    dsimp only
    rw [tw8 hM h3, takes8_f hne, bd7_some, seR_f hne, bd7_some]
    exact out_f h2 h4
theorem line8_unf (mt fresh : Nat → Int32) (a b n k m w wa : Int32) : fX8_readLine mt fresh a b n k m w wa = bd1 (fX8_is k w 0) (fun r_1 => if r_1 = 0 then rdI 186 fresh 0 (fun x_29 => if x_29 = 0 then bd2 (fX8_fails a k w wa 2) (fun w wa => tlK mt n fresh a b k m w wa) else bd1 (fX8_is k w 2) (fun r_32 => if r_32 = 0 then bd5 (fX8_eats mt a b n k m w 1) (fun r_39 t_at_35 t_behind_36 t_kind_37 t_number_38 => if r_39 = 0 then bd5 (fX8_eats mt t_at_35 t_behind_36 n t_kind_37 t_number_38 w 3) (fun r_46 t_at_42 t_behind_43 t_kind_44 t_number_45 => if r_46 = 0 then bd5 (fX8_eats mt t_at_42 t_behind_43 n t_kind_44 t_number_45 w 4) (fun r_53 t_at_49 t_behind_50 t_kind_51 t_number_52 => if r_53 = 0 then bd5 (fX8_eats mt t_at_49 t_behind_50 n t_kind_51 t_number_52 w 5) (fun r_60 t_at_56 t_behind_57 t_kind_58 t_number_59 => if r_60 = 0 then bd2 (fX8_fails t_at_56 t_kind_58 w wa 2) (fun w wa => tlK mt n fresh t_at_56 t_behind_57 t_kind_58 t_number_59 w wa) else bd7 (fX8_readString mt fresh t_at_56 t_behind_57 n t_kind_58 t_number_59 w wa) (fun fr a b k m w wa => tlK mt n fr a b k m w wa)) else bd7 (fX8_takes mt t_at_49 t_behind_50 n t_kind_51 t_number_52 w wa 1 999) (fun r a b k m w wa => wrI 186 fresh 3 r (fun fr => tlK mt n fr a b k m w wa))) else bd7 (fX8_takes mt t_at_42 t_behind_43 n t_kind_44 t_number_45 w wa 0 20) (fun r a b k m w wa => wrI 186 fresh 2 r (fun fr => tlK mt n fr a b k m w wa))) else bd7 (fX8_readCans mt fresh t_at_35 t_behind_36 n t_kind_37 t_number_38 w wa) (fun fr a b k m w wa => tlK mt n fr a b k m w wa)) else bd7 (fX8_readWash mt fresh a b n k m w wa) (fun fr a b k m w wa => tlK mt n fr a b k m w wa))) else bd7 (fX8_readWindows mt fresh a b n k m w wa) (fun fr a b k m w wa => tlK mt n fr a b k m w wa)) := rfl
theorem line8 {xt mt fresh : Nat → Int32} {x B : Nat → Nat} {n p : Nat} (hT : TP xt mt x n) (hB : WF B) (hp : p ≤ n) (hb : badT x n p = false) (hM : MB fresh 0 B) (num wa : Int32) :
    out8 x n (lineR x n p B) (fX8_readLine mt fresh (nI (stp x n p)) (nI (en8 x n p)) (nI n) (nI (mkT x n p)) num 0 wa) := by
  have h12 := hB.1
  have h03 := hB.2.1
  have he := en_le (x := x) hp
  have i0 := is8 (x := x) (n := n) (q := p) (i := 0) (by omega)
  replace i0 : fX8_is (nI (mkT x n p)) 0 0 = _ := i0
  have i2 := is8 (x := x) (n := n) (q := p) (i := 2) (by omega)
  replace i2 : fX8_is (nI (mkT x n p)) 0 2 = _ := i2
  have h21 : ¬ (2 : Int32) = 0 := by decide
  unfold lineR
  rw [line8_unf, i0, bd1_some, bI_0', rd0 hM, fails8, hb, bd2_some, i2, bd1_some, bI_0', wdT_mk (by decide), wdT_mk (by decide), wdT_mk (by decide), wdT_mk (by decide), wdT_mk (by decide), wdT_mk (by decide)]
  by_cases m0 : mkT x n p = 0
  · rw [decide_eq_true m0, if_pos rfl, if_pos rfl]
    exact win8 hT hB hp hb hM num wa
  · rw [decide_eq_false m0, if_neg Bool.false_ne_true, if_neg Bool.false_ne_true, if_neg Bool.false_ne_true]
    by_cases q0 : B 0 = 0
    · rw [if_pos (show nI (B 0) = 0 by rw [q0]; rfl), if_pos q0]
      exact out_f (f := 2) (by omega) (by omega)
    · have h3 : 3 ≤ B 0 := by omega
      rw [if_neg (show ¬ nI (B 0) = 0 from ine (b := 0) q0 (by omega) (by decide)), if_neg q0]
      by_cases m2 : mkT x n p = 2
      · have m1 : ¬ mkT x n p = 1 := by omega
        rw [decide_eq_true m2, decide_eq_false m1, if_neg Bool.false_ne_true, if_pos rfl, if_pos rfl]
        exact wsh8 hT hB h3 hp hb hM num wa
      · rw [decide_eq_false m2, if_neg Bool.false_ne_true, if_neg Bool.false_ne_true]
        by_cases m1 : mkT x n p = 1
        · obtain ⟨num', j1, j2⟩ := eats8_y hT hp hb (by omega) m1 num
          replace j1 : fX8_eats mt (nI (stp x n p)) (nI (en8 x n p)) (nI n) (nI (mkT x n p)) num 0 1 = _ := j1
          rw [j1, bd5_some, if_neg (show ¬ (1 : Int32) = 0 by decide), decide_eq_true m1, if_pos rfl]
          exact can8 hT hB h3 (by omega) hM j2 wa
        · have j1 := eats8_n (mt := mt) (x := x) (n := n) (q := p) (i := 1) (by omega) m1 num
          replace j1 : fX8_eats mt (nI (stp x n p)) (nI (en8 x n p)) (nI n) (nI (mkT x n p)) num 0 1 = _ := j1
          rw [j1, bd5_some, if_pos rfl, decide_eq_false m1, if_neg Bool.false_ne_true]
          by_cases m3 : mkT x n p = 3
          · obtain ⟨num', k1, k2⟩ := eats8_y hT hp hb (by omega) m3 num
            replace k1 : fX8_eats mt (nI (stp x n p)) (nI (en8 x n p)) (nI n) (nI (mkT x n p)) num 0 3 = _ := k1
            rw [k1, bd5_some, if_neg (show ¬ (1 : Int32) = 0 by decide), decide_eq_true m3, if_pos rfl]
            exact num8 (lo := 0) (hi := 20) (j := 2) hT (by omega) (by omega) (by omega) (by omega) hM k2 wa
          · have k1 := eats8_n (mt := mt) (x := x) (n := n) (q := p) (i := 3) (by omega) m3 num
            replace k1 : fX8_eats mt (nI (stp x n p)) (nI (en8 x n p)) (nI n) (nI (mkT x n p)) num 0 3 = _ := k1
            rw [k1, bd5_some, if_pos rfl, decide_eq_false m3, if_neg Bool.false_ne_true]
            by_cases m4 : mkT x n p = 4
            · obtain ⟨num', l1, l2⟩ := eats8_y hT hp hb (by omega) m4 num
              replace l1 : fX8_eats mt (nI (stp x n p)) (nI (en8 x n p)) (nI n) (nI (mkT x n p)) num 0 4 = _ := l1
              rw [l1, bd5_some, if_neg (show ¬ (1 : Int32) = 0 by decide), decide_eq_true m4, if_pos rfl]
              exact num8 (lo := 1) (hi := 999) (j := 3) hT (by omega) (by omega) (by omega) (by omega) hM l2 wa
            · have l1 := eats8_n (mt := mt) (x := x) (n := n) (q := p) (i := 4) (by omega) m4 num
              replace l1 : fX8_eats mt (nI (stp x n p)) (nI (en8 x n p)) (nI n) (nI (mkT x n p)) num 0 4 = _ := l1
              rw [l1, bd5_some, if_pos rfl, decide_eq_false m4, if_neg Bool.false_ne_true]
              by_cases m5 : mkT x n p = 5
              · obtain ⟨num', o1, o2⟩ := eats8_y hT hp hb (by omega) m5 num
                replace o1 : fX8_eats mt (nI (stp x n p)) (nI (en8 x n p)) (nI n) (nI (mkT x n p)) num 0 5 = _ := o1
                rw [o1, bd5_some, if_neg (show ¬ (1 : Int32) = 0 by decide), decide_eq_true m5, if_pos rfl]
                exact str8 hT hB h3 (by omega) hM o2 wa
              · have o1 := eats8_n (mt := mt) (x := x) (n := n) (q := p) (i := 5) (by omega) m5 num
                replace o1 : fX8_eats mt (nI (stp x n p)) (nI (en8 x n p)) (nI n) (nI (mkT x n p)) num 0 5 = _ := o1
                rw [o1, bd5_some, if_pos rfl, decide_eq_false m5, if_neg Bool.false_ne_true, fails8, hb, bd2_some, if_neg Bool.false_ne_true]
                exact out_f (f := 2) (by omega) (by omega)
theorem line8_bad {mt fresh : Nat → Int32} {x B : Nat → Nat} {n p : Nat} (hB : WF B) (hb : badT x n p = true) (hM : MB fresh 0 B) (num wa : Int32) :
    ∃ fr a b k m, fX8_readLine mt fresh (nI (stp x n p)) (nI (en8 x n p)) (nI n) (nI (mkT x n p)) num 0 wa = some (fr, a, b, k, m, 1, nI (stp x n p)) := by
  have h12 := hB.1
  have m11 := mk_11.mpr hb
  have h11 : ¬ (1 : Int32) = 0 := by decide
  have en : ∀ i, i < 7 → fX8_eats mt (nI (stp x n p)) (nI (en8 x n p)) (nI n) (nI (mkT x n p)) num 0 (nI i) = some (0, nI (stp x n p), nI (en8 x n p), nI (mkT x n p), num) := fun i hi => eats8_n (by omega) (by omega) num
  have i0 := is8 (x := x) (n := n) (q := p) (i := 0) (by omega)
  replace i0 : fX8_is (nI (mkT x n p)) 0 0 = _ := i0
  have i2 := is8 (x := x) (n := n) (q := p) (i := 2) (by omega)
  replace i2 : fX8_is (nI (mkT x n p)) 0 2 = _ := i2
  have t1 : fX8_eats mt (nI (stp x n p)) (nI (en8 x n p)) (nI n) (nI (mkT x n p)) num 0 1 = _ := en 1 (by decide)
  have t3 : fX8_eats mt (nI (stp x n p)) (nI (en8 x n p)) (nI n) (nI (mkT x n p)) num 0 3 = _ := en 3 (by decide)
  have t4 : fX8_eats mt (nI (stp x n p)) (nI (en8 x n p)) (nI n) (nI (mkT x n p)) num 0 4 = _ := en 4 (by decide)
  have t5 : fX8_eats mt (nI (stp x n p)) (nI (en8 x n p)) (nI n) (nI (mkT x n p)) num 0 5 = _ := en 5 (by decide)
  rw [line8_unf, i0, decide_eq_false (show ¬ mkT x n p = 0 by omega), bd1_some, bI_0', if_neg Bool.false_ne_true, rd0 hM, fails8, hb, bd2_some, if_pos rfl, tail8_f h11, i2, decide_eq_false (show ¬ mkT x n p = 2 by omega), bd1_some, bI_0', if_neg Bool.false_ne_true, t1, bd5_some, if_pos rfl, t3, bd5_some, if_pos rfl, t4, bd5_some, if_pos rfl, t5, bd5_some, if_pos rfl, fails8, hb, bd2_some, if_pos rfl, tail8_f h11]
  split <;> exact ⟨_, _, _, _, _, rfl⟩
