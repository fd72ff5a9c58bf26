-- uses:
/-! how the class reads washing and strings -/
theorem absI {a b : Nat} (ha : a < 1000) (hb : b < 1000) : (if (0 : Int32) ≤ nI a - nI b then nI a - nI b else 0 - (nI a - nI b)) = nI (max a b - min a b) := by
  have hs := pk_sub_toInt (a := a) (b := b) (by omega) (by omega)
  by_cases q : b ≤ a
  · rw [if_pos (by rw [Int32.le_iff_toInt_le, hs]; show (0 : Int) ≤ _; omega), pk_sub q, Nat.max_eq_left q, Nat.min_eq_right q]
  · rw [if_neg (by rw [Int32.le_iff_toInt_le, hs]; show ¬ (0 : Int) ≤ _; omega), Int32.zero_sub, Int32.neg_sub, pk_sub (by omega), Nat.max_eq_right (by omega), Nat.min_eq_left (by omega)]
theorem wst_f {s f pl w a b m : Int32} (h : ¬ f = 0) : fX3_wantSteps s f pl w a b m = some (f, pl) := by
  unfold fX3_wantSteps
  rw [bnd_e, bnd_e, ref7_f h, bd2_some]
  exact ite_self _
theorem wst7 {n a b m : Nat} {s pl : Int32} (hn : n ≤ 12) (ha : a < n) (hb : b < n) (hm : m ≤ 2) : fX3_wantSteps s 0 pl (nI n) (nI a) (nI b) (nI m) = if min (max a b - min a b) (n - (max a b - min a b)) < m then some (3, s) else some (0, pl) := by
  unfold fX3_wantSteps
  rw [absI (by omega) (by omega), bnd_e, bnd_e, pk_sub (by omega), ref7_0, bd2_some]
  generalize hd : max a b - min a b = d
  have e : (if nI (n - d) < nI d then nI (n - d) else nI d) = nI (min d (n - d)) := by
    by_cases q : n - d < d
    · rw [if_pos (ilt q (by omega)), Nat.min_eq_right (by omega)]
    · rw [if_neg (inlt (by omega) (by omega)), Nat.min_eq_left (by omega)]
  rw [e]
  by_cases q : m ≤ min d (n - d)
  · rw [if_pos (ile q (by omega)), if_neg (by omega)]
  · rw [if_neg (inle (by omega) (by omega)), if_pos (by omega)]
theorem po_some (r s : Int32) : ∃ v, fX7_pairOf r s = some v := by
  unfold fX7_pairOf
  exact ⟨_, rfl⟩
theorem wash7 {xt mt : Nat → Int32} {x B : Nat → Nat} {n q : Nat} (hT : TP xt mt x n) (hB : WF B) (h3 : 3 ≤ B 0) (h8 : B 4 < 8) (hq : q ≤ n) (k s v pl : Int32) (wp wh : Nat → Int32) :
    (∃ f st a k' s' v' c1 c2 c3, bad7 (lnWsh x n B q) f st n ∧ fX3_readWash xt (nI n) (nI q) k s v 0 pl (nI (B 0)) (nI (B 4)) wp wh = some (a, k', s', v', nI f, nI st, c1, c2, c3)) ∨
    ∃ q' a b h v', good7 x n q (lnWsh x n B q) q' (wshB B a b h) ∧ a < B 0 ∧ b < B 0 ∧ nearB (B 0) a b = false ∧ h ≤ 4095 ∧ fX3_readWash xt (nI n) (nI q) k s v 0 pl (nI (B 0)) (nI (B 4)) wp wh = some (nI (enT x n q'), nI (kT x n q'), nI (stp x n q'), v', 0, pl, nI (B 4 + 1), upd wp (B 4) (nI (20 * min a b + max a b)), upd wh (B 4) (nI h)) := by
  have h12 := hB.1
  have he := en_le (x := x) hq
  have hs := stp_le (x := x) hq
  unfold fX3_readWash lnWsh
  rw [sub1 (by omega), if_pos (show nI (B 4) < 8 from ilt (b := 8) h8 (by decide))]
  rcases num7 (lo := 0) (hi := B 0 - 1) hT hq (by omega) (by omega) k s v pl with ⟨h1, h2⟩ | ⟨f, v', h1, h2, h3, h4⟩
  · replace h2 : fX3_readNumber xt (nI n) (nI q) k s v 0 pl 0 (nI (B 0 - 1)) = _ := h2
    obtain ⟨_, _, b1, b2⟩ := nf_ok h1
    rw [h2, bd7_some, bnum_n h1]
    have he2 := en_le (x := x) (show enT x n q ≤ n by omega)
    have hs2 := stp_le (x := x) (show enT x n q ≤ n by omega)
    generalize hq2 : enT x n q = q2 at *
    generalize valT x n q = a at *
    rcases num7 (lo := 0) (hi := B 0 - 1) hT (show q2 ≤ n by omega) (by omega) (by omega) (nI (kT x n q)) (nI (stp x n q)) (nI a) pl with ⟨g1, g2⟩ | ⟨f, v', g1, g2, g3, g4⟩
    · replace g2 : fX3_readNumber xt (nI n) (nI q2) (nI (kT x n q)) (nI (stp x n q)) (nI a) 0 pl 0 (nI (B 0 - 1)) = _ := g2
      obtain ⟨_, _, d1, d2⟩ := nf_ok g1
      rw [g2, bd7_some, bnum_n g1]
      have hw := wst7 (n := B 0) (a := a) (b := valT x n q2) (m := 2) (s := nI (stp x n q2)) (pl := pl) h12 (by omega) (by omega) (by omega)
      replace hw : fX3_wantSteps (nI (stp x n q2)) 0 pl (nI (B 0)) (nI a) (nI (valT x n q2)) 2 = _ := hw
      have hnear : (min (max a (valT x n q2) - min a (valT x n q2)) (B 0 - (max a (valT x n q2) - min a (valT x n q2))) < 2) ↔ nearB (B 0) a (valT x n q2) = true := by unfold nearB; rw [decide_eq_true_eq]
      have he3 := en_le (x := x) (show enT x n q2 ≤ n by omega)
      have hs3 := stp_le (x := x) (show enT x n q2 ≤ n by omega)
      generalize hq3 : enT x n q2 = q3 at *
      generalize valT x n q2 = b at *
      rw [hw]
      cases hnb : nearB (B 0) a b with
      | true =>
        have h31 : ¬ (3 : Int32) = 0 := by decide
        rw [if_pos (hnear.mpr hnb), bd2_some, num7_f h31, bd7_some, semi7_f h31, bd6_some, if_neg h31, if_pos rfl]
        exact Or.inl ⟨3, _, _, _, _, _, _, _, _, ⟨rfl, by omega, by omega, by omega⟩, rfl⟩
      | false =>
        have hnn : ¬ (min (max a b - min a b) (B 0 - (max a b - min a b)) < 2) := fun h => by rw [hnear.mp h] at hnb; exact absurd hnb (by decide)
        rw [if_neg hnn, bd2_some, if_neg Bool.false_ne_true]
        rcases num7 (lo := 0) (hi := 4095) hT (show q3 ≤ n by omega) (by omega) (by omega) (nI (kT x n q2)) (nI (stp x n q2)) (nI b) pl with ⟨i1, i2⟩ | ⟨f, v', i1, i2, i3, i4⟩
        · replace i2 : fX3_readNumber xt (nI n) (nI q3) (nI (kT x n q2)) (nI (stp x n q2)) (nI b) 0 pl 0 4095 = _ := i2
          obtain ⟨_, _, m1, m2⟩ := nf_ok i1
          rw [i2, bd7_some, bnum_n i1]
          have hs4 := stp_le (x := x) (show enT x n q3 ≤ n by omega)
          generalize hq4 : enT x n q3 = q4 at *
          generalize valT x n q3 = h at *
          rcases semi7 hT (show q4 ≤ n by omega) (nI (kT x n q3)) (nI (stp x n q3)) (nI h) pl with ⟨j1, v2, j2⟩ | ⟨f, v2, j1, j2, j3, j4⟩
          · rw [j2, bd6_some, bsem_n j1, if_pos rfl, pairOf7 (by omega) (by omega), bd1_some, wrI_nI h8 (by decide), wrI_nI h8 (by decide), bnd_e, nI_inc]
            obtain ⟨c1, c2⟩ := sf_ok j1
            exact Or.inr ⟨q4, a, b, h, v2, ⟨rfl, by omega, by omega, c2, c1⟩, by omega, by omega, hnb, m2, rfl⟩
          · rw [j4, bd6_some, bsem_s j1, if_neg (f_ne j2 j3)]
            exact Or.inl ⟨f, _, _, _, _, _, _, _, _, ⟨rfl, j2, j3, by omega⟩, rfl⟩
        · replace i4 : fX3_readNumber xt (nI n) (nI q3) (nI (kT x n q2)) (nI (stp x n q2)) (nI b) 0 pl 0 4095 = _ := i4
          rw [i4, bd7_some, bnum_s i1, semi7_f (f_ne i2 i3), bd6_some, if_neg (f_ne i2 i3)]
          exact Or.inl ⟨f, _, _, _, _, _, _, _, _, ⟨rfl, i2, i3, by omega⟩, rfl⟩
    · replace g4 : fX3_readNumber xt (nI n) (nI q2) (nI (kT x n q)) (nI (stp x n q)) (nI a) 0 pl 0 (nI (B 0 - 1)) = _ := g4
      rw [g4, bd7_some, bnum_s g1, wst_f (f_ne g2 g3), bd2_some, num7_f (f_ne g2 g3), bd7_some, semi7_f (f_ne g2 g3), bd6_some, if_neg (f_ne g2 g3)]
      exact Or.inl ⟨f, _, _, _, _, _, _, _, _, ⟨rfl, g2, g3, by omega⟩, rfl⟩
  · replace h4 : fX3_readNumber xt (nI n) (nI q) k s v 0 pl 0 (nI (B 0 - 1)) = _ := h4
    rw [h4, bd7_some, bnum_s h1, num7_f (f_ne h2 h3), bd7_some, wst_f (f_ne h2 h3), bd2_some, num7_f (f_ne h2 h3), bd7_some, semi7_f (f_ne h2 h3), bd6_some, if_neg (f_ne h2 h3)]
    exact Or.inl ⟨f, _, _, _, _, _, _, _, _, ⟨rfl, h2, h3, by omega⟩, rfl⟩
/-- the end of a string's line -/
def sgK (w st : Int32) (cans pairs knots : Nat → Int32) (r7 r15 z a k s v f pl : Int32) : Option (Int32 × Int32 × Int32 × Int32 × Int32 × Int32 × Int32 × (Nat → Int32) × (Nat → Int32)) :=
  bd2 (fX3_wantSemicolon k s f pl) (fun t_fault_37 t_place_38 => bd1 (fX7_pairOf r7 r15) (fun r_40 => bd1 (fX1_whyNot w st cans pairs r_40) (fun r_42 => jn (β := Int32 × Int32 × Int32 × Int32 × Int32 × Int32 × Int32 × (Nat → Int32) × (Nat → Int32)) (fun (t_fault_44 : Int32) (t_place_45 : Int32) => if t_fault_44 = 0 then bd1 (fX7_pairOf r7 r15) (fun r_48 => bd3 (fX1_addString st pairs knots r_48 z) (fun p1_strings_50 p1_pairs_51 p1_knots_52 => some (a, k, s, v, t_fault_44, t_place_45, p1_strings_50, p1_pairs_51, p1_knots_52))) else some (a, k, s, v, t_fault_44, t_place_45, st, pairs, knots)) (fun k_46 => if r_42 = 0 then k_46 t_fault_37 t_place_38 else bd2 (fX3_refuse s t_fault_37 t_place_38 5) (fun t_fault_55 t_place_56 => k_46 t_fault_55 t_place_56)))))
/-- from the token behind the second window on -/
def sgR (tape : Nat → Int32) (n w st : Int32) (cans pairs knots : Nat → Int32) (r7 r15 a k s v f pl : Int32) : Option (Int32 × Int32 × Int32 × Int32 × Int32 × Int32 × Int32 × (Nat → Int32) × (Nat → Int32)) :=
  bd6 (fX3_nextToken tape n a k s v f pl) (fun t_at_20 t_kind_21 t_start_22 t_value_23 t_fault_24 t_place_25 => bd1 (fX3_isWord tape t_at_20 t_kind_21 t_start_22 6) (fun r_27 => if r_27 = 0 then sgK w st cans pairs knots r7 r15 0 t_at_20 t_kind_21 t_start_22 t_value_23 t_fault_24 t_place_25 else bd7 (fX3_readNumber tape n t_at_20 t_kind_21 t_start_22 t_value_23 t_fault_24 t_place_25 0 9) (fun r_65 t_at_59 t_kind_60 t_start_61 t_value_62 t_fault_63 t_place_64 => bd6 (fX3_nextToken tape n t_at_59 t_kind_60 t_start_61 t_value_62 t_fault_63 t_place_64) (fun t_at_67 t_kind_68 t_start_69 t_value_70 t_fault_71 t_place_72 => sgK w st cans pairs knots r7 r15 r_65 t_at_67 t_kind_68 t_start_69 t_value_70 t_fault_71 t_place_72))))
theorem str_unf (tape : Nat → Int32) (n a k s v f pl w st : Int32) (cans pairs knots : Nat → Int32) : fX3_readString tape n a k s v f pl w st cans pairs knots = bd7 (fX3_readNumber tape n a k s v f pl 0 (w - 1)) (fun r_7 t_at_1 t_kind_2 t_start_3 t_value_4 t_fault_5 t_place_6 => bd7 (fX3_readNumber tape n t_at_1 t_kind_2 t_start_3 t_value_4 t_fault_5 t_place_6 0 (w - 1)) (fun r_15 t_at_9 t_kind_10 t_start_11 t_value_12 t_fault_13 t_place_14 => bd2 (fX3_wantSteps t_start_11 t_fault_13 t_place_14 w r_7 r_15 1) (fun t_fault_17 t_place_18 => sgR tape n w st cans pairs knots r_7 r_15 t_at_9 t_kind_10 t_start_11 t_value_12 t_fault_17 t_place_18))) := rfl
theorem sgK_f {w st : Int32} {cans pairs knots : Nat → Int32} {r7 r15 z a k s v f pl : Int32} (h : ¬ f = 0) (hw : ∀ v, ∃ y, fX1_whyNot w st cans pairs v = some y) : sgK w st cans pairs knots r7 r15 z a k s v f pl = some (a, k, s, v, f, pl, st, pairs, knots) := by
  obtain ⟨p, hp⟩ := po_some r7 r15
  obtain ⟨y, hy⟩ := hw p
  unfold sgK
  rw [want7_f h, bd2_some, hp, bd1_some, hy, bd1_some, jn_eq, ref7_f h, bd2_some]
  dsimp only
  rw [if_neg h]
  split <;> rfl
theorem sgR_f {xt mt : Nat → Int32} {x : Nat → Nat} {n q : Nat} (hT : TP xt mt x n) (hq : q ≤ n) {w st : Int32} {cans pairs knots : Nat → Int32} {r7 r15 v f pl : Int32} (h : ¬ f = 0) (hw : ∀ v, ∃ y, fX1_whyNot w st cans pairs v = some y) : sgR xt (nI n) w st cans pairs knots r7 r15 (nI (enT x n q)) (nI (kT x n q)) (nI (stp x n q)) v f pl = some (nI (enT x n q), nI (kT x n q), nI (stp x n q), v, f, pl, st, pairs, knots) := by
  unfold sgR
  rw [nt7_f _ _ _ _ _ _ _ _ h, bd6_some, isWord7 hT hq (by decide), bd1_some, num7_f h, bd7_some, nt7_f _ _ _ _ _ _ _ _ h, bd6_some, sgK_f h hw]
  exact ite_self _
theorem sgK_ok {m : Nat} {P : Nat → Nat} {x B : Nat → Nat} {n q a b kn : Nat} {cans pairs knots : Nat → Int32} (hL : CL m P pairs knots B) (hB : WF B) (hc : ∀ w, w < B 0 → cans w = nI (B (6 + w))) (hq : q ≤ n) (ha : a < B 0) (hb : b < B 0) (hab : a ≠ b) (hk : kn ≤ 9) {f0 pl0 pl : Int32} (v : Int32) (hf : f0 = if badT x n q then 1 else 0) (hpl : pl0 = if badT x n q then nI (stp x n q) else pl) (q0 : Nat) (hq0 : q0 ≤ q) :
    (∃ f st s' p' k', bad7 (strE x n B a b q kn) f st n ∧ sgK (nI (B 0)) (nI m) cans pairs knots (nI a) (nI b) (nI kn) (nI (enT x n q)) (nI (kT x n q)) (nI (stp x n q)) v f0 pl0 = some (nI (enT x n q), nI (kT x n q), nI (stp x n q), v, nI f, nI st, s', p', k')) ∨
    ∃ m' P' p' k', good7 x n q0 (strE x n B a b q kn) q (setB B (min a b) (max a b) (kn + 1)) ∧ refN B (min a b) (max a b) = 0 ∧ CL m' P' p' k' (setB B (min a b) (max a b) (kn + 1)) ∧ sgK (nI (B 0)) (nI m) cans pairs knots (nI a) (nI b) (nI kn) (nI (enT x n q)) (nI (kT x n q)) (nI (stp x n q)) v f0 pl0 = some (nI (enT x n q), nI (kT x n q), nI (stp x n q), v, 0, pl, nI m', p', k') := by
  have h12 := hB.1
  have hs := stp_le (x := x) hq
  have hr := refN_le B (min a b) (max a b)
  unfold strE sgK
  have hwy : fX1_whyNot (nI (B 0)) (nI m) cans pairs (nI (20 * min a b + max a b)) = some (nI (refN B (min a b) (max a b))) := by rw [why7 hL hB hc, nI_toInt (by omega), whyN_pair (show min a b < max a b by omega) (by omega) h12]
  rw [pairOf7 (by omega) (by omega)]
  rcases want7 (x := x) (n := n) (q := q) (pl := pl) hf hpl with ⟨h1, h2⟩ | ⟨f, h1, h2, h3, h4⟩
  · rw [h2, bd2_some, bd1_some, hwy, bd1_some, bsem_n h1, jn_eq, ref7_0, bd2_some]
    obtain ⟨c1, c2⟩ := sf_ok h1
    by_cases q5 : refN B (min a b) (max a b) = 0
    · obtain ⟨ht, hx⟩ := ref0 q5
      obtain ⟨P2, pr2, kn2, a1, a2⟩ := add7 hL hB (show min a b < max a b by omega) (by omega) ht hx hk
      refine Or.inr ⟨m + 1, P2, pr2, kn2, ⟨if_pos q5, hq0, hq, c2, c1⟩, q5, a2, ?_⟩
      rw [q5, if_pos (show nI 0 = 0 from rfl)]
      dsimp only
      rw [if_pos rfl, bd1_some, a1, bd3_some]
    · have h51 : ¬ (5 : Int32) = 0 := by decide
      refine Or.inl ⟨5, stp x n q, nI m, pairs, knots, ⟨if_neg q5, by omega, by omega, hs.2⟩, ?_⟩
      rw [if_neg (show ¬ nI (refN B (min a b) (max a b)) = 0 by rw [n0]; exact ine q5 (by omega) (by decide))]
      dsimp only
      rw [if_neg h51]; rfl
  · have hne := f_ne h2 h3
    rw [h4, bd2_some, bd1_some, hwy, bd1_some, bsem_s h1, jn_eq, ref7_f hne, bd2_some]
    refine Or.inl ⟨f, stp x n q, nI m, pairs, knots, ⟨rfl, h2, h3, hs.2⟩, ?_⟩
    dsimp only
    rw [if_neg hne]
    split <;> rfl
theorem str7 {m : Nat} {P : Nat → Nat} {xt mt : Nat → Int32} {x B : Nat → Nat} {n q : Nat} {cans pairs knots : Nat → Int32} (hT : TP xt mt x n) (hL : CL m P pairs knots B) (hB : WF B) (h3 : 3 ≤ B 0) (hc : ∀ w, w < B 0 → cans w = nI (B (6 + w))) (hq : q ≤ n) (k s v pl : Int32) :
    (∃ f st a k' s' v' c1 c2 c3, bad7 (lnStr x n B q) f st n ∧ fX3_readString xt (nI n) (nI q) k s v 0 pl (nI (B 0)) (nI m) cans pairs knots = some (a, k', s', v', nI f, nI st, c1, c2, c3)) ∨
    ∃ q' a b kn v' m' P' p' k', good7 x n q (lnStr x n B q) q' (setB B a b (kn + 1)) ∧ a < b ∧ b < B 0 ∧ kn ≤ 9 ∧ refN B a b = 0 ∧ CL m' P' p' k' (setB B a b (kn + 1)) ∧ fX3_readString xt (nI n) (nI q) k s v 0 pl (nI (B 0)) (nI m) cans pairs knots = some (nI (enT x n q'), nI (kT x n q'), nI (stp x n q'), v', 0, pl, nI m', p', k') := by
  have h12 := hB.1
  have he := en_le (x := x) hq
  have hs := stp_le (x := x) hq
  have hwn : ∀ v, ∃ y, fX1_whyNot (nI (B 0)) (nI m) cans pairs v = some y := fun v => ⟨_, why7 hL hB hc v⟩
  rw [str_unf]
  unfold lnStr
  rw [sub1 (by omega)]
  rcases num7 (lo := 0) (hi := B 0 - 1) hT hq (by omega) (by omega) k s v pl with ⟨h1, h2⟩ | ⟨f, v', h1, h2, h3, h4⟩
  · replace h2 : fX3_readNumber xt (nI n) (nI q) k s v 0 pl 0 (nI (B 0 - 1)) = _ := h2
    obtain ⟨_, _, b1, b2⟩ := nf_ok h1
    rw [h2, bd7_some, bnum_n h1]
    have he2 := en_le (x := x) (show enT x n q ≤ n by omega)
    have hs2 := stp_le (x := x) (show enT x n q ≤ n by omega)
    generalize hq2 : enT x n q = q2 at *
    generalize valT x n q = a at *
    rcases num7 (lo := 0) (hi := B 0 - 1) hT (show q2 ≤ n by omega) (by omega) (by omega) (nI (kT x n q)) (nI (stp x n q)) (nI a) pl with ⟨g1, g2⟩ | ⟨f, v', g1, g2, g3, g4⟩
    · replace g2 : fX3_readNumber xt (nI n) (nI q2) (nI (kT x n q)) (nI (stp x n q)) (nI a) 0 pl 0 (nI (B 0 - 1)) = _ := g2
      obtain ⟨_, _, d1, d2⟩ := nf_ok g1
      rw [g2, bd7_some, bnum_n g1]
      have hw := wst7 (n := B 0) (a := a) (b := valT x n q2) (m := 1) (s := nI (stp x n q2)) (pl := pl) h12 (by omega) (by omega) (by omega)
      replace hw : fX3_wantSteps (nI (stp x n q2)) 0 pl (nI (B 0)) (nI a) (nI (valT x n q2)) 1 = _ := hw
      rw [hw]
      by_cases hab : a = valT x n q2
      · have h31 : ¬ (3 : Int32) = 0 := by decide
        have hm : min (max a (valT x n q2) - min a (valT x n q2)) (B 0 - (max a (valT x n q2) - min a (valT x n q2))) < 1 := by omega
        rw [if_pos hm, bd2_some, if_pos hab, sgR_f hT (show q2 ≤ n by omega) h31 hwn]
        exact Or.inl ⟨3, _, _, _, _, _, _, _, _, ⟨rfl, by omega, by omega, by omega⟩, rfl⟩
      · have hm : ¬ (min (max a (valT x n q2) - min a (valT x n q2)) (B 0 - (max a (valT x n q2) - min a (valT x n q2))) < 1) := by omega
        rw [if_neg hm, bd2_some, if_neg hab]
        have he3 := en_le (x := x) (show enT x n q2 ≤ n by omega)
        have hs3 := stp_le (x := x) (show enT x n q2 ≤ n by omega)
        unfold sgR
        generalize hq3 : enT x n q2 = q3 at *
        generalize valT x n q2 = b at *
        obtain ⟨v3, e1, e2⟩ := nt7 hT (show q3 ≤ n by omega) (nI (kT x n q2)) (nI (stp x n q2)) (nI b) pl
        rw [e1, bd6_some, isWord7 hT (show q3 ≤ n by omega) (by decide), bd1_some, bI_0']
        cases hwd : wdT x n q3 6 with
        | false =>
          rw [if_neg (by decide), if_neg (by decide)]
          rcases sgK_ok (x := x) (kn := 0) hL hB hc (show q3 ≤ n by omega) (show a < B 0 by omega) (show b < B 0 by omega) hab (by omega) v3 (pl := pl) rfl rfl q (by omega) with ⟨f, st, s', p', k', j1, j2⟩ | ⟨m', P', p', k', j1, j2, j3, j4⟩
          · replace j2 : sgK (nI (B 0)) (nI m) cans pairs knots (nI a) (nI b) 0 _ _ _ _ _ _ = _ := j2
            exact Or.inl ⟨f, st, _, _, _, _, s', p', k', j1, j2⟩
          · replace j4 : sgK (nI (B 0)) (nI m) cans pairs knots (nI a) (nI b) 0 _ _ _ _ _ _ = _ := j4
            exact Or.inr ⟨q3, min a b, max a b, 0, v3, m', P', p', k', j1, by omega, by omega, by omega, j2, j3, j4⟩
        | true =>
          have hk0 : kT x n q3 = 0 := by
            unfold wdT at hwd
            rw [Bool.and_eq_true, decide_eq_true_eq] at hwd
            exact hwd.1
          have hb3 : badT x n q3 = false := by unfold badT; rw [hk0]; rfl
          rw [if_pos rfl, if_pos rfl, hb3, if_neg (by decide), if_neg (by decide)]
          generalize hq4 : enT x n q3 = q4 at *
          have he4 := en_le (x := x) (show q4 ≤ n by omega)
          have hs4 := stp_le (x := x) (show q4 ≤ n by omega)
          rcases num7 (lo := 0) (hi := 9) hT (show q4 ≤ n by omega) (by omega) (by omega) (nI (kT x n q3)) (nI (stp x n q3)) v3 pl with ⟨i1, i2⟩ | ⟨f, v', i1, i2, i3, i4⟩
          · replace i2 : fX3_readNumber xt (nI n) (nI q4) (nI (kT x n q3)) (nI (stp x n q3)) v3 0 pl 0 9 = _ := i2
            obtain ⟨_, _, m1, m2⟩ := nf_ok i1
            rw [i2, bd7_some, bnum_n i1]
            obtain ⟨v5, o1, o2⟩ := nt7 hT (show enT x n q4 ≤ n by omega) (nI (kT x n q4)) (nI (stp x n q4)) (nI (valT x n q4)) pl
            rw [o1, bd6_some]
            rcases sgK_ok (x := x) (kn := valT x n q4) hL hB hc (show enT x n q4 ≤ n by omega) (show a < B 0 by omega) (show b < B 0 by omega) hab (by omega) v5 (pl := pl) rfl rfl q (by omega) with ⟨f, st, s', p', k', j1, j2⟩ | ⟨m', P', p', k', j1, j2, j3, j4⟩
            · exact Or.inl ⟨f, st, _, _, _, _, s', p', k', j1, j2⟩
            · exact Or.inr ⟨_, min a b, max a b, valT x n q4, v5, m', P', p', k', j1, by omega, by omega, by omega, j2, j3, j4⟩
          · replace i4 : fX3_readNumber xt (nI n) (nI q4) (nI (kT x n q3)) (nI (stp x n q3)) v3 0 pl 0 9 = _ := i4
            rw [i4, bd7_some, bnum_s i1, nt7_f _ _ _ _ _ _ _ _ (f_ne i2 i3), bd6_some, sgK_f (f_ne i2 i3) hwn]
            exact Or.inl ⟨f, _, _, _, _, _, _, _, _, ⟨rfl, i2, i3, by omega⟩, rfl⟩
    · replace g4 : fX3_readNumber xt (nI n) (nI q2) (nI (kT x n q)) (nI (stp x n q)) (nI a) 0 pl 0 (nI (B 0 - 1)) = _ := g4
      rw [g4, bd7_some, bnum_s g1, wst_f (f_ne g2 g3), bd2_some, sgR_f hT (show q2 ≤ n by omega) (f_ne g2 g3) hwn]
      exact Or.inl ⟨f, _, _, _, _, _, _, _, _, ⟨rfl, g2, g3, by omega⟩, rfl⟩
  · replace h4 : fX3_readNumber xt (nI n) (nI q) k s v 0 pl 0 (nI (B 0 - 1)) = _ := h4
    rw [h4, bd7_some, bnum_s h1, num7_f (f_ne h2 h3), bd7_some, wst_f (f_ne h2 h3), bd2_some, sgR_f hT hq (f_ne h2 h3) hwn]
    exact Or.inl ⟨f, _, _, _, _, _, _, _, _, ⟨rfl, h2, h3, by omega⟩, rfl⟩
