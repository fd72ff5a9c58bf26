-- uses: a_lib b_court c_leaf8 d_loop8 e_list f_why g_leaf h_rel i_state j_gen k_list l_cut m_fill n_rows
/-! rows that are written, copied, told -/
theorem numAt7 {f : Nat → Int64} {c j : Nat} (hc : c ≤ 40) (hj : j < c) : fX4_numberAt f (nI c) (nI j) = some (f j) := by
  unfold fX4_numberAt
  rw [jn_eq, if_neg (nI_pos (by omega)), if_neg (inle hj (by omega)), rdL_nI (by omega) (by decide)]
theorem idx_cases (v : Int32) {c : Nat} (hc : c ≤ 1000) : ((v < 0 ∨ (¬ v < 0 ∧ ¬ v < nI c)) ∧ fX8_within v.toInt64 0 ((nI c - 1).toInt64) = some 0) ∨ ∃ k, k < c ∧ v = nI k ∧ ¬ v < 0 ∧ v < nI c ∧ fX8_within v.toInt64 0 ((nI c - 1).toInt64) = some 1 := by
  have e0 : (0 : Int32).toInt = 0 := rfl
  have e0' : (0 : Int64).toInt = 0 := rfl
  rw [within_eq, nIm1_L hc, Int32.toInt_toInt64, e0', Int32.lt_iff_toInt_lt, Int32.lt_iff_toInt_lt, nI_toInt (by omega), e0]
  by_cases h1 : v.toInt < 0
  · exact Or.inl ⟨Or.inl h1, by rw [decide_eq_false (by omega)]; rfl⟩
  · by_cases h2 : v.toInt < (c : Int)
    · refine Or.inr ⟨v.toInt.toNat, by omega, ?_, h1, h2, by rw [decide_eq_true (by omega)]; rfl⟩
      apply Int32.toInt_inj.mp
      rw [nI_toInt (by omega)]
      omega
    · exact Or.inl ⟨Or.inr ⟨h1, h2⟩, by rw [decide_eq_false (by omega)]; rfl⟩
theorem row_at {k c : Nat} (hk : k < 4) (j : Nat) : (40 * nI k + nI j : Int32) = nI (40 * k + j) := by rw [lit 40, pk_mul, nI_add]
def cutD (s : Int32) (v : Int64) : Int64 := (fX8_cutTo v s).getD 0
theorem cut8 (s : Int32) (v : Int64) : fX8_cutTo v s = some (cutD s v) := by
  obtain ⟨x, h1, h2⟩ := trim_cut s v
  unfold cutD; rw [h2]; rfl
theorem trim7 (s : Int32) (v : Int64) : fX4_trimmed s v = some (cutD s v) := by
  obtain ⟨x, h1, h2⟩ := trim_cut s v
  unfold cutD; rw [h1, h2]; rfl
theorem put7 {f : Nat → Int64} {c j : Nat} {s : Int32} {v : Int64} (hc : c ≤ 40) (hj : j < c) : fX4_put f s (nI c) (nI j) v = some (cutD s v, vp_updL f j (cutD s v)) := by
  unfold fX4_put
  rw [jn_eq, if_neg (nI_pos (by omega)), if_pos (ilt hj (by omega)), trim7, bd1_some, wrL_nI (by omega) (by decide), rdL_nI (by omega) (by decide)]
  unfold vp_updL
  rw [if_pos rfl]
/-- one row changes -/
theorem rows_up {rs rz : Nat → Int32} {rv : Nat → Nat → Int64} {so ma : Nat → Int32} {nu nu' : Nat → Int64} (h : ∀ k, k < 4 → RelRow k (rs k) (rz k) (rv k) (so k) (ma k) nu) {i c q : Nat} {f' : Nat → Int64} (hi : i < 4) (hc : c ≤ 40) (hq : q ≤ 3) (ez : rz i = nI c) (em : ma i = nI c) (es : rs i = nI q) (eo : so i = nI q)
    (h1 : ∀ j, j < c → f' j = nu' (40 * i + j)) (h2 : ∀ j, j < 40 * i ∨ 40 * i + 40 ≤ j → nu' j = nu j) : ∀ k, k < 4 → RelRow k (rs k) (rz k) (va_up rv i f' k) (so k) (ma k) nu' := by
  intro k hk
  by_cases e : k = i
  · subst e
    rw [va_up_self]
    exact Or.inr ⟨c, q, hc, hq, ez, em, es, eo, h1⟩
  · rw [va_up_ne rv _ e]
    rcases h k hk with g | ⟨c2, q2, z1, z2, z3, z4, z5, z6, z7⟩
    · exact Or.inl g
    · exact Or.inr ⟨c2, q2, z1, z2, z3, z4, z5, z6, fun j hj => by rw [z7 j hj, h2 _ (by omega)]⟩
theorem m1_q {q : Nat} (h : q ≤ 3) : ¬ nI q = -1 := m1_ne (by omega)
theorem st_write : Step_write Rel0 := by
  intro w0 w1 w2 w3 w4 w5 w6 w7 w8 w9 w10 w11 xt xn xf xp rs rz rv made im all has mt mn mf mp so ma nu th v u x i ei hR
  obtain ⟨hC, hT, hF, hRw, hI⟩ := id hR
  have keep : Rel0 (w0, w1, w2, w3, w4, w5, w6, w7, w8, w9, w10, w11) xt xn xf xp rs rz (va_up rv i (rv i)) made im all has mt mn mf mp so ma nu := by
    have e : va_up rv i (rv i) = rv := by
      funext j; unfold va_up; by_cases q : j = i
      · rw [if_pos q, q]
      · rw [if_neg q]
    rw [e]; exact hR
  unfold fX7_write fX8_write
  rcases row_cases v with ⟨h1, h2⟩ | ⟨k, hk, rfl, h1, h2⟩
  · exact ⟨-2, rv i, 0, nu, by rw [refusal7_no h1]; rfl, by rw [h2]; rfl, keep⟩
  · rw [refusal7 hk, h2, bd1_some, bd1_some, if_neg (show ¬ (1 : Int32) = 0 by decide), rdI_nI hk (by decide)]
    rw [rix_nI hk] at ei
    subst ei
    rcases hRw i hk with ⟨z1, z2⟩ | ⟨c, q, z1, z2, z3, z4, z5, z6, z7⟩
    · rw [z1, z2]
      exact ⟨-6, rv i, 0, nu, rfl, rfl, keep⟩
    · rw [z3, z6, if_neg (m1_ne (by omega)), if_pos rfl, if_neg (m1_q z2), rdI_nI hk (by decide), z4, jn_eq]
      rcases idx_cases u (show c ≤ 1000 by omega) with ⟨g1, g2⟩ | ⟨j, hj, rfl, g1, g2, g3⟩
      · refine ⟨-7, rv i, 0, nu, ?_, by rw [g2]; rfl, keep⟩
        rcases g1 with g1 | ⟨g1, g3⟩
        · rw [if_pos g1]
        · rw [if_neg g1, ckI_nI hk (by decide), if_neg g3]
      · rw [if_neg g1, ckI_nI hk (by decide), if_pos g2, ckI_nI hk (by decide), z5, put7 z1 hj, bd2_some, g3, bd1_some, if_neg (show ¬ (1 : Int32) = 0 by decide), rdI_nI hk (by decide), z6, cut8, bd1_some, row_at (c := 0) hk, wrL_nI (by omega) (by decide), rdL_nI (by omega) (by decide)]
        refine ⟨cutD (nI q) x, vp_updL (rv i) j (cutD (nI q) x), 0, vp_updL nu (40 * i + j) (cutD (nI q) x), rfl, ?_, hC, hT, hF, rows_up hRw hk z1 z2 z3 z4 z5 z6 (fun l hl => ?_) (fun l hl => ?_), hI⟩
        · unfold vp_updL; rw [if_pos rfl]
        · unfold vp_updL
          by_cases e : l = j
          · rw [if_pos e, if_pos (by omega)]
          · rw [if_neg e, if_neg (by omega)]; exact z7 l hl
        · unfold vp_updL; rw [if_neg (by omega)]
/-- what copy writes -/
def cpG (q : Int32) (k c : Nat) (s : Nat × (Nat → Int64)) (p : Nat) : Nat × (Nat → Int64) := if s.1 = c then s else (s.1 + 1, vp_updL s.2 (40 * k + s.1) (cutD q (nI p).toInt64))
theorem cp_fold (q : Int32) (k c : Nat) (P : Nat → Nat) (nu : Nat → Int64) (m : Nat) :
    (fold1 (fun s i => cpG q k c s (P i)) 0 m (0, nu)).1 = min m c ∧ (∀ j, j < min m c → (fold1 (fun s i => cpG q k c s (P i)) 0 m (0, nu)).2 (40 * k + j) = cutD q (nI (P j)).toInt64) ∧ (∀ j, j < 40 * k ∨ 40 * k + min m c ≤ j → (fold1 (fun s i => cpG q k c s (P i)) 0 m (0, nu)).2 j = nu j) := by
  have := fold1_inv (g := fun s i => cpG q k c s (P i)) (fun i s => s.1 = min i c ∧ (∀ j, j < min i c → s.2 (40 * k + j) = cutD q (nI (P j)).toInt64) ∧ (∀ j, j < 40 * k ∨ 40 * k + min i c ≤ j → s.2 j = nu j)) m 0 (0, nu) ⟨by simp, fun j hj => absurd hj (by omega), fun j _ => rfl⟩ (fun i s _ _ ⟨h1, h2, h3⟩ => by
    unfold cpG
    by_cases e : s.1 = c
    · rw [if_pos e]
      refine ⟨by omega, fun j hj => h2 j (by omega), fun j hj => h3 j (by omega)⟩
    · rw [if_neg e]
      refine ⟨by show s.1 + 1 = _; omega, fun j hj => ?_, fun j hj => ?_⟩
      · show vp_updL s.2 (40 * k + s.1) _ (40 * k + j) = _
        unfold vp_updL
        by_cases e2 : j = s.1
        · rw [if_pos (by omega), e2, show s.1 = i by omega]
        · rw [if_neg (by omega)]; exact h2 j (by omega)
      · show vp_updL s.2 (40 * k + s.1) _ j = _
        unfold vp_updL
        rw [if_neg (by omega)]; exact h3 j (by omega))
  rw [Nat.zero_add] at this
  exact this
theorem copy7_loop {pairs : Nat → Int32} {P : Nat → Nat} {k c y m : Nat} {s : Int32} (hk : k < 4) (hc : c ≤ 40) (hm : m ≤ 21) (hy : y ≤ c) (hym : y ≤ m) (hP : ∀ i, i < m → pairs i = nI (P i)) (K : (Nat → Int64) → Option (Int32 × (Nat → Int64))) : ∀ l i n f, i + l = y → l < n →
    ∃ f', fX7_copy_35 (nI k) (nI y) pairs s (nI c) K n (nI i) f = K f' ∧ (∀ j, i ≤ j → j < y → f' j = cutD s (nI (P j)).toInt64) ∧ (∀ j, j < i ∨ y ≤ j → f' j = f j) := by
  intro l
  induction l with
  | zero =>
    intro i n f hi hn
    obtain ⟨n, rfl⟩ : ∃ m, n = m + 1 := ⟨n - 1, by omega⟩
    refine ⟨f, ?_, fun j h1 h2 => absurd h1 (by omega), fun j _ => rfl⟩
    rw [fX7_copy_35, if_pos (ile (by omega) (by omega))]
  | succ l ih =>
    intro i n f hi hn
    obtain ⟨n, rfl⟩ : ∃ m, n = m + 1 := ⟨n - 1, by omega⟩
    rw [fX7_copy_35, if_neg (inle (by omega) (by omega)), ckI_nI hk (by decide), rdI_nI (by omega) (by decide), hP i (by omega), put7 hc (by omega), bd2_some, nI_inc]
    obtain ⟨f', h1, h2, h3⟩ := ih (i + 1) n (vp_updL f i (cutD s (nI (P i)).toInt64)) (by omega) (by omega)
    refine ⟨f', h1, fun j g1 g2 => ?_, fun j g1 => ?_⟩
    · by_cases q : j = i
      · subst q; rw [h3 j (by omega)]; unfold vp_updL; rw [if_pos rfl]
      · exact h2 j (by omega) g2
    · rw [h3 j (by omega)]; unfold vp_updL; rw [if_neg (by omega)]
theorem copy8 {A : Nat → Int32} {B : Nat → Nat} {so ma : Nat → Int32} {nu : Nat → Int64} {k c : Nat} (h : MB A 0 B) (hB : WF B) (hk : k < 4) (hc : c ≤ 40) (em : ma k = nI c) (K : Int32 → (Nat → Int64) → Option (Int32 × Int32 × (Nat → Int64))) :
    fX8_copy_37 (nI k) A so ma K FU (nI 0) (nI 0) nu = K (nI (fold2 (B 0) (fun s a b => if tied B a b then cpG (so k) k c s (20 * a + b) else s) 0 (B 0) (0, nu)).1) (fold2 (B 0) (fun s a b => if tied B a b then cpG (so k) k c s (20 * a + b) else s) 0 (B 0) (0, nu)).2 := by
  have h12 := hB.1
  obtain ⟨t, ⟨h1, h1', -⟩, h2⟩ := loop2 (n := B 0) (g := fun s a b => if tied B a b then cpG (so k) k c s (20 * a + b) else s) (fun (s : Nat × (Nat → Int64)) (t : Int32 × (Nat → Int64)) => t.1 = nI s.1 ∧ t.2 = s.2 ∧ s.1 ≤ c)
    (fun F t a => fX8_copy_37 (nI k) A so ma K F t.1 (nI a) t.2) (fun F G t a b => fX8_copy_52 (nI k) (nI a) A so ma (fun w f => fX8_copy_37 (nI k) A so ma K F w (nI (a + 1)) f) G t.1 (nI b) t.2) (fun t => K t.1 t.2) (FU_big (by omega))
    (fun F s t e => by rw [fX8_copy_37, n0, rd_MB h (by omega) (by omega) (by decide), if_pos (ile (by omega) (by omega))])
    (fun F s t a ha e => by rw [fX8_copy_37, n0, rd_MB h (by omega) (by omega) (by decide), if_neg (inle ha (by omega)), bnd_e, nI_inc])
    (fun F G s t a ha e => by rw [fX8_copy_52, n0, rd_MB h (by omega) (by omega) (by decide), if_pos (ile (by omega) (by omega))])
    (fun F G s t a b hab hb e => by
      obtain ⟨t1, t2⟩ := t
      obtain ⟨e1, e2, e3⟩ := e
      dsimp only at e1 e2
      subst e1 e2
      rw [fX8_copy_52, n0, rd_MB h (by omega) (by omega) (by decide), if_neg (inle hb (by omega)), isTied8 h hB (by omega) (by omega), bd1_some, ← n0, bI_0', nI_inc]
      cases tied B a b
      · exact ⟨(nI s.1, s.2), ⟨rfl, rfl, e3⟩, rfl⟩
      · simp only [if_true]
        unfold cpG
        rw [rdI_nI hk (by decide), em]
        by_cases q : s.1 = c
        · rw [if_pos q, if_pos (show nI s.1 = nI c by rw [q])]
          exact ⟨(nI s.1, s.2), ⟨rfl, rfl, e3⟩, rfl⟩
        · rw [if_neg q, if_neg (ine q (by omega) (by omega)), rdI_nI hk (by decide), show (20 * nI a + nI b : Int32) = nI (20 * a + b) by rw [lit 20, pk_mul, nI_add], cut8, bd1_some, row_at (c := 0) hk, wrL_nI (by omega) (by decide), nI_inc]
          exact ⟨(_, _), ⟨rfl, rfl, by show s.1 + 1 ≤ c; omega⟩, rfl⟩) (B 0) 0 (0, nu) (nI 0, nu) FU (by omega) (FU_big (by omega)) ⟨rfl, rfl, Nat.zero_le c⟩
  refine h2.trans ?_
  rw [h1, h1']
theorem st_copy : Step_copy Rel0 := by
  intro w0 w1 w2 w3 w4 w5 w6 w7 w8 w9 w10 w11 xt xn xf xp rs rz rv made im all has mt mn mf mp so ma nu th v i ei hR
  obtain ⟨⟨B, hB, hM, hC⟩, hT, hF, hRw, hI⟩ := id hR
  obtain ⟨e0, e4, e2, e3, e5, e1, ⟨m, P, em, hL⟩, hc, hw⟩ := id hC
  dsimp only at e0 e4 e2 e3 e5 e1 em hL hc hw
  have h12 := hB.1
  have h21 := hL.1
  have keep : Rel0 (w0, w1, w2, w3, w4, w5, w6, w7, w8, w9, w10, w11) xt xn xf xp rs rz (va_up rv i (rv i)) made im all has mt mn mf mp so ma nu := by
    have e : va_up rv i (rv i) = rv := by
      funext j; unfold va_up; by_cases q : j = i
      · rw [if_pos q, q]
      · rw [if_neg q]
    rw [e]; exact hR
  unfold fX7_copy fX8_copy
  rcases row_cases v with ⟨h1, h2⟩ | ⟨k, hk, rfl, h1, h2⟩
  · exact ⟨-2, rv i, 0, nu, by rw [refusal7_no h1]; rfl, by rw [h2]; rfl, keep⟩
  · rw [refusal7 hk, h2, bd1_some, bd1_some, if_neg (show ¬ (1 : Int32) = 0 by decide), rdI_nI hk (by decide)]
    rw [rix_nI hk] at ei
    subst ei
    rcases hRw i hk with ⟨z1, z2⟩ | ⟨c, q, z1, z2, z3, z4, z5, z6, z7⟩
    · rw [z1, z2]
      exact ⟨-6, rv i, 0, nu, rfl, rfl, keep⟩
    · have ey : (if rz i < w6 then rz i else w6) = nI (min m c) := by
        rw [z3, em]
        by_cases q : c < m
        · rw [if_pos (ilt q (by omega)), Nat.min_eq_right (by omega)]
        · rw [if_neg (inlt (by omega) (by omega)), Nat.min_eq_left (by omega)]
      rw [ey]
      obtain ⟨f', f1, f2, f3⟩ := copy7_loop (pairs := w10) (P := P) (m := m) (y := min m c) (s := rs i) hk z1 h21 (by omega) (by omega) (fun l hl => (hL.2.2 l hl).1) (fun (row_values_11 : Nat → Int64) => some (nI (min m c), row_values_11)) (min m c) 0 FU (rv i) (by omega) (FU_big (by omega))
      have c8 := copy8 (so := so) (nu := nu) hM hB hk z1 z4 (fun (w_28 : Int32) (t_numbers_29 : Nat → Int64) => some (w_28, (0 : Int32), t_numbers_29))
      rw [fold_list (t := fun a b => tied B a b) (fun s a b => cpG (so i) i c s (20 * a + b)) hB.1 hL.2.1.1 hL.2.1.2.1 hL.2.1.2.2] at c8
      have eP : ∀ s, fold1 (fun s l => cpG (so i) i c s (20 * (P l / 20) + P l % 20)) 0 m s = fold1 (fun s l => cpG (so i) i c s (P l)) 0 m s := fun s => fold1_congr m 0 s (fun l s _ _ => by rw [show 20 * (P l / 20) + P l % 20 = P l by omega])
      rw [eP] at c8
      obtain ⟨p1, p2, p3⟩ := cp_fold (so i) i c P nu m
      rw [p1] at c8
      rw [z6, if_neg (m1_q z2), z3, if_neg (m1_ne (by omega)), if_pos rfl, ckI_nI hk (by decide), bnd_e]
      replace f1 : fX7_copy_35 (nI i) (nI (min m c)) w10 (rs i) (nI c) (fun row_values_11 => some (nI (min m c), row_values_11)) FU 0 (rv i) = some (nI (min m c), f') := f1
      rw [f1, show fX8_copy_37 (nI i) all so ma (fun w_28 t_numbers_29 => some (w_28, 0, t_numbers_29)) FU 0 0 nu = _ from c8]
      refine ⟨nI (min m c), f', 0, _, rfl, rfl, ⟨B, hB, hM, hC⟩, hT, hF, rows_up hRw hk z1 z2 z3 z4 z5 z6 (fun l hl => ?_) (fun l hl => p3 l (by omega)), hI⟩
      by_cases q : l < min m c
      · rw [f2 l (Nat.zero_le l) q, p2 l q, z5, z6]
      · rw [f3 l (by omega), p3 _ (by omega)]; exact z7 l hl
