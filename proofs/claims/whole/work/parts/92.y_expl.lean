-- uses: a_lib b_court c_leaf8 d_loop8 e_list f_why g_leaf h_rel i_state j_gen k_list l_cut m_fill m_img n_rows o_rows2 p_pairs q_gust r_gust s_more t_links u_reach v_stay w_brace x_echo
/-! what explains who heard a word when -/
theorem lgc_eq (x y : Int64) : (lg_cmp x y = 0) = (x = y) := by
  unfold lg_cmp
  apply propext
  by_cases h1 : x > y
  · rw [if_pos h1]
    exact ⟨fun h => absurd h (by decide), fun e => by subst e; exact absurd h1 (Int64.lt_irrefl)⟩
  · rw [if_neg h1]
    by_cases h2 : x = y
    · rw [if_pos h2]; exact ⟨fun _ => h2, fun _ => rfl⟩
    · rw [if_neg h2]; exact ⟨fun h => absurd h (by decide), fun h => absurd h h2⟩
noncomputable def toldB (f : Nat → Int64) (p : Nat → Nat → Prop) (w n : Nat) : Bool := dB (∀ v, v < n → ∀ x, EV p w n v x → f v = x.toInt64)
theorem told_of {f : Nat → Int64} {p : Nat → Nat → Prop} {w n : Nat} {e : Nat → Int32} (he : ∀ v, v < n → EV p w n v (e v)) : toldB f p w n = !anyF (fun v => !decide (f v = (e v).toInt64)) 0 n := by
  cases hx : anyF (fun v => !decide (f v = (e v).toInt64)) 0 n with
  | true =>
    obtain ⟨v, _, h2, h3⟩ := (anyF_iff _ _ _).mp hx
    refine dB_f (fun h => ?_)
    have := h v (by omega) (e v) (he v (by omega))
    rw [decide_eq_true this] at h3
    exact absurd h3 (by decide)
  | false =>
    refine dB_t (fun v hv x hE => ?_)
    rw [EV_uniq hE (he v hv)]
    by_cases q : f v = (e v).toInt64
    · exact q
    · refine absurd ((anyF_iff _ _ _).mpr ⟨v, Nat.zero_le v, by omega, ?_⟩) (Bool.eq_false_iff.mp hx)
      rw [decide_eq_false q]; rfl
theorem spreadsAs7 {links : Nat → Int32} {p : Nat → Nat → Prop} (h : LK links p) {n w : Nat} (hn : n ≤ 12) (hp : ∀ u v, p u v → v < n) (hw : w < n) (br : Nat → Int32) (f : Nat → Int64) : ∃ br', fX6_spreadsAs (nI n) links br f (nI n) (nI w) = some (bI (toldB f p w n), br') := by
  unfold fX6_spreadsAs
  obtain ⟨br', b1, b2⟩ := spread7 h hn hp hw br
  rw [b1, bd1_some]
  refine ⟨br', ?_⟩
  have L : ∀ k i F, i + k = n → k < F → fX6_spreadsAs_7 (nI n) br' f (nI n) (some (1, br')) F (nI i) = some (bI (!anyF (fun v => !decide (f v = (br' v).toInt64)) i k), br') := by
    intro k
    induction k with
    | zero =>
      intro i F hi hF
      obtain ⟨F, rfl⟩ : ∃ m, F = m + 1 := ⟨F - 1, by omega⟩
      rw [fX6_spreadsAs_7, if_pos (ile (by omega) (by omega))]; rfl
    | succ k ih =>
      intro i F hi hF
      obtain ⟨F, rfl⟩ : ∃ m, F = m + 1 := ⟨F - 1, by omega⟩
      rw [fX6_spreadsAs_7, if_neg (inle (by omega) (by omega)), numAt7 (by omega) (by omega), bd1_some, rdI_nI (by omega) (by decide), nI_inc, ih (i + 1) F (by omega) (by omega), anyF]
      by_cases q : f i = (br' i).toInt64
      · rw [if_pos (by rw [lgc_eq]; exact q), decide_eq_true q]; rfl
      · rw [if_neg (by rw [lgc_eq]; exact q), decide_eq_false q]; rfl
  have := L n 0 FU (by omega) (FU_big (by omega))
  rw [told_of (fun v hv => b2 v (by omega))]
  exact this
theorem asTold8 {A : Nat → Int32} {B : Nat → Nat} (h : MB A 0 B) (hB : WF B) {w k : Nat} (hw : w < B 0) (hk : k < 4) (ec : Nat → Int32) {f nu : Nat → Int64} (hf : ∀ j, j < B 0 → f j = nu (40 * k + j)) : ∃ ec', fX8_isAsTold A ec nu (nI w) (nI k) = some (bI (toldB f (tk B (B 1)) w (B 0)), ec') := by
  have h12 := hB.1
  unfold fX8_isAsTold
  obtain ⟨ec', b1, b2⟩ := echo8 h hB hw ec
  rw [b1, bd1_some]
  refine ⟨ec', ?_⟩
  have L : ∀ l i F, i + l = B 0 → l < F → fX8_isAsTold_7 (nI k) A ec' nu (some (1, ec')) F (nI i) = some (bI (!anyF (fun v => !decide (f v = (ec' v).toInt64)) i l), ec') := by
    intro l
    induction l with
    | zero =>
      intro i F hi hF
      obtain ⟨F, rfl⟩ : ∃ m, F = m + 1 := ⟨F - 1, by omega⟩
      rw [fX8_isAsTold_7, n0, rd_MB h (by omega) (by omega) (by decide), if_pos (ile (by omega) (by omega))]; rfl
    | succ l ih =>
      intro i F hi hF
      obtain ⟨F, rfl⟩ : ∃ m, F = m + 1 := ⟨F - 1, by omega⟩
      rw [fX8_isAsTold_7, show (0 : Int32) = nI 0 from rfl, rd_MB h (by omega) (by omega) (by decide), if_neg (inle (by omega) (by omega)), rdI_nI (by omega) (by decide), row_at (c := 0) hk, rdL_nI (by omega) (by decide), ← hf i (by omega), nI_inc, ih (i + 1) F (by omega) (by omega), anyF]
      by_cases q : f i = (ec' i).toInt64
      · rw [if_pos (by rw [show nI 0 = (0 : Int32) from rfl, lgc_eq]; exact q.symm), decide_eq_true q]; rfl
      · rw [if_neg (by rw [show nI 0 = (0 : Int32) from rfl, lgc_eq]; exact fun e => q e.symm), decide_eq_false q]; rfl
  have := L (B 0) 0 FU (by omega) (FU_big (by omega))
  rw [told_of (fun v hv => b2 v (by omega))]
  exact this
noncomputable def tmF (f : Nat → Int64) (p : Nat → Nat → Prop) (w n : Nat) (_ : Unit) (a b : Nat) : Unit ⊕ Nat := if dB (p a b) && toldB f (del p a b) w n then .inr (20 * a + b) else .inl ()
noncomputable def tfF (B : Nat → Nat) (f : Nat → Int64) (p : Nat → Nat → Prop) (w n : Nat) (_ : Unit) (a b : Nat) : Unit ⊕ Nat := if canB B a b && toldB f (ins p a b) w n then .inr (20 * a + b) else .inl ()
def fnd (x : Unit ⊕ Nat) : Int32 := match x with | .inl _ => -1 | .inr x => nI x
theorem tooMany7 {links : Nat → Int32} {p : Nat → Nat → Prop} (h : LK links p) {n w : Nat} (hn : n ≤ 12) (hp : ∀ u v, p u v → v < n) (hsym : ∀ u v, p u v → p v u) (hw : w < n) (br : Nat → Int32) (f : Nat → Int64) : ∃ l' br', fX7_stringTooMany f (nI n) (nI n) (nI n) links br (nI w) = some (fnd (forF2 n (tmF f p w n) 0 n ()), l', br') ∧ LK l' p := by
  unfold fX7_stringTooMany
  rcases loop2x (n := n) (f := tmF f p w n) (fun (s : Unit) (t : (Nat → Int32) × (Nat → Int32)) => LK t.1 p) (fun (x : Nat) r => ∃ l' br', r = some (nI x, l', br') ∧ LK l' p)
    (fun F t a => fX7_stringTooMany_2 (nI w) f (nI n) (nI n) (nI n) (fun x y => some (-1, x, y)) F (nI a) t.1 t.2) (fun F G t a b => fX7_stringTooMany_18 (nI w) (nI a) f (nI n) (nI n) (nI n) (fun x y => fX7_stringTooMany_2 (nI w) f (nI n) (nI n) (nI n) (fun x y => some (-1, x, y)) F (nI (a + 1)) x y) G (nI b) t.1 t.2) (fun t => some (-1, t.1, t.2)) (FU_big (by omega))
    (fun F s t e => by rw [fX7_stringTooMany_2, if_pos (ile (by omega) (by omega))])
    (fun F s t a ha e => by rw [fX7_stringTooMany_2, if_neg (inle ha (by omega)), bnd_e, nI_inc])
    (fun F G s t a ha e => by rw [fX7_stringTooMany_18, if_pos (ile (by omega) (by omega))])
    (fun F G s t a b hab hb e => by
      obtain ⟨t1, t2⟩ := t
      dsimp only at e
      rw [fX7_stringTooMany_18, if_neg (inle hb (by omega)), linked7 e (by omega) (by omega), bd1_some, bI_0', nI_inc]
      unfold tmF
      by_cases q : p a b
      · obtain ⟨l1, g1, g2⟩ := sever7 e (show a < 12 by omega) (show b < 12 by omega) (by omega)
        have g2' : LK l1 (del p a b) := g2
        obtain ⟨br1, g3⟩ := spreadsAs7 g2' hn (fun u v hu => hp u v hu.1) hw t2 f
        obtain ⟨l2, g5, g6⟩ := join7 g2 (show a < 12 by omega) (show b < 12 by omega) (by omega)
        have hk : LK l2 p := g6.congr (fun w k _ => ⟨by
          rintro (h1 | ⟨rfl, rfl⟩ | ⟨rfl, rfl⟩)
          · exact h1.1
          · exact q
          · exact hsym _ _ q, fun h1 => by
          by_cases e : (w = a ∧ k = b) ∨ (w = b ∧ k = a)
          · exact Or.inr e
          · exact Or.inl ⟨h1, e⟩⟩)
        rw [dB_t q, if_pos rfl, g1, bd1_some, g3, bd2_some, g5, bd1_some, bI_0', pairOf7 (by omega) (by omega), bd1_some, Nat.min_eq_left (by omega), Nat.max_eq_right (by omega)]
        cases toldB f (del p a b) w n
        · exact Or.inl ⟨(), (l2, br1), rfl, hk, rfl⟩
        · exact Or.inr ⟨_, rfl, l2, br1, rfl, hk⟩
      · rw [dB_f q]
        exact Or.inl ⟨(), (t1, t2), rfl, e, rfl⟩) n 0 () (links, br) FU (by omega) (FU_big (by omega)) h with ⟨s', t', h1, h3, h4⟩ | ⟨x, h1, l', br', h2, h3⟩
  · rw [h1]; exact ⟨t'.1, t'.2, h4, h3⟩
  · rw [h1]; exact ⟨l', br', h2, h3⟩
theorem tooFew7 {m : Nat} {P : Nat → Nat} {w7 w8 w9 pairs knots links : Nat → Int32} {B : Nat → Nat} (hL : CL m P pairs knots B) (hB : WF B) (hc : ∀ w, w < B 0 → w7 w = nI (B (6 + w))) (hww : CWs w8 w9 B) (h : LK links (tk B (B 1))) {w : Nat} (hw : w < B 0) (br : Nat → Int32) (f : Nat → Int64) : ∃ l' br', fX7_pairTooFew f (nI (B 0)) (nI (B 0)) (nI (B 4)) (nI (B 1)) (nI m) w7 w8 w9 pairs (nI (B 0)) links br (nI w) = some (fnd (forF2 (B 0) (tfF B f (tk B (B 1)) w (B 0)) 0 (B 0) ()), l', br') := by
  have h12 := hB.1
  unfold fX7_pairTooFew
  rcases loop2x (n := B 0) (f := tfF B f (tk B (B 1)) w (B 0)) (fun (s : Unit) (t : (Nat → Int32) × (Nat → Int32)) => LK t.1 (tk B (B 1))) (fun (x : Nat) r => ∃ l' br', r = some (nI x, l', br'))
    (fun F t a => fX7_pairTooFew_2 (nI w) f (nI (B 0)) (nI (B 0)) (nI (B 4)) (nI (B 1)) (nI m) w7 w8 w9 pairs (nI (B 0)) (fun x y => some (-1, x, y)) F (nI a) t.1 t.2) (fun F G t a b => fX7_pairTooFew_18 (nI w) (nI a) f (nI (B 0)) (nI (B 0)) (nI (B 4)) (nI (B 1)) (nI m) w7 w8 w9 pairs (nI (B 0)) (fun x y => fX7_pairTooFew_2 (nI w) f (nI (B 0)) (nI (B 0)) (nI (B 4)) (nI (B 1)) (nI m) w7 w8 w9 pairs (nI (B 0)) (fun x y => some (-1, x, y)) F (nI (a + 1)) x y) G (nI b) t.1 t.2) (fun t => some (-1, t.1, t.2)) (FU_big (by omega))
    (fun F s t e => by rw [fX7_pairTooFew_2, if_pos (ile (by omega) (by omega))])
    (fun F s t a ha e => by rw [fX7_pairTooFew_2, if_neg (inle ha (by omega)), bnd_e, nI_inc])
    (fun F G s t a ha e => by rw [fX7_pairTooFew_18, if_pos (ile (by omega) (by omega))])
    (fun F G s t a b hab hb e => by
      obtain ⟨t1, t2⟩ := t
      dsimp only at e
      rw [fX7_pairTooFew_18, if_neg (inle hb (by omega)), pairOf7 (by omega) (by omega), bd1_some, Nat.min_eq_left (by omega), Nat.max_eq_right (by omega), taut7 hL hB hc hww hab hb, bd1_some, bI_0', nI_inc]
      unfold tfF
      rw [show (decide (refN B a b = 0) && !slackN B (B 1) a b) = canB B a b from rfl]
      cases hcan : canB B a b with
      | false => exact Or.inl ⟨(), (t1, t2), rfl, e, rfl⟩
      | true =>
        obtain ⟨hr, hsl⟩ := canB_iff.mp hcan
        obtain ⟨l1, g1, g2⟩ := join7 e (show a < 12 by omega) (show b < 12 by omega) (by omega)
        have g2' : LK l1 (ins (tk B (B 1)) a b) := g2
        obtain ⟨br1, g3⟩ := spreadsAs7 g2' h12 (fun u v hu => by
          rcases hu with hu | hu | hu
          · exact tk_lt hB u v hu
          · omega
          · omega) hw t2 f
        obtain ⟨l3, g5, g6⟩ := sever7 g2' (show a < 12 by omega) (show b < 12 by omega) (by omega)
        have hk : LK l3 (tk B (B 1)) := g6.congr (fun w k _ => ⟨by
          rintro ⟨h1 | h1, h2⟩
          · exact h1
          · exact absurd h1 h2, fun h1 => ⟨Or.inl h1, by
          have ht := (ref0 hr).1
          rintro (⟨rfl, rfl⟩ | ⟨rfl, rfl⟩)
          · have := h1.2.2; unfold talkN at this; rw [ht] at this; simp at this
          · have := (tk_sym hB _ _ h1).2.2; unfold talkN at this; rw [ht] at this; simp at this⟩⟩)
        rw [if_pos rfl, g1, bd1_some, g3, bd2_some, g5, bd1_some, bI_0', bd1_some]
        cases toldB f (ins (tk B (B 1)) a b) w (B 0)
        · exact Or.inl ⟨(), (l3, br1), rfl, hk, rfl⟩
        · exact Or.inr ⟨_, rfl, l3, br1, rfl⟩) (B 0) 0 () (links, br) FU (by omega) (FU_big (by omega)) h with ⟨s', t', h1, h3, h4⟩ | ⟨x, h1, l', br', h2⟩
  · rw [h1]; exact ⟨t'.1, t'.2, h4⟩
  · rw [h1]; exact ⟨l', br', h2⟩
theorem first8 {A : Nat → Int32} {B : Nat → Nat} (h : MB A 0 B) (hB : WF B) {w k : Nat} (hw : w < B 0) (hk : k < 4) (ec : Nat → Int32) {f nu : Nat → Int64} (hf : ∀ j, j < B 0 → f j = nu (40 * k + j)) (c : Bool) : ∃ ec', fX8_firstBy A ec nu (nI w) (nI k) (bI c) = some (fnd (forF2 (B 0) (if c then tmF f (tk B (B 1)) w (B 0) else tfF B f (tk B (B 1)) w (B 0)) 0 (B 0) ()), A, ec') := by
  have h12 := hB.1
  unfold fX8_firstBy
  rcases loop2x (n := B 0) (f := if c then tmF f (tk B (B 1)) w (B 0) else tfF B f (tk B (B 1)) w (B 0)) (fun (s : Unit) (t : (Nat → Int32) × (Nat → Int32)) => t.1 = A) (fun (x : Nat) r => ∃ ec', r = some (nI x, A, ec'))
    (fun F t a => fX8_firstBy_3 (nI w) (nI k) (bI c) nu (fun x y => some (-1, x, y)) F (nI a) t.1 t.2) (fun F G t a b => fX8_firstBy_20 (nI w) (nI k) (bI c) (nI a) nu (fun x y => fX8_firstBy_3 (nI w) (nI k) (bI c) nu (fun x y => some (-1, x, y)) F (nI (a + 1)) x y) G (nI b) t.1 t.2) (fun t => some (-1, t.1, t.2)) (FU_big (by omega))
    (fun F s t e => by rw [e, fX8_firstBy_3, n0, rd_MB h (by omega) (by omega) (by decide), if_pos (ile (by omega) (by omega))])
    (fun F s t a ha e => by rw [e, fX8_firstBy_3, n0, rd_MB h (by omega) (by omega) (by decide), if_neg (inle ha (by omega)), bnd_e, nI_inc])
    (fun F G s t a ha e => by rw [e, fX8_firstBy_20, n0, rd_MB h (by omega) (by omega) (by decide), if_pos (ile (by omega) (by omega))])
    (fun F G s t a b hab hb e => by
      obtain ⟨t1, t2⟩ := t
      dsimp only at e
      subst e
      have hsy := hB.2.2.2.2.2.2.2.2.2.1 a b (by omega) (by omega)
      have hle4 := refN_le B a b
      rw [fX8_firstBy_20, show (0 : Int32) = nI 0 from rfl, rd_MB h (by omega) (by omega) (by decide), if_neg (inle hb (by omega)), slackNow8 h hB (by omega) (by omega), bd1_some, show nI 0 = (0 : Int32) from rfl, bI_0', nI_inc]
      cases hs : slackN B (B 1) a b with
      | true =>
        refine Or.inl ⟨(), (t1, t2), ?_, rfl, rfl⟩
        cases c
        · show tfF B f (tk B (B 1)) w (B 0) s a b = _
          unfold tfF canB; rw [hs]; simp
        · show tmF f (tk B (B 1)) w (B 0) s a b = _
          have : ¬ tk B (B 1) a b := fun hx => by have := hx.2.2; unfold talkN at this; rw [hs] at this; simp at this
          unfold tmF; rw [dB_f this]; rfl
      | false =>
        simp only [Bool.false_eq_true, if_false]
        rw [jn_eq, idx8, rd_MB h (by omega) (by omega) (by decide), jn_eq, bI_0']
        cases c with
        | false =>
          simp only [Bool.false_eq_true, if_false]
          show (∃ s' t', tfF B f (tk B (B 1)) w (B 0) s a b = .inl s' ∧ _) ∨ (∃ x, tfF B f (tk B (B 1)) w (B 0) s a b = .inr x ∧ _)
          rw [ref8 h hB (by decide) (by decide) (by omega) (by omega), bd1_some]
          by_cases hr : refN B a b = 0
          · obtain ⟨A', s1, s2, s3⟩ := sets8 (v := 1) h (show 186 ≤ 558 by decide) (by decide) (show a < 12 by omega) (show b < 12 by omega)
            have hB' := WF_set hB hab hb (show 1 ≤ 10 by omega) (Or.inr (Or.inr (ref0 hr).2))
            have bk := back (show a < 12 by omega) (show b < 12 by omega) (MB_at h (by omega)) ((MB_at h (by omega)).trans (by rw [← hsy.2.1])) s1
            obtain ⟨ec', g1⟩ := asTold8 s2 hB' (w := w) (k := k) (by rw [setB_lo B (by omega)]; exact hw) hk t2 (f := f) (nu := nu) (by rw [setB_lo B (by omega)]; exact hf)
            rw [setB_lo B (show 1 < 42 by omega), setB_lo B (show 0 < 42 by omega), tk_ins hB (by omega) (by omega) hs] at g1
            replace s1 : fX8_sets 558 t1 (nI a) (nI b) 1 = some A' := s1
            have hcan : canB B a b = true := canB_iff.mpr ⟨hr, hs⟩
            rw [hr, if_pos (show nI 0 = 0 from rfl), s1, bd1_some, g1, bd2_some, bk, bd1_some, bI_0', show (20 * nI a + nI b : Int32) = nI (20 * a + b) by rw [lit 20, pk_mul, nI_add]]
            unfold tfF
            rw [hcan]
            cases toldB f (ins (tk B (B 1)) a b) w (B 0)
            · exact Or.inl ⟨(), (t1, ec'), rfl, rfl, rfl⟩
            · exact Or.inr ⟨_, rfl, ec', rfl⟩
          · have hcan : canB B a b = false := by
              cases e : canB B a b with
              | false => rfl
              | true => exact absurd (canB_iff.mp e).1 hr
            rw [if_neg (by rw [n0]; exact ine hr (by omega) (by decide))]
            unfold tfF
            rw [hcan]
            exact Or.inl ⟨(), (t1, t2), rfl, rfl, rfl⟩
        | true =>
          simp only [if_true]
          show (∃ s' t', tmF f (tk B (B 1)) w (B 0) s a b = .inl s' ∧ _) ∨ (∃ x, tmF f (tk B (B 1)) w (B 0) s a b = .inr x ∧ _)
          rw [isTied8 h hB (by omega) (by omega), bd1_some, bI_0']
          cases ht : tied B a b with
          | false =>
            have : ¬ tk B (B 1) a b := fun hx => by have := hx.2.2; unfold talkN at this; rw [ht] at this; simp at this
            unfold tmF
            rw [dB_f this]
            exact Or.inl ⟨(), (t1, t2), rfl, rfl, rfl⟩
          | true =>
            have htk : tk B (B 1) a b := ⟨by omega, by omega, by unfold talkN; rw [ht, hs]; rfl⟩
            obtain ⟨A', s1, s2, s3⟩ := sets8 (v := 0) h (show 186 ≤ 558 by decide) (by decide) (show a < 12 by omega) (show b < 12 by omega)
            have hB' := WF_set hB hab hb (show 0 ≤ 10 by omega) (Or.inl rfl)
            have bk := back (show a < 12 by omega) (show b < 12 by omega) (MB_at h (by omega)) ((MB_at h (by omega)).trans (by rw [← hsy.2.1])) s1
            obtain ⟨ec', g1⟩ := asTold8 s2 hB' (w := w) (k := k) (by rw [setB_lo B (by omega)]; exact hw) hk t2 (f := f) (nu := nu) (by rw [setB_lo B (by omega)]; exact hf)
            rw [setB_lo B (show 1 < 42 by omega), setB_lo B (show 0 < 42 by omega), tk_del hB (by omega) (by omega)] at g1
            replace s1 : fX8_sets 558 t1 (nI a) (nI b) 0 = some A' := s1
            rw [if_pos rfl, s1, bd1_some, g1, bd2_some, bk, bd1_some, bI_0', show (20 * nI a + nI b : Int32) = nI (20 * a + b) by rw [lit 20, pk_mul, nI_add]]
            unfold tmF
            rw [dB_t htk]
            cases toldB f (del (tk B (B 1)) a b) w (B 0)
            · exact Or.inl ⟨(), (t1, ec'), rfl, rfl, rfl⟩
            · exact Or.inr ⟨_, rfl, ec', rfl⟩) (B 0) 0 () (A, ec) FU (by omega) (FU_big (by omega)) rfl with ⟨s', t', h1, h3, h4⟩ | ⟨x, h1, ec', h2⟩
  · rw [h1]; exact ⟨t'.2, h4.trans (by rw [h3]; rfl)⟩
  · rw [h1]; exact ⟨ec', h2⟩
/-- what a search finds is a pair -/
theorem forF_pair {f : Unit → Nat → Unit ⊕ Nat} {Q : Nat → Prop} : ∀ k i x, (∀ j, i ≤ j → j < i + k → ∀ y, f () j = .inr y → Q y) → forF f i k () = .inr x → Q x
  | 0, i, x, _, h => by rw [forF] at h; exact absurd h (by simp)
  | k + 1, i, x, hf, h => by
    rw [forF] at h
    cases e : f () i with
    | inl s => rw [e] at h; exact forF_pair k (i + 1) x (fun j h1 h2 => hf j (by omega) (by omega)) h
    | inr y => rw [e] at h; simp at h; subst h; exact hf i (by omega) (by omega) y e
theorem forF2_pair {n : Nat} {f : Unit → Nat → Nat → Unit ⊕ Nat} {Q : Nat → Prop} : ∀ k i x, (∀ a b, a < b → b < n → ∀ y, f () a b = .inr y → Q y) → forF2 n f i k () = .inr x → Q x
  | 0, i, x, _, h => by rw [forF2] at h; exact absurd h (by simp)
  | k + 1, i, x, hf, h => by
    rw [forF2] at h
    cases e : forF (fun s b => f s i b) (i + 1) (n - (i + 1)) () with
    | inl s => rw [e] at h; exact forF2_pair k (i + 1) x hf h
    | inr y =>
      rw [e] at h
      simp at h
      subst h
      exact forF_pair (f := fun s b => f s i b) (n - (i + 1)) (i + 1) y (fun j h1 h2 z hz => hf i j (by omega) (by omega) z hz) e
theorem fnd_no {n : Nat} (hn : n ≤ 12) {f : Unit → Nat → Nat → Unit ⊕ Nat} (hf : ∀ a b y, f () a b = .inr y → y = 20 * a + b) : ∀ y, forF2 n f 0 n () = .inr y → ¬ fnd (.inr y) = -1 := by
  intro y hy
  have := forF2_pair (Q := fun y => y < 1000) n 0 y (fun a b h1 h2 z hz => by have := hf a b z hz; omega) hy
  exact m1_ne (by omega)
theorem st_explained : Step_explained Rel0 := by
  intro w0 w1 w2 w3 w4 w5 w6 w7 w8 w9 w10 w11 xt xn xf xp rs rz rv made im all has mt mn mf mp so ma nu y0 y1 y2 y3 th ec v r u i ei hR
  obtain ⟨⟨B, hB, hM, hC⟩, hT, hF, hRw, hI⟩ := id hR
  obtain ⟨e0, e4, e2, e3, e5, e1, ⟨m, P, em, hL⟩, hc, hw⟩ := id hC
  dsimp only at e0 e4 e2 e3 e5 e1 em hL hc hw
  subst e0 e4 e2 e3 e5 e1 em
  have h12 := hB.1
  have hh := hB.2.2.1
  unfold fX7_explained fX8_explained
  rw [hasW_eq h12, bd1_some, isWin8 hM hB, bd1_some, Int32.toInt_toInt64, bI_0', bI_0']
  cases hv : winZ (B 0) v.toInt with
  | false => exact ⟨-2, y0, y1, y2, y3, 0, all, ec, rfl, rfl, hR⟩
  | true =>
    obtain ⟨w, hwl, rfl⟩ := winZ_of hv
    simp only [if_true]
    rcases row_cases r with ⟨h1, h2⟩ | ⟨k, hk, rfl, h1, h2⟩
    · exact ⟨-2, y0, y1, y2, y3, 0, all, ec, by rw [h1]; rfl, by rw [h2]; rfl, hR⟩
    · rw [h1, h2, bd1_some, bd1_some, if_neg (show ¬ (1 : Int32) = 0 by decide), if_neg (show ¬ (1 : Int32) = 0 by decide), show (1 : Int64) = lN 1 from rfl]
      rw [rix_nI hk] at ei
      subst ei
      rcases within_rng u (show 1 < 2 ^ 31 by decide) with ⟨h1, h2⟩ | ⟨h1, h2, h3⟩ | ⟨q, hq, rfl, r1, r2, r3⟩
      · exact ⟨-2, y0, y1, y2, y3, 0, all, ec, by rw [if_pos h1], by rw [h2]; rfl, hR⟩
      · exact ⟨-2, y0, y1, y2, y3, 0, all, ec, by rw [if_neg h1, if_neg (show ¬ u ≤ 1 from h2)], by rw [h3]; rfl, hR⟩
      · rw [if_neg r1, if_pos (show nI q ≤ 1 from r2), ckI_nI hk (by decide), r3, bd1_some, if_neg (show ¬ (1 : Int32) = 0 by decide), rdI_nI hk (by decide)]
        rcases hRw i hk with ⟨z1, z2⟩ | ⟨c, s, z1, z2, z3, z4, z5, z6, z7⟩
        · rw [z1, z2, if_pos rfl, if_pos rfl]
          exact ⟨-6, y0, y1, y2, y3, 0, all, ec, rfl, rfl, hR⟩
        · rw [z3, z6, if_neg (m1_ne (by omega)), if_neg (m1_q z2), rdI_nI hk (by decide), z4, show rdI 558 all (0 : Int32) = rdI 558 all (nI 0) from rfl, rd_MB hM (by omega) (by omega) (by decide)]
          by_cases hcn : c = B 0
          · subst hcn
            obtain ⟨l', q', t1, t2, t3⟩ := take_ok hL hB hw (show B 1 < 100000 by omega) y0 y1 y2
            obtain ⟨br1, b1⟩ := spreadsAs7 t2 h12 (tk_lt hB) hwl y3 (rv i)
            obtain ⟨ec1, c1⟩ := asTold8 hM hB hwl hk ec z7
            obtain ⟨l2, br2, b2, b3⟩ := tooMany7 t2 h12 (tk_lt hB) (tk_sym hB) hwl br1 (rv i)
            obtain ⟨ec2, c2⟩ := first8 hM hB hwl hk ec1 z7 true
            obtain ⟨l3, br3, b4⟩ := tooFew7 hL hB hc hw b3 hwl br2 (rv i)
            obtain ⟨ec3, c3⟩ := first8 hM hB hwl hk ec2 z7 false
            simp only [if_true] at c2
            simp only [Bool.false_eq_true, if_false] at c3
            replace c2 : fX8_firstBy all ec1 nu (nI w) (nI i) 1 = _ := c2
            replace c3 : fX8_firstBy all ec2 nu (nI w) (nI i) 0 = _ := c3
            rw [if_pos rfl, if_pos rfl, t1, bd3_some, b1, bd2_some, c1, bd2_some, b2, bd3_some, c2, bd3_some, b4, bd3_some, c3, bd3_some, bI_0', bI_0']
            have hn1 := fnd_no h12 (f := tmF (rv i) (tk B (B 1)) w (B 0)) (fun a b y hy => by
              unfold tmF at hy
              split at hy
              · simp at hy; omega
              · exact absurd hy (by simp))
            have hn2 := fnd_no h12 (f := tfF B (rv i) (tk B (B 1)) w (B 0)) (fun a b y hy => by
              unfold tfF at hy
              split at hy
              · simp at hy; omega
              · exact absurd hy (by simp))
            have q01 : q = 0 ∨ q = 1 := by omega
            cases toldB (rv i) (tk B (B 1)) w (B 0) with
            | true =>
              simp only [if_true]
              rcases q01 with rfl | rfl
              · exact ⟨_, _, _, _, _, 0, all, ec1, rfl, rfl, hR⟩
              · exact ⟨_, _, _, _, _, 0, all, ec1, rfl, rfl, hR⟩
            | false =>
              simp only [Bool.false_eq_true, if_false]
              cases hm : forF2 (B 0) (tmF (rv i) (tk B (B 1)) w (B 0)) 0 (B 0) () with
              | inr y =>
                have := hn1 y hm
                rw [if_neg this, if_neg this]
                rcases q01 with rfl | rfl
                · exact ⟨_, _, _, _, _, 0, all, ec2, rfl, rfl, hR⟩
                · exact ⟨_, _, _, _, _, 0, all, ec2, rfl, rfl, hR⟩
              | inl _ =>
                rw [if_pos (show fnd (.inl _) = -1 from rfl), if_pos (show fnd (.inl _) = -1 from rfl)]
                cases hm2 : forF2 (B 0) (tfF B (rv i) (tk B (B 1)) w (B 0)) 0 (B 0) () with
                | inr y =>
                  have := hn2 y hm2
                  rw [if_neg this, if_neg this]
                  rcases q01 with rfl | rfl
                  · exact ⟨_, _, _, _, _, 0, all, ec3, rfl, rfl, hR⟩
                  · exact ⟨_, _, _, _, _, 0, all, ec3, rfl, rfl, hR⟩
                | inl _ =>
                  rw [if_pos (show fnd (.inl _) = -1 from rfl), if_pos (show fnd (.inl _) = -1 from rfl)]
                  rcases q01 with rfl | rfl
                  · exact ⟨_, _, _, _, _, 0, all, ec3, rfl, rfl, hR⟩
                  · exact ⟨_, _, _, _, _, 0, all, ec3, rfl, rfl, hR⟩
          · rw [if_neg (ine hcn (by omega) (by omega)), if_neg (ine hcn (by omega) (by omega))]
            exact ⟨-7, y0, y1, y2, y3, 0, all, ec, rfl, rfl, hR⟩
