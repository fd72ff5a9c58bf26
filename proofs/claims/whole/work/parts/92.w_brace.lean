-- uses: a_lib b_court c_leaf8 d_loop8 e_list f_why g_leaf h_rel i_state j_gen k_list l_cut m_fill m_img n_rows o_rows2 p_pairs q_gust r_gust s_more t_links u_reach v_stay
/-! the string that braces most -/
/-- a pair that may be tied and would hold -/
def canB (B : Nat → Nat) (a b : Nat) : Bool := decide (refN B a b = 0) && !slackN B (B 1) a b
theorem canB_iff {B : Nat → Nat} {a b : Nat} : canB B a b = true ↔ refN B a b = 0 ∧ slackN B (B 1) a b = false := by
  unfold canB
  rw [Bool.and_eq_true, decide_eq_true_eq]
  constructor
  · rintro ⟨h1, h2⟩; exact ⟨h1, by simpa using h2⟩
  · rintro ⟨h1, h2⟩; exact ⟨h1, by rw [h2]; rfl⟩
def brBetter (B : Nat → Nat) (s : Option (Nat × Nat × Nat)) (a b left : Nat) : Bool := match s with
  | none => true
  | some (a0, b0, l0) => decide (left < l0) || (decide (left = l0) && decide (lenN B a b < lenN B a0 b0))
noncomputable def brG (B : Nat → Nat) (s : Option (Nat × Nat × Nat)) (a b : Nat) : Option (Nat × Nat × Nat) :=
  if canB B a b then (if brBetter B s a b (stN (ins (tk B (B 1)) a b) (B 0)) then some (a, b, stN (ins (tk B (B 1)) a b) (B 0)) else s) else s
theorem stN_le (p : Nat → Nat → Prop) {n : Nat} (hn : n ≤ 12) : stN p n ≤ 1000 := by
  unfold stN
  have inner : ∀ a k i c, fold1 (fun c b => if stB p a b then c + 1 else c) i k c ≤ c + k := by
    intro a k
    induction k with
    | zero => intro i c; exact Nat.le_refl c
    | succ k ih =>
      intro i c
      rw [fold1]
      have := ih (i + 1) (if stB p a i then c + 1 else c)
      split at this <;> rename_i h <;> simp only [h] <;> simp <;> omega
  have outer : ∀ k a c, fold2 n (fun c a b => if stB p a b then c + 1 else c) a k c ≤ c + 12 * k := by
    intro k
    induction k with
    | zero => intro a c; exact Nat.le_refl c
    | succ k ih =>
      intro a c
      rw [fold2]
      have h1 := ih (a + 1) (fold1 (fun c b => if stB p a b then c + 1 else c) (a + 1) (n - (a + 1)) c)
      have h2 := inner a (n - (a + 1)) (a + 1) c
      omega
  have := outer n 0 0
  omega
def brOk (n : Nat) (s : Option (Nat × Nat × Nat)) : Prop := match s with
  | none => True
  | some (a0, b0, l0) => a0 < b0 ∧ b0 < n ∧ l0 ≤ 1000
def br1 (s : Option (Nat × Nat × Nat)) : Int32 := match s with
  | none => -1
  | some (a0, b0, _) => nI (20 * a0 + b0)
def br2 (s : Option (Nat × Nat × Nat)) : Int32 := match s with
  | none => 0
  | some (_, _, l0) => nI l0
def br3 (B : Nat → Nat) (s : Option (Nat × Nat × Nat)) : Int32 := match s with
  | none => 0
  | some (a0, b0, _) => nI (lenN B a0 b0)
theorem brace7 {m : Nat} {P : Nat → Nat} {w7 w8 w9 pairs knots links : Nat → Int32} {B : Nat → Nat} (h : CL m P pairs knots B) (hB : WF B) (hc : ∀ w, w < B 0 → w7 w = nI (B (6 + w))) (hw : CWs w8 w9 B) (hl : LK links (tk B (B 1))) (K : Int32 → (Nat → Int32) → Option (Int32 × Int32 × (Nat → Int32) × (Nat → Int32))) :
    ∃ l', fX7_brace_24 (nI (B 0)) (nI (B 4)) (nI (B 1)) (nI m) w7 w8 w9 pairs (nI (B 0)) K FU (-1) 0 (nI 0) links = K (br1 (fold2 (B 0) (brG B) 0 (B 0) none)) l' := by
  have h12 := hB.1
  obtain ⟨t, ⟨h1, -⟩, h2⟩ := loop2 (n := B 0) (g := brG B) (fun s (t : Int32 × Int32 × (Nat → Int32)) => t.1 = br1 s ∧ t.2.1 = br2 s ∧ LK t.2.2 (tk B (B 1)) ∧ brOk (B 0) s)
    (fun F t a => fX7_brace_24 (nI (B 0)) (nI (B 4)) (nI (B 1)) (nI m) w7 w8 w9 pairs (nI (B 0)) K F t.1 t.2.1 (nI a) t.2.2) (fun F G t a b => fX7_brace_40 (nI a) (nI (B 0)) (nI (B 4)) (nI (B 1)) (nI m) w7 w8 w9 pairs (nI (B 0)) (fun x y z => fX7_brace_24 (nI (B 0)) (nI (B 4)) (nI (B 1)) (nI m) w7 w8 w9 pairs (nI (B 0)) K F x y (nI (a + 1)) z) G t.1 t.2.1 (nI b) t.2.2) (fun t => K t.1 t.2.2) (FU_big (by omega))
    (fun F s t e => by rw [fX7_brace_24, if_pos (ile (by omega) (by omega))])
    (fun F s t a ha e => by rw [fX7_brace_24, if_neg (inle ha (by omega)), bnd_e, nI_inc])
    (fun F G s t a ha e => by rw [fX7_brace_40, if_pos (ile (by omega) (by omega))])
    (fun F G s t a b hab hb e => by
      obtain ⟨t1, t2, t3⟩ := t
      obtain ⟨e1, e2, e3, e4⟩ := e
      dsimp only at e1 e2 e3
      subst e1 e2
      rw [fX7_brace_40, if_neg (inle hb (by omega)), pairOf7 (by omega) (by omega), bd1_some, Nat.min_eq_left (by omega), Nat.max_eq_right (by omega), taut7 h hB hc hw hab hb, bd1_some, bI_0', nI_inc]
      dsimp only
      unfold brG
      rw [show (decide (refN B a b = 0) && !slackN B (B 1) a b) = canB B a b from rfl]
      cases hcan : canB B a b with
      | false => exact ⟨(_, _, t3), ⟨rfl, rfl, e3, e4⟩, rfl⟩
      | true =>
        obtain ⟨hr, hsl⟩ := canB_iff.mp hcan
        simp only [if_true]
        obtain ⟨l1, g1, g2⟩ := join7 e3 (show a < 12 by omega) (show b < 12 by omega) (by omega)
        have g2' : LK l1 (ins (tk B (B 1)) a b) := g2
        obtain ⟨l2, g3, g4⟩ := stays7 g2' h12 (fun u v hu => by
          rcases hu with hu | hu | hu
          · exact tk_lt hB u v hu
          · omega
          · omega) (fun u v hu => by
          rcases hu with hu | hu | hu
          · exact Or.inl (tk_sym hB u v hu)
          · exact Or.inr (Or.inr ⟨hu.2, hu.1⟩)
          · exact Or.inr (Or.inl ⟨hu.2, hu.1⟩))
        obtain ⟨l3, g5, g6⟩ := sever7 g4 (show a < 12 by omega) (show b < 12 by omega) (by omega)
        have hk : LK l3 (tk B (B 1)) := g6.congr (fun w k _ => ⟨by
          rintro ⟨h1 | h1, h2⟩
          · exact h1
          · exact absurd h1 h2, fun h1 => ⟨Or.inl h1, by
          have ht := (ref0 hr).1
          rintro (⟨rfl, rfl⟩ | ⟨rfl, rfl⟩)
          · have := h1.2.2; unfold talkN at this; rw [ht] at this; simp at this
          · have := (tk_sym hB _ _ h1).2.2; unfold talkN at this; rw [ht] at this; simp at this⟩⟩)
        have hsw : fX7_staysWith (nI (B 0)) t3 (nI a) (nI b) = some (nI (stN (ins (tk B (B 1)) a b) (B 0)), l3) := by
          unfold fX7_staysWith
          rw [g1, bd1_some, g3, bd2_some, g5, bd1_some]
        have hle := stN_le (ins (tk B (B 1)) a b) h12
        rw [hsw, bd2_some, jn_eq]
        generalize stN (ins (tk B (B 1)) a b) (B 0) = left at hle ⊢
        cases s with
        | none =>
          rw [if_pos (show br1 none = -1 from rfl)]
          exact ⟨(nI (20 * a + b), nI left, l3), ⟨rfl, rfl, hk, ⟨hab, hb, hle⟩⟩, rfl⟩
        | some x =>
          obtain ⟨a0, b0, l0⟩ := x
          obtain ⟨k1, k2, k3⟩ := e4
          have hl1 := lenN_le hB (show a < 12 by omega) (show b < 12 by omega)
          have hl2 := lenN_le hB (show a0 < 12 by omega) (show b0 < 12 by omega)
          rw [show br1 (some (a0, b0, l0)) = nI (20 * a0 + b0) from rfl, show br2 (some (a0, b0, l0)) = nI l0 from rfl, if_neg (m1_ne (by omega)), len7 hB hab hb, len7 hB k1 k2]
          simp only [bd1_some]
          have hbb : brBetter B (some (a0, b0, l0)) a b left = (decide (left < l0) || (decide (left = l0) && decide (lenN B a b < lenN B a0 b0))) := rfl
          by_cases q1 : left < l0
          · rw [if_pos (ilt q1 (by omega))]
            rw [decide_eq_true q1] at hbb
            rw [show brBetter B (some (a0, b0, l0)) a b left = true from hbb]
            exact ⟨(nI (20 * a + b), nI left, l3), ⟨rfl, rfl, hk, ⟨hab, hb, hle⟩⟩, rfl⟩
          · rw [if_neg (inlt (by omega) (by omega))]
            rw [decide_eq_false q1] at hbb
            by_cases q2 : left = l0
            · rw [if_pos (show nI left = nI l0 by rw [q2])]
              rw [decide_eq_true q2] at hbb
              by_cases q3 : lenN B a0 b0 ≤ lenN B a b
              · rw [if_pos (ile q3 (by omega))]
                rw [decide_eq_false (show ¬ lenN B a b < lenN B a0 b0 by omega)] at hbb
                rw [show brBetter B (some (a0, b0, l0)) a b left = false from hbb]
                exact ⟨(nI (20 * a0 + b0), nI l0, l3), ⟨rfl, rfl, hk, ⟨k1, k2, k3⟩⟩, rfl⟩
              · rw [if_neg (inle (by omega) (by omega))]
                rw [decide_eq_true (show lenN B a b < lenN B a0 b0 by omega)] at hbb
                rw [show brBetter B (some (a0, b0, l0)) a b left = true from hbb]
                exact ⟨(nI (20 * a + b), nI left, l3), ⟨rfl, rfl, hk, ⟨hab, hb, hle⟩⟩, rfl⟩
            · rw [if_neg (ine q2 (by omega) (by omega))]
              rw [decide_eq_false q2] at hbb
              rw [show brBetter B (some (a0, b0, l0)) a b left = false from hbb]
              exact ⟨(nI (20 * a0 + b0), nI l0, l3), ⟨rfl, rfl, hk, ⟨k1, k2, k3⟩⟩, rfl⟩) (B 0) 0 none (-1, 0, links) FU (by omega) (FU_big (by omega)) ⟨rfl, rfl, hl, trivial⟩
  exact ⟨t.2.2, h2.trans (by rw [h1])⟩
theorem brace8 {A : Nat → Int32} {B : Nat → Nat} (h : MB A 0 B) (hB : WF B) (K : Int32 → (Nat → Int32) → Option (Int32 × Int32 × (Nat → Int32))) :
    fX8_brace_14 K FU (-1) 0 0 (nI 0) A = K (br1 (fold2 (B 0) (brG B) 0 (B 0) none)) A := by
  have h12 := hB.1
  obtain ⟨t, ⟨h1, -, -, h3, -⟩, h2⟩ := loop2 (n := B 0) (g := brG B) (fun s (t : Int32 × Int32 × Int32 × (Nat → Int32)) => t.1 = br1 s ∧ t.2.1 = br2 s ∧ t.2.2.1 = br3 B s ∧ t.2.2.2 = A ∧ brOk (B 0) s)
    (fun F t a => fX8_brace_14 K F t.1 t.2.1 t.2.2.1 (nI a) t.2.2.2) (fun F G t a b => fX8_brace_31 (nI a) (fun x y z u => fX8_brace_14 K F x y z (nI (a + 1)) u) G t.1 t.2.1 t.2.2.1 (nI b) t.2.2.2) (fun t => K t.1 t.2.2.2) (FU_big (by omega))
    (fun F s t e => by rw [e.2.2.2.1, fX8_brace_14, n0, rd_MB h (by omega) (by omega) (by decide), if_pos (ile (by omega) (by omega))])
    (fun F s t a ha e => by rw [e.2.2.2.1, fX8_brace_14, n0, rd_MB h (by omega) (by omega) (by decide), if_neg (inle ha (by omega)), bnd_e, nI_inc])
    (fun F G s t a ha e => by rw [e.2.2.2.1, fX8_brace_31, n0, rd_MB h (by omega) (by omega) (by decide), if_pos (ile (by omega) (by omega))])
    (fun F G s t a b hab hb e => by
      obtain ⟨t1, t2, t3, t4⟩ := t
      obtain ⟨e1, e2, e3, e5, e4⟩ := e
      dsimp only at e1 e2 e3 e5
      subst e1 e2 e3 e5
      have hle4 := refN_le B a b
      rw [fX8_brace_31, show (0 : Int32) = nI 0 from rfl, rd_MB h (by omega) (by omega) (by decide), if_neg (inle hb (by omega)), ref8 h hB (by decide) (by decide) (by omega) (by omega), bd1_some, slackNow8 h hB (by omega) (by omega), bd1_some, show nI 0 = (0 : Int32) from rfl, bI_0', nI_inc]
      dsimp only
      unfold brG
      cases hcan : canB B a b with
      | false =>
        refine ⟨(_, _, _, t4), ⟨rfl, rfl, rfl, rfl, e4⟩, ?_⟩
        by_cases hr : refN B a b = 0
        · rw [hr, if_pos (show nI 0 = 0 from rfl)]
          have : slackN B (B 1) a b = true := by
            cases hs : slackN B (B 1) a b with
            | true => rfl
            | false => have := canB_iff.mpr ⟨hr, hs⟩; rw [hcan] at this; exact absurd this (by decide)
          rw [this, if_pos rfl]; rfl
        · rw [if_neg (by rw [n0]; exact ine hr (by omega) (by decide))]; rfl
      | true =>
        obtain ⟨hr, hsl⟩ := canB_iff.mp hcan
        simp only [if_true]
        obtain ⟨A', s1, s2, s3⟩ := sets8 (v := 1) h (show 186 ≤ 558 by decide) (by decide) (show a < 12 by omega) (show b < 12 by omega)
        have hB' := WF_set hB hab hb (show 1 ≤ 10 by omega) (Or.inr (Or.inr (ref0 hr).2))
        have ht0 := (ref0 hr).1
        have hz : B (42 + 12 * a + b) = 0 := by unfold tied at ht0; simpa using ht0
        have hsy := hB.2.2.2.2.2.2.2.2.2.1 a b (by omega) (by omega)
        have bk := back (x := nI 0) (show a < 12 by omega) (show b < 12 by omega) ((MB_at h (by omega)).trans (by rw [hz])) ((MB_at h (by omega)).trans (by rw [← hsy.2.1, hz])) s1
        have st := stays8 s2 hB'
        rw [setB_lo B (show 1 < 42 by omega), setB_lo B (show 0 < 42 by omega), tk_ins hB (by omega) (by omega) hsl] at st
        replace s1 : fX8_sets 558 t4 (nI a) (nI b) 1 = some A' := s1
        replace bk : fX8_sets 558 A' (nI a) (nI b) 0 = some t4 := bk
        have hle := stN_le (ins (tk B (B 1)) a b) h12
        rw [hr, if_pos (show nI 0 = 0 from rfl), hsl, s1]
        simp only [Bool.false_eq_true, if_false, bd1_some]
        rw [st, bd2_some, bk, bd1_some, len8 h hB (by omega) hb, bd1_some, jn_eq, bnd_e, show (20 * nI a + nI b : Int32) = nI (20 * a + b) by rw [lit 20, pk_mul, nI_add]]
        generalize stN (ins (tk B (B 1)) a b) (B 0) = left at hle ⊢
        cases s with
        | none =>
          rw [if_pos (show br1 none = -1 from rfl)]
          exact ⟨(nI (20 * a + b), nI left, nI (lenN B a b), t4), ⟨rfl, rfl, rfl, rfl, ⟨hab, hb, hle⟩⟩, rfl⟩
        | some x =>
          obtain ⟨a0, b0, l0⟩ := x
          obtain ⟨k1, k2, k3⟩ := e4
          have hl1 := lenN_le hB (show a < 12 by omega) (show b < 12 by omega)
          have hl2 := lenN_le hB (show a0 < 12 by omega) (show b0 < 12 by omega)
          rw [show br1 (some (a0, b0, l0)) = nI (20 * a0 + b0) from rfl, show br2 (some (a0, b0, l0)) = nI l0 from rfl, show br3 B (some (a0, b0, l0)) = nI (lenN B a0 b0) from rfl, if_neg (m1_ne (by omega))]
          have hbb : brBetter B (some (a0, b0, l0)) a b left = (decide (left < l0) || (decide (left = l0) && decide (lenN B a b < lenN B a0 b0))) := rfl
          by_cases q1 : l0 < left
          · rw [if_pos (ilt q1 (by omega))]
            rw [decide_eq_false (show ¬ left < l0 by omega), decide_eq_false (show ¬ left = l0 by omega)] at hbb
            rw [show brBetter B (some (a0, b0, l0)) a b left = false from hbb]
            exact ⟨(nI (20 * a0 + b0), nI l0, nI (lenN B a0 b0), t4), ⟨rfl, rfl, rfl, rfl, ⟨k1, k2, k3⟩⟩, rfl⟩
          · rw [if_neg (inlt (by omega) (by omega))]
            by_cases q2 : left = l0
            · rw [if_pos (show nI left = nI l0 by rw [q2])]
              rw [decide_eq_true q2, decide_eq_false (show ¬ left < l0 by omega)] at hbb
              by_cases q3 : lenN B a b < lenN B a0 b0
              · rw [if_pos (ilt q3 (by omega))]
                rw [decide_eq_true q3] at hbb
                rw [show brBetter B (some (a0, b0, l0)) a b left = true from hbb]
                exact ⟨(nI (20 * a + b), nI left, nI (lenN B a b), t4), ⟨rfl, rfl, rfl, rfl, ⟨hab, hb, hle⟩⟩, rfl⟩
              · rw [if_neg (inlt (by omega) (by omega))]
                rw [decide_eq_false q3] at hbb
                rw [show brBetter B (some (a0, b0, l0)) a b left = false from hbb]
                exact ⟨(nI (20 * a0 + b0), nI l0, nI (lenN B a0 b0), t4), ⟨rfl, rfl, rfl, rfl, ⟨k1, k2, k3⟩⟩, rfl⟩
            · rw [if_neg (ine q2 (by omega) (by omega))]
              rw [decide_eq_true (show left < l0 by omega)] at hbb
              rw [show brBetter B (some (a0, b0, l0)) a b left = true from hbb]
              exact ⟨(nI (20 * a + b), nI left, nI (lenN B a b), t4), ⟨rfl, rfl, rfl, rfl, ⟨hab, hb, hle⟩⟩, rfl⟩) (B 0) 0 none (-1, 0, 0, A) FU (by omega) (FU_big (by omega)) ⟨rfl, rfl, rfl, rfl, trivial⟩
  exact h2.trans (by rw [h1, h3])
theorem st_brace : Step_brace Rel0 := by
  intro w0 w1 w2 w3 w4 w5 w6 w7 w8 w9 w10 w11 xt xn xf xp rs rz rv made im all has mt mn mf mp so ma nu y0 y1 y2 th hR
  obtain ⟨⟨B, hB, hM, hC⟩, hT, hF, hRw, hI⟩ := id hR
  obtain ⟨e0, e4, e2, e3, e5, e1, ⟨m, P, em, hL⟩, hc, hw⟩ := id hC
  dsimp only at e0 e4 e2 e3 e5 e1 em hL hc hw
  subst e0 e4 e2 e3 e5 e1 em
  have hh := hB.2.2.1
  unfold fX7_brace fX8_brace
  obtain ⟨l', q', t1, t2, t3⟩ := take_ok hL hB hw (show B 1 < 100000 by omega) y0 y1 y2
  rw [t1, bd3_some]
  obtain ⟨l2, s1⟩ := brace7 hL hB hc hw t2 (fun (w_30 : Int32) (wy_links_31 : Nat → Int32) => some (w_30, nI (B 0), wy_links_31, q'))
  have s2 := brace8 hM hB (fun (w_33 : Int32) (t_all_34 : Nat → Int32) => some (w_33, (0 : Int32), t_all_34))
  exact ⟨_, _, _, _, 0, all, s1, s2, hR⟩
