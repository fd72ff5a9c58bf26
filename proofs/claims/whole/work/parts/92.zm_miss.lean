-- uses: a_lib b_court c_leaf8 d_loop8 e_list f_why g_leaf h_rel i_state j_gen k_list l_cut m_fill m_img n_rows o_rows2 p_pairs q_gust r_gust s_more t_links u_reach v_stay w_brace x_echo y_expl
/-! the strings that are missing -/
theorem reach_trans {p : Nat → Nat → Prop} {a b c : Nat} (h : Reach p a b) (h2 : Reach p b c) : Reach p a c := h2 (fun x => Reach p a x) h (fun _ _ h3 h4 => Reach.on h3 h4)
theorem reach_mono {p q : Nat → Nat → Prop} (hpq : ∀ u v, p u v → q u v) {a b : Nat} (h : Reach p a b) : Reach q a b := h (fun x => Reach q a x) Reach.here (fun _ _ h3 h4 => Reach.on h3 (hpq _ _ h4))
theorem reach_sym {p : Nat → Nat → Prop} (hs : ∀ u v, p u v → p v u) {a b : Nat} (h : Reach p a b) : Reach p b a := h (fun x => Reach p x a) Reach.here (fun _ _ h3 h4 => reach_trans (Reach.on Reach.here (hs _ _ h4)) h3)
theorem reach_ins {p : Nat → Nat → Prop} {a b f x : Nat} (h : Reach (ins p a b) f x) : Reach p f x ∨ (Reach p f a ∧ Reach p b x) ∨ (Reach p f b ∧ Reach p a x) := by
  refine h (fun x => Reach p f x ∨ (Reach p f a ∧ Reach p b x) ∨ (Reach p f b ∧ Reach p a x)) (Or.inl Reach.here) (fun u v ih hp => ?_)
  rcases hp with hp | ⟨rfl, rfl⟩ | ⟨rfl, rfl⟩
  · rcases ih with h | ⟨h1, h2⟩ | ⟨h1, h2⟩
    · exact Or.inl (Reach.on h hp)
    · exact Or.inr (Or.inl ⟨h1, Reach.on h2 hp⟩)
    · exact Or.inr (Or.inr ⟨h1, Reach.on h2 hp⟩)
  · rcases ih with h | ⟨h1, h2⟩ | ⟨h1, h2⟩
    · exact Or.inr (Or.inl ⟨h, Reach.here⟩)
    · exact Or.inr (Or.inl ⟨h1, Reach.here⟩)
    · exact Or.inl h1
  · rcases ih with h | ⟨h1, h2⟩ | ⟨h1, h2⟩
    · exact Or.inr (Or.inr ⟨h, Reach.here⟩)
    · exact Or.inl h1
    · exact Or.inr (Or.inr ⟨h1, Reach.here⟩)
theorem joins_iff {p : Nat → Nat → Prop} (hs : ∀ u v, p u v → p v u) {a b f t : Nat} (hn : ¬ Reach p f t) : Reach (ins p a b) f t ↔ (Reach p f a ∧ Reach p t b) ∨ (Reach p f b ∧ Reach p t a) := by
  constructor
  · intro h
    rcases reach_ins h with h | ⟨h1, h2⟩ | ⟨h1, h2⟩
    · exact absurd h hn
    · exact Or.inl ⟨h1, reach_sym hs h2⟩
    · exact Or.inr ⟨h1, reach_sym hs h2⟩
  · have m : ∀ {x y}, Reach p x y → Reach (ins p a b) x y := fun h => reach_mono (fun _ _ h => Or.inl h) h
    rintro (⟨h1, h2⟩ | ⟨h1, h2⟩)
    · exact reach_trans (Reach.on (m h1) (Or.inr (Or.inl ⟨rfl, rfl⟩))) (m (reach_sym hs h2))
    · exact reach_trans (Reach.on (m h1) (Or.inr (Or.inr ⟨rfl, rfl⟩))) (m (reach_sym hs h2))
theorem shr_nI {x k : Nat} (hx : x < 2 ^ 31) (hk : k < 31) : nI x >>> (nI k &&& 31) = nI (x / 2 ^ k) := by
  have e1 : nI k &&& 31 = nI k := by
    rw [show (31 : Int32) = nI (2 ^ 5 - 1) from rfl, fa_mask, Nat.mod_eq_of_lt (by omega)]
  have e2 : ((nI k).toBitVec.smod 32).toNat = k := by
    have : ∀ j, j < 31 → ((nI j).toBitVec.smod 32).toNat = j := by decide +kernel
    exact this k hk
  rw [e1, pk_shrN hx _ k e2]
theorem bit2_nI {x y k l : Nat} (hx : x < 2 ^ 30) (hy : y < 2 ^ 30) (hk : k < 31) (hl : l < 31) {α : Type} (u v : α) : (if ((nI x >>> (nI k &&& 31)) &&& (nI y >>> (nI l &&& 31))) &&& 1 = (0 : Int32) then u else v) = if x.testBit k && y.testBit l then v else u := by
  rw [shr_nI (by omega) hk, shr_nI (by omega) hl, fa_and, show (1 : Int32) = nI (2 ^ 1 - 1) from rfl, fa_mask, n0]
  have h1 : ((x / 2 ^ k) &&& (y / 2 ^ l)).testBit 0 = (x.testBit k && y.testBit l) := by
    rw [Nat.testBit_and, Nat.testBit_div_two_pow, Nat.testBit_div_two_pow, Nat.zero_add, Nat.zero_add]
  rw [Nat.testBit_zero] at h1
  cases hb : (x.testBit k && y.testBit l) with
  | true =>
    rw [hb] at h1
    have h2 : ((x / 2 ^ k) &&& (y / 2 ^ l)) % 2 ^ 1 = 1 := by simpa using h1
    rw [h2, if_neg (ine (by omega) (by decide) (by decide)), if_pos rfl]
  | false =>
    rw [hb] at h1
    have h2 : ((x / 2 ^ k) &&& (y / 2 ^ l)) % 2 ^ 1 = 0 := by
      have : ¬ ((x / 2 ^ k) &&& (y / 2 ^ l)) % 2 = 1 := by simpa using h1
      omega
    rw [h2, if_pos rfl, if_neg (by decide)]
noncomputable def jsF (B : Nat → Nat) (f t : Nat) (_ : Unit) (a b : Nat) : Unit ⊕ Nat := if canB B a b && dB (Reach (ins (tk B (B 1)) a b) f t) then .inr (20 * a + b) else .inl ()
noncomputable def js (B : Nat → Nat) (f t : Nat) : Unit ⊕ Nat := forF2 (B 0) (jsF B f t) 0 (B 0) ()
noncomputable def j2F (B : Nat → Nat) (f t : Nat) (_ : Unit) (a b : Nat) : Unit ⊕ (Nat × Nat) := if canB B a b then (match js (setB B a b 1) f t with | .inl _ => .inl () | .inr y => .inr (20 * a + b, y)) else .inl ()
noncomputable def j2 (B : Nat → Nat) (f t : Nat) : Unit ⊕ (Nat × Nat) := forF2 (B 0) (j2F B f t) 0 (B 0) ()
theorem first7 {m : Nat} {P : Nat → Nat} {w7 w8 w9 pairs knots : Nat → Int32} {B : Nat → Nat} (hL : CL m P pairs knots B) (hB : WF B) (hc : ∀ w, w < B 0 → w7 w = nI (B (6 + w))) (hw : CWs w8 w9 B) {f t x y : Nat} (hx : Bits x 12 (Reach (tk B (B 1)) f)) (hy : Bits y 12 (Reach (tk B (B 1)) t)) (hn : ¬ Reach (tk B (B 1)) f t) :
    fX2_firstJoining (nI (B 0)) (nI (B 4)) (nI (B 1)) (nI m) w7 w8 w9 pairs (nI x) (nI y) = some (fnd (js B f t)) := by
  have h12 := hB.1
  have hx30 : x < 2 ^ 30 := Nat.lt_of_lt_of_le hx.1 (by decide)
  have hy30 : y < 2 ^ 30 := Nat.lt_of_lt_of_le hy.1 (by decide)
  unfold fX2_firstJoining
  rcases loop2x (n := B 0) (f := jsF B f t) (fun (s : Unit) (t : Unit) => True) (fun (x : Nat) r => r = some (nI x))
    (fun F _ a => fX2_firstJoining_2 (nI x) (nI y) (nI (B 0)) (nI (B 4)) (nI (B 1)) (nI m) w7 w8 w9 pairs (some (-1)) F (nI a)) (fun F G _ a b => fX2_firstJoining_15 (nI x) (nI y) (nI a) (nI (B 0)) (nI (B 4)) (nI (B 1)) (nI m) w7 w8 w9 pairs (fX2_firstJoining_2 (nI x) (nI y) (nI (B 0)) (nI (B 4)) (nI (B 1)) (nI m) w7 w8 w9 pairs (some (-1)) F (nI (a + 1))) G (nI b)) (fun _ => some (-1)) (FU_big (by omega))
    (fun F s t e => by rw [fX2_firstJoining_2, if_pos (ile (by omega) (by omega))])
    (fun F s t a ha e => by rw [fX2_firstJoining_2, if_neg (inle ha (by omega)), bnd_e, nI_inc])
    (fun F G s t a ha e => by rw [fX2_firstJoining_15, if_pos (ile (by omega) (by omega))])
    (fun F G s tt a b hab hb e => by
      rw [fX2_firstJoining_15, if_neg (inle hb (by omega)), jn_eq, pairOf7 (by omega) (by omega), bd1_some, Nat.min_eq_left (by omega), Nat.max_eq_right (by omega), taut7 hL hB hc hw hab hb, bd1_some, bd1_some, bI_0', nI_inc, bit2_nI hx30 hy30 (by omega) (by omega), bit2_nI hx30 hy30 (by omega) (by omega)]
      unfold jsF
      rw [show (decide (refN B a b = 0) && !slackN B (B 1) a b) = canB B a b from rfl]
      have hiff := joins_iff (a := a) (b := b) (tk_sym hB) hn
      have hb1 : (x.testBit a && y.testBit b) = true ↔ Reach (tk B (B 1)) f a ∧ Reach (tk B (B 1)) t b := by rw [Bool.and_eq_true, hx.2 a, hy.2 b]
      have hb2 : (x.testBit b && y.testBit a) = true ↔ Reach (tk B (B 1)) f b ∧ Reach (tk B (B 1)) t a := by rw [Bool.and_eq_true, hx.2 b, hy.2 a]
      by_cases hr : Reach (ins (tk B (B 1)) a b) f t
      · rw [dB_t hr]
        cases hcan : canB B a b with
        | true =>
          refine Or.inr ⟨_, rfl, ?_⟩
          by_cases q1 : (x.testBit a && y.testBit b) = true
          · rw [if_pos q1]; rfl
          · rw [if_neg q1]
            by_cases q2 : (x.testBit b && y.testBit a) = true
            · rw [if_pos q2]; rfl
            · rcases hiff.mp hr with h | h
              · exact absurd (hb1.mpr h) q1
              · exact absurd (hb2.mpr h) q2
        | false =>
          refine Or.inl ⟨(), (), rfl, trivial, ?_⟩
          by_cases q1 : (x.testBit a && y.testBit b) = true
          · rw [if_pos q1]; rfl
          · rw [if_neg q1]
            by_cases q2 : (x.testBit b && y.testBit a) = true
            · rw [if_pos q2]; rfl
            · rw [if_neg q2]; rfl
      · rw [dB_f hr, Bool.and_false]
        refine Or.inl ⟨(), (), rfl, trivial, ?_⟩
        rw [if_neg (fun h => hr (hiff.mpr (Or.inl (hb1.mp h)))), if_neg (fun h => hr (hiff.mpr (Or.inr (hb2.mp h))))]
        rfl) (B 0) 0 () () FU (by omega) (FU_big (by omega)) trivial with ⟨s', t', h1, _, h4⟩ | ⟨z, h1, h2⟩
  · unfold js; rw [h1]; exact h4
  · unfold js; rw [h1]; exact h2
theorem setB_undo {B : Nat → Nat} {a b : Nat} (h1 : B (42 + 12 * a + b) = 0) (h2 : B (42 + 12 * b + a) = 0) (v : Nat) : setB (setB B a b v) a b 0 = B := by
  funext j
  unfold setB va_up
  by_cases q1 : j = 42 + 12 * b + a
  · rw [if_pos q1, q1, h2]
  · rw [if_neg q1]
    by_cases q2 : j = 42 + 12 * a + b
    · rw [if_pos q2, q2, h1]
    · rw [if_neg q2, if_neg q1, if_neg q2]
/-- forF2 finds nothing: nowhere -/
theorem forF_none {X : Type} {f : Unit → Nat → Unit ⊕ X} : ∀ k i, forF f i k () = .inl () → ∀ j, i ≤ j → j < i + k → f () j = .inl ()
  | 0, i, _, j, h1, h2 => absurd h2 (by omega)
  | k + 1, i, h, j, h1, h2 => by
    rw [forF] at h
    cases e : f () i with
    | inr x => rw [e] at h; exact absurd h (by simp)
    | inl s =>
      rw [e] at h
      by_cases q : j = i
      · rw [q, e]
      · exact forF_none k (i + 1) h j (by omega) (by omega)
theorem forF2_none {X : Type} {n : Nat} {f : Unit → Nat → Nat → Unit ⊕ X} : ∀ k i, i + k = n → forF2 n f i k () = .inl () → ∀ a b, i ≤ a → a < b → b < n → f () a b = .inl ()
  | 0, i, hi, _, a, b, h1, h2, h3 => absurd h3 (by omega)
  | k + 1, i, hi, h, a, b, h1, h2, h3 => by
    rw [forF2] at h
    cases e : forF (fun s b => f s i b) (i + 1) (n - (i + 1)) () with
    | inr x => rw [e] at h; exact absurd h (by simp)
    | inl s =>
      rw [e] at h
      by_cases q : a = i
      · subst q; exact forF_none (f := fun s b => f s a b) _ _ e b (by omega) (by omega)
      · exact forF2_none k (i + 1) (by omega) h a b (by omega) h2 h3
theorem two7 {m : Nat} {P : Nat → Nat} {w7 w8 w9 pairs knots links : Nat → Int32} {B : Nat → Nat} (hL : CL m P pairs knots B) (hB : WF B) (hc : ∀ w, w < B 0 → w7 w = nI (B (6 + w))) (hw : CWs w8 w9 B) (hl : LK links (tk B (B 1))) {f t : Nat} (hf : f < B 0) (ht : t < B 0) (hn : ¬ Reach (tk B (B 1)) f t) (hj : js B f t = .inl ()) :
    ∃ P' pr' kn' l', fX2_seekTwo (-1) (-1) (-1) (nI (B 0)) (nI (B 4)) (nI (B 1)) (nI m) w7 w8 w9 pairs knots (nI (B 0)) links (nI f) (nI t) = some ((match j2 B f t with | .inl _ => (-1, -1, -1, nI m, pr', kn', l') | .inr (x, y) => (2, nI x, nI y, nI m, pr', kn', l')) : Int32 × Int32 × Int32 × Int32 × (Nat → Int32) × (Nat → Int32) × (Nat → Int32)) ∧ CL m P' pr' kn' B := by
  have h12 := hB.1
  have h21 := hL.1
  unfold fX2_seekTwo
  rcases loop2x (n := B 0) (f := j2F B f t) (fun (s : Unit) (u : Int32 × Int32 × (Nat → Int32) × (Nat → Int32) × (Nat → Int32)) => u.1 = -1 ∧ u.2.1 = nI m ∧ (∃ P, CL m P u.2.2.1 u.2.2.2.1 B) ∧ LK u.2.2.2.2 (tk B (B 1))) (fun (x : Nat × Nat) r => ∃ P' pr' kn' l', r = some (2, nI x.1, nI x.2, nI m, pr', kn', l') ∧ CL m P' pr' kn' B)
    (fun F u a => fX2_seekTwo_3 (nI f) (nI t) (nI (B 0)) (nI (B 4)) (nI (B 1)) w7 w8 w9 (nI (B 0)) (fun x1 x2 x3 x4 x5 => some (-1, -1, x1, x2, x3, x4, x5)) F (nI a) u.1 u.2.1 u.2.2.1 u.2.2.2.1 u.2.2.2.2) (fun F G u a b => fX2_seekTwo_18 (nI f) (nI t) (nI a) (nI (B 0)) (nI (B 4)) (nI (B 1)) w7 w8 w9 (nI (B 0)) (fun x1 x2 x3 x4 x5 => fX2_seekTwo_3 (nI f) (nI t) (nI (B 0)) (nI (B 4)) (nI (B 1)) w7 w8 w9 (nI (B 0)) (fun x1 x2 x3 x4 x5 => some (-1, -1, x1, x2, x3, x4, x5)) F (nI (a + 1)) x1 x2 x3 x4 x5) G (nI b) u.1 u.2.1 u.2.2.1 u.2.2.2.1 u.2.2.2.2) (fun u => some (-1, -1, u.1, u.2.1, u.2.2.1, u.2.2.2.1, u.2.2.2.2)) (FU_big (by omega))
    (fun F s t e => by rw [fX2_seekTwo_3, if_pos (ile (by omega) (by omega))])
    (fun F s t a ha e => by rw [fX2_seekTwo_3, if_neg (inle ha (by omega)), bnd_e, nI_inc])
    (fun F G s t a ha e => by rw [fX2_seekTwo_18, if_pos (ile (by omega) (by omega))])
    (fun F G s u a b hab hb e => by
      obtain ⟨u1, u2, u3, u4, u5⟩ := u
      obtain ⟨e1, e2, ⟨P1, hL1⟩, hl1⟩ := e
      dsimp only at e1 e2 hL1 hl1
      subst e1 e2
      rw [fX2_seekTwo_18, if_neg (inle hb (by omega)), pairOf7 (by omega) (by omega), Nat.min_eq_left (by omega), Nat.max_eq_right (by omega)]
      simp only [bd1_some]
      rw [taut7 hL1 hB hc hw hab hb, bd1_some, bI_0', nI_inc]
      unfold j2F
      rw [show (decide (refN B a b = 0) && !slackN B (B 1) a b) = canB B a b from rfl]
      cases hcan : canB B a b with
      | false => exact Or.inl ⟨(), (-1, nI m, u3, u4, u5), rfl, ⟨rfl, rfl, ⟨P1, hL1⟩, hl1⟩, rfl⟩
      | true =>
        obtain ⟨hr, hsl⟩ := canB_iff.mp hcan
        obtain ⟨htie, hx⟩ := ref0 hr
        obtain ⟨P2, pr2, kn2, a1, a2⟩ := add7 hL1 hB hab hb htie hx (show 0 ≤ 9 by omega)
        replace a1 : fX1_addString (nI m) u3 u4 (nI (20 * a + b)) 0 = some (nI (m + 1), pr2, kn2) := a1
        have hB' := WF_set hB hab hb (show 0 + 1 ≤ 10 by omega) (Or.inr (Or.inr hx))
        have e0 : setB B a b (0 + 1) 0 = B 0 := setB_lo B (by omega)
        have e1 : setB B a b (0 + 1) 1 = B 1 := setB_lo B (by omega)
        have e4 : setB B a b (0 + 1) 4 = B 4 := setB_lo B (by omega)
        obtain ⟨l1, g1, g2⟩ := join7 hl1 (show a < 12 by omega) (show b < 12 by omega) (by omega)
        have htk : tk (setB B a b (0 + 1)) (setB B a b (0 + 1) 1) = ins (tk B (B 1)) a b := by rw [e1]; exact tk_ins hB (by omega) (by omega) hsl
        have g2' : LK l1 (tk (setB B a b (0 + 1)) (setB B a b (0 + 1) 1)) := by rw [htk]; exact g2
        have hlt := tk_lt hB' (hr := setB B a b (0 + 1) 1)
        rw [e0] at hlt
        obtain ⟨x, x1, x2⟩ := reach7 g2' h12 hlt hf
        obtain ⟨y, y1, y2⟩ := reach7 g2' h12 hlt ht
        have hno : ¬ Reach (tk (setB B a b (0 + 1)) (setB B a b (0 + 1) 1)) f t := by
          rw [htk]
          intro hre
          have := forF2_none (B 0) 0 (by omega) hj a b (by omega) hab hb
          unfold jsF at this
          rw [hcan, dB_t hre] at this
          exact absurd this (by simp)
        have hfj := first7 (w7 := w7) (w8 := w8) (w9 := w9) a2 hB' (by rw [e0]; intro w hwl; rw [setB_lo B (by omega)]; exact hc w hwl) (by
          have h8 := hB.2.2.2.2.2.1
          intro k hk
          rw [e4] at hk
          rw [setB_lo B (by omega), setB_lo B (by omega), setB_lo B (by omega)]; exact hw k hk) x2 y2 hno
        rw [e0, e1, e4] at hfj
        obtain ⟨l3, g5, g6⟩ := sever7 g2 (show a < 12 by omega) (show b < 12 by omega) (by omega)
        have hk : LK l3 (tk B (B 1)) := g6.congr (fun w k _ => ⟨by
          rintro ⟨h1 | h1, h2⟩
          · exact h1
          · exact absurd h1 h2, fun h1 => ⟨Or.inl h1, by
          rintro (⟨rfl, rfl⟩ | ⟨rfl, rfl⟩)
          · have := h1.2.2; unfold talkN at this; rw [htie] at this; simp at this
          · have := (tk_sym hB _ _ h1).2.2; unfold talkN at this; rw [htie] at this; simp at this⟩⟩)
        have hz : B (42 + 12 * a + b) = 0 := by have := htie; unfold tied at this; simpa using this
        have hsy := hB.2.2.2.2.2.2.2.2.2.1 a b (by omega) (by omega)
        obtain ⟨j, hj1, hj2, hidx⟩ : ∃ j, j < m + 1 ∧ P2 j = 20 * a + b ∧ fX1_indexOf (nI (m + 1)) pr2 (nI (20 * a + b)) = some (nI j) := by
          rcases idx7_pair a2 hB' hab (by rw [e0]; exact hb) with ⟨_, j, h1, h2, h3⟩ | ⟨h1, _⟩
          · exact ⟨j, h1, h2, h3⟩
          · rw [tied_set (by omega) (by omega) (by omega) (by omega), if_pos (by omega)] at h1
            simp at h1
        obtain ⟨P3, pr3, kn3, r1, r2⟩ := rem7 a2 hB' hj1
        rw [hj2, show (20 * a + b) / 20 = a by omega, show (20 * a + b) % 20 = b by omega, setB_undo hz (by rw [← hsy.2.1]; exact hz)] at r2
        rw [Nat.add_sub_cancel] at r1 r2
        rw [if_pos rfl, a1, bd3_some, g1, bd1_some, x1, bd1_some, y1, bd1_some, hfj, bd1_some, g5, bd1_some, hidx, bd1_some, r1, bd3_some]
        rw [if_pos rfl]
        cases hjs : js (setB B a b (0 + 1)) f t with
        | inl _ =>
          rw [if_pos (show fnd (.inl _) = -1 from rfl)]
          exact Or.inl ⟨(), (-1, nI m, pr3, kn3, l3), rfl, ⟨rfl, rfl, ⟨P3, r2⟩, hk⟩, rfl⟩
        | inr y =>
          have hne := fnd_no (n := B 0) h12 (f := jsF (setB B a b (0 + 1)) f t) (fun c d y hy => by
            unfold jsF at hy
            split at hy
            · simp at hy; omega
            · exact absurd hy (by simp)) y (by have := hjs; unfold js at this; rw [e0] at this; exact this)
          rw [if_neg hne]
          exact Or.inr ⟨(20 * a + b, y), rfl, P3, pr3, kn3, l3, rfl, r2⟩) (B 0) 0 () (-1, nI m, pairs, knots, links) FU (by omega) (FU_big (by omega)) ⟨rfl, rfl, ⟨P, hL⟩, hl⟩ with ⟨s', u', h1, ⟨h2, h3, ⟨P1, h4⟩, h5⟩, h6⟩ | ⟨z, h1, P', pr', kn', l', h2, h3⟩
  · refine ⟨P1, u'.2.2.1, u'.2.2.2.1, u'.2.2.2.2, ?_, h4⟩
    unfold j2; rw [h1]
    refine Eq.trans h6 ?_
    rw [h2, h3]
  · refine ⟨P', pr', kn', l', ?_, h3⟩
    unfold j2; rw [h1]; exact h2
