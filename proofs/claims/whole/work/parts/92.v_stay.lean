-- uses: a_lib b_court c_leaf8 d_loop8 e_list f_why g_leaf h_rel i_state j_gen k_list l_cut m_fill m_img n_rows o_rows2 p_pairs q_gust r_gust s_more t_links u_reach
/-! strings on which all hangs -/
theorem loop2i {S T β : Type} {n : Nat} {g : S → Nat → Nat → S} (R : Nat → Nat → S → T → Prop) (O : Nat → T → Nat → Option β) (I : Nat → Nat → T → Nat → Nat → Option β) (K : T → Option β)
    (hn : n < FU) (hrow : ∀ a s t, a < n → R a n s t → R (a + 1) (a + 2) s t)
    (h1 : ∀ F s t, R n (n + 1) s t → O (F + 1) t n = K t) (h2 : ∀ F s t a, a < n → R a (a + 1) s t → O (F + 1) t a = I F FU t a (a + 1))
    (h3 : ∀ F G s t a, a < n → R a n s t → I F (G + 1) t a n = O F t (a + 1))
    (h4 : ∀ F G s t a b, a < b → b < n → R a b s t → ∃ t', R a (b + 1) (g s a b) t' ∧ I F (G + 1) t a b = I F G t' a (b + 1)) :
    ∀ k a s t F, a + k = n → k < F → R a (a + 1) s t → ∃ t', R n (n + 1) (fold2 n g a k s) t' ∧ O F t a = K t' := by
  intro k
  induction k with
  | zero =>
    intro a s t F hi hF hR
    obtain ⟨F, rfl⟩ : ∃ m, F = m + 1 := ⟨F - 1, by omega⟩
    obtain rfl : a = n := by omega
    exact ⟨t, hR, h1 F s t hR⟩
  | succ k ih =>
    intro a s t F hi hF hR
    obtain ⟨F, rfl⟩ : ∃ m, F = m + 1 := ⟨F - 1, by omega⟩
    rw [h2 F s t a (by omega) hR, fold2]
    obtain ⟨t', ⟨-, h5⟩, h6⟩ := loop1 (n := n) (g := fun s b => g s a b) (fun b s t => a < b ∧ R a b s t) (fun G t b => I F G t a b) (fun t => O F t (a + 1)) (fun G s t hR => h3 F G s t a (by omega) hR.2)
      (fun G s t b hb hR => by
        obtain ⟨t', h7, h8⟩ := h4 F G s t a b hR.1 hb hR.2
        exact ⟨t', ⟨by omega, h7⟩, h8⟩) (n - (a + 1)) (a + 1) s t FU (by omega) (by omega) ⟨by omega, hR⟩
    rw [h6]
    exact ih (a + 1) _ t' F (by omega) (by omega) (hrow a _ t' (by omega) h5)
noncomputable def dB (P : Prop) : Bool := @decide P (Classical.propDecidable P)
theorem dB_iff (P : Prop) : dB P = true ↔ P := by unfold dB; exact @decide_eq_true_iff P (Classical.propDecidable P)
theorem dB_t {P : Prop} (h : P) : dB P = true := (dB_iff P).mpr h
theorem dB_f {P : Prop} (h : ¬ P) : dB P = false := Bool.eq_false_iff.mpr (fun e => h ((dB_iff P).mp e))
def del (p : Nat → Nat → Prop) (a b : Nat) (w k : Nat) : Prop := p w k ∧ ¬ ((w = a ∧ k = b) ∨ (w = b ∧ k = a))
def ins (p : Nat → Nat → Prop) (a b : Nat) (w k : Nat) : Prop := p w k ∨ (w = a ∧ k = b) ∨ (w = b ∧ k = a)
noncomputable def stB (p : Nat → Nat → Prop) (a b : Nat) : Bool := dB (p a b ∧ ¬ Reach (del p a b) a b)
noncomputable def stN (p : Nat → Nat → Prop) (n : Nat) : Nat := fold2 n (fun c a b => if stB p a b then c + 1 else c) 0 n 0
theorem linked7 {links : Nat → Int32} {p : Nat → Nat → Prop} (h : LK links p) {a b : Nat} (ha : a < 12) (hb : b < 12) : fX6_areLinked links (nI a) (nI b) = some (bI (dB (p a b))) := by
  obtain ⟨x, h1, h2⟩ := h a ha
  unfold fX6_areLinked
  have : Decidable (p a b) := Classical.propDecidable _
  rw [rdI_nI ha (by decide), h1, bit_if h2 (by omega) (by omega)]
  by_cases q : p a b
  · rw [if_pos q, dB_t q]; rfl
  · rw [if_neg q, dB_f q]; rfl
theorem isStay7 {links : Nat → Int32} {p : Nat → Nat → Prop} (h : LK links p) {n a b : Nat} (hn : n ≤ 12) (hp : ∀ u v, p u v → v < n) (hsym : ∀ u v, p u v → p v u) (ha : a < n) (hb : b < n) (hab : a ≠ b) : ∃ l', fX6_isStay (nI n) links (nI a) (nI b) = some (bI (stB p a b), l') ∧ LK l' p := by
  unfold fX6_isStay
  rw [linked7 h (by omega) (by omega), bd1_some, bI_0']
  by_cases q : p a b
  · rw [dB_t q, if_pos rfl]
    obtain ⟨l1, g1, g2⟩ := sever7 h (show a < 12 by omega) (show b < 12 by omega) hab
    obtain ⟨x, g3, g4⟩ := reach7 g2 hn (fun u v hu => hp u v hu.1) ha
    obtain ⟨l2, g5, g6⟩ := join7 g2 (show a < 12 by omega) (show b < 12 by omega) hab
    have : Decidable (Reach (del p a b) a b) := Classical.propDecidable _
    have hk : LK l2 p := g6.congr (fun w k _ => ⟨by
      rintro (h1 | ⟨rfl, rfl⟩ | ⟨rfl, rfl⟩)
      · exact h1.1
      · exact q
      · exact hsym _ _ q, fun h1 => by
      by_cases e : (w = a ∧ k = b) ∨ (w = b ∧ k = a)
      · exact Or.inr e
      · exact Or.inl ⟨h1, e⟩⟩)
    have g4' : Bits x 12 (Reach (del p a b) a) := g4
    rw [g1, bd1_some, g3, bd1_some, g5, jn_eq, bit_if g4' (by omega) (by omega)]
    by_cases r : Reach (del p a b) a b
    · rw [if_pos r]
      refine ⟨l2, ?_, hk⟩
      have e : stB p a b = false := dB_f (fun h => h.2 r)
      rw [e]; rfl
    · rw [if_neg r]
      refine ⟨l2, ?_, hk⟩
      have e : stB p a b = true := dB_t ⟨q, r⟩
      rw [e]; rfl
  · rw [dB_f q]
    have e : stB p a b = false := dB_f (fun h => q h.1)
    rw [e]
    exact ⟨links, rfl, h⟩
theorem slack_set (B : Nat → Nat) (hB : WF B) (a b v hr c d : Nat) : slackN (setB B a b v) hr c d = slackN B hr c d := by
  have h8 := hB.2.2.2.2.2.1
  unfold slackN
  rw [setB_lo B (by omega)]
  exact anyF_congr _ _ (fun k h1 h2 => by rw [setB_lo B (by omega), setB_lo B (by omega), setB_lo B (by omega)])
theorem talk_set (B : Nat → Nat) (hB : WF B) {a b v hr c d : Nat} (ha : a < 12) (hb : b < 12) (hc : c < 12) (hd : d < 12) : talkN (setB B a b v) hr c d = if (c = a ∧ d = b) ∨ (c = b ∧ d = a) then (decide (0 < v) && !slackN B hr a b) else talkN B hr c d := by
  unfold talkN
  rw [tied_set ha hb hc hd, slack_set B hB]
  by_cases q : (c = a ∧ d = b) ∨ (c = b ∧ d = a)
  · rw [if_pos q, if_pos q]
    rcases q with ⟨rfl, rfl⟩ | ⟨rfl, rfl⟩
    · rfl
    · rw [slackN_sym B hr]
  · rw [if_neg q, if_neg q]
theorem tk_del {B : Nat → Nat} (hB : WF B) {a b hr : Nat} (ha : a < 12) (hb : b < 12) : tk (setB B a b 0) hr = del (tk B hr) a b := by
  funext w k
  apply propext
  constructor
  · rintro ⟨h1, h2, h3⟩
    rw [talk_set B hB ha hb h1 h2] at h3
    by_cases q : (w = a ∧ k = b) ∨ (w = b ∧ k = a)
    · rw [if_pos q] at h3; simp at h3
    · rw [if_neg q] at h3; exact ⟨⟨h1, h2, h3⟩, q⟩
  · rintro ⟨⟨h1, h2, h3⟩, q⟩
    refine ⟨h1, h2, ?_⟩
    rw [talk_set B hB ha hb h1 h2, if_neg q]; exact h3
theorem tk_ins {B : Nat → Nat} (hB : WF B) {a b hr v : Nat} (ha : a < 12) (hb : b < 12) (hs : slackN B hr a b = false) : tk (setB B a b (v + 1)) hr = ins (tk B hr) a b := by
  funext w k
  apply propext
  constructor
  · rintro ⟨h1, h2, h3⟩
    rw [talk_set B hB ha hb h1 h2] at h3
    by_cases q : (w = a ∧ k = b) ∨ (w = b ∧ k = a)
    · exact Or.inr q
    · rw [if_neg q] at h3; exact Or.inl ⟨h1, h2, h3⟩
  · intro h
    have h12 : w < 12 ∧ k < 12 := by
      rcases h with h | h | h
      · exact ⟨h.1, h.2.1⟩
      · omega
      · omega
    refine ⟨h12.1, h12.2, ?_⟩
    rw [talk_set B hB ha hb h12.1 h12.2]
    by_cases q : (w = a ∧ k = b) ∨ (w = b ∧ k = a)
    · rw [if_pos q, hs]; simp
    · rw [if_neg q]
      rcases h with h | h
      · exact h.2.2
      · exact absurd h q
/-- set and set back -/
theorem back {A : Nat → Int32} {a b : Nat} {v x : Int32} (ha : a < 12) (hb : b < 12) (h1 : A (42 + 12 * a + b) = x) (h2 : A (42 + 12 * b + a) = x) {A1 : Nat → Int32} (h3 : fX8_sets 558 A (nI a) (nI b) v = some A1) : fX8_sets 558 A1 (nI a) (nI b) x = some A := by
  unfold fX8_sets at h3 ⊢
  rw [idx8, idx8, wrI_nI (by omega) (by decide), wrI_nI (by omega) (by decide)] at h3 ⊢
  injection h3 with h3
  subst h3
  congr 1
  funext j
  unfold upd
  by_cases q1 : j = 42 + 12 * b + a
  · rw [if_pos q1, q1, h2]
  · rw [if_neg q1]
    by_cases q2 : j = 42 + 12 * a + b
    · rw [if_pos q2, q2, h1]
    · rw [if_neg q2, if_neg q1, if_neg q2]
theorem MB_at {A : Nat → Int32} {B : Nat → Nat} (h : MB A 0 B) {j : Nat} (hj : j < 186) : A j = nI (B j) := by
  have := h j hj; rwa [Nat.zero_add] at this
theorem isStay8 {A : Nat → Int32} {B : Nat → Nat} (h : MB A 0 B) (hB : WF B) {a b : Nat} (hab : a < b) (hb : b < B 0) : fX8_isStay A (nI a) (nI b) = some (bI (stB (tk B (B 1)) a b), A) := by
  have h12 := hB.1
  have hh := hB.2.2.1
  have hsy := hB.2.2.2.2.2.2.2.2.2.1 a b (by omega) (by omega)
  unfold fX8_isStay
  rw [show (1 : Int32) = nI 1 from rfl, rd_MB h (by omega) (by omega) (by decide), talks8 h hB (by omega) (by omega) (by omega), bd1_some, bI_0', idx8, rd_MB h (by omega) (by omega) (by decide)]
  cases ht : talkN B (B 1) a b with
  | false =>
    have e : stB (tk B (B 1)) a b = false := dB_f (fun h => by have := h.1.2.2; rw [ht] at this; exact absurd this (by decide))
    rw [e]; rfl
  | true =>
    obtain ⟨A', s1, s2, s3⟩ := sets8 (v := 0) h (show 186 ≤ 558 by decide) (by decide) (show a < 12 by omega) (show b < 12 by omega)
    have hB' := WF_set hB hab hb (show 0 ≤ 10 by omega) (Or.inl rfl)
    obtain ⟨x, x1, x2⟩ := part8 s2 hB' (w := a) (by rw [setB_lo B (by omega)]; omega)
    rw [setB_lo B (show 1 < 42 by omega), tk_del hB (by omega) (by omega)] at x2
    have bk := back (show a < 12 by omega) (show b < 12 by omega) (MB_at h (by omega)) ((MB_at h (by omega)).trans (by rw [← hsy.2.1])) s1
    have : Decidable (Reach (del (tk B (B 1)) a b) a b) := Classical.propDecidable _
    replace s1 : fX8_sets 558 A (nI a) (nI b) 0 = some A' := s1
    rw [if_pos rfl, s1, bd1_some, x1, bd1_some, jn_eq, bk, show nI 1 = (1 : Int32) from rfl, bit_if x2 (by omega) (by omega)]
    by_cases r : Reach (del (tk B (B 1)) a b) a b
    · rw [if_pos r]
      have e : stB (tk B (B 1)) a b = false := dB_f (fun h => h.2 r)
      rw [e]; rfl
    · rw [if_neg r]
      have e : stB (tk B (B 1)) a b = true := dB_t ⟨⟨by omega, by omega, ht⟩, r⟩
      rw [e]; rfl
theorem tk_sym {B : Nat → Nat} (hB : WF B) {hr : Nat} : ∀ u v, tk B hr u v → tk B hr v u := fun u v h => ⟨h.2.1, h.1, by rw [talk_sym hB h.2.1 h.1]; exact h.2.2⟩
theorem stays7 {links : Nat → Int32} {p : Nat → Nat → Prop} (h : LK links p) {n : Nat} (hn : n ≤ 12) (hp : ∀ u v, p u v → v < n) (hsym : ∀ u v, p u v → p v u) : ∃ l', fX6_stays (nI n) links = some (nI (stN p n), l') ∧ LK l' p := by
  unfold fX6_stays
  obtain ⟨t, ⟨h1, h1'⟩, h2⟩ := loop2 (n := n) (g := fun c a b => if stB p a b then c + 1 else c) (fun (s : Nat) (t : Int32 × (Nat → Int32)) => t.1 = nI s ∧ LK t.2 p)
    (fun F t a => fX6_stays_4 (nI n) (fun w l => some (w, l)) F t.1 (nI a) t.2) (fun F G t a b => fX6_stays_16 (nI a) (nI n) (fun w l => fX6_stays_4 (nI n) (fun w l => some (w, l)) F w (nI (a + 1)) l) G t.1 (nI b) t.2) (fun t => some (t.1, t.2)) (FU_big (by omega))
    (fun F s t e => by rw [fX6_stays_4, if_pos (ile (by omega) (by omega))])
    (fun F s t a ha e => by rw [fX6_stays_4, if_neg (inle ha (by omega)), bnd_e, nI_inc])
    (fun F G s t a ha e => by rw [fX6_stays_16, if_pos (ile (by omega) (by omega))])
    (fun F G s t a b hab hb e => by
      obtain ⟨t1, t2⟩ := t
      obtain ⟨e1, e2⟩ := e
      dsimp only at e1 e2
      subst e1
      obtain ⟨l', g1, g2⟩ := isStay7 e2 hn hp hsym (show a < n by omega) hb (by omega)
      rw [fX6_stays_16, if_neg (inle hb (by omega)), g1, bd2_some, bI_0', nI_inc, nI_inc]
      cases stB p a b
      · exact ⟨(nI s, l'), ⟨rfl, g2⟩, rfl⟩
      · exact ⟨(nI (s + 1), l'), ⟨rfl, g2⟩, rfl⟩) n 0 0 (nI 0, links) FU (by omega) (FU_big (by omega)) ⟨rfl, h⟩
  exact ⟨t.2, h2.trans (by rw [h1]; rfl), h1'⟩
theorem stays8 {A : Nat → Int32} {B : Nat → Nat} (h : MB A 0 B) (hB : WF B) : fX8_stays A = some (nI (stN (tk B (B 1)) (B 0)), A) := by
  have h12 := hB.1
  unfold fX8_stays
  obtain ⟨t, ⟨h1, h1'⟩, h2⟩ := loop2 (n := B 0) (g := fun c a b => if stB (tk B (B 1)) a b then c + 1 else c) (fun (s : Nat) (t : Int32 × (Nat → Int32)) => t.1 = nI s ∧ t.2 = A)
    (fun F t a => fX8_stays_4 (fun w l => some (w, l)) F t.1 (nI a) t.2) (fun F G t a b => fX8_stays_18 (nI a) (fun w l => fX8_stays_4 (fun w l => some (w, l)) F w (nI (a + 1)) l) G t.1 (nI b) t.2) (fun t => some (t.1, t.2)) (FU_big (by omega))
    (fun F s t e => by rw [e.2, fX8_stays_4, n0, rd_MB h (by omega) (by omega) (by decide), if_pos (ile (by omega) (by omega))])
    (fun F s t a ha e => by rw [e.2, fX8_stays_4, n0, rd_MB h (by omega) (by omega) (by decide), if_neg (inle ha (by omega)), bnd_e, nI_inc])
    (fun F G s t a ha e => by rw [e.2, fX8_stays_18, n0, rd_MB h (by omega) (by omega) (by decide), if_pos (ile (by omega) (by omega))])
    (fun F G s t a b hab hb e => by
      obtain ⟨t1, t2⟩ := t
      obtain ⟨e1, e2⟩ := e
      dsimp only at e1 e2
      subst e1 e2
      rw [fX8_stays_18, n0, rd_MB h (by omega) (by omega) (by decide), if_neg (inle hb (by omega)), isStay8 h hB hab hb, bd2_some, show nI 0 = (0 : Int32) from rfl, bI_0', bnd_e, bnd_e, Int32.add_zero, nI_inc, nI_inc]
      cases stB (tk B (B 1)) a b
      · exact ⟨(nI s, t2), ⟨rfl, rfl⟩, rfl⟩
      · exact ⟨(nI (s + 1), t2), ⟨rfl, rfl⟩, rfl⟩) (B 0) 0 0 (nI 0, A) FU (by omega) (FU_big (by omega)) ⟨rfl, rfl⟩
  exact h2.trans (by rw [h1, h1']; rfl)
/-- the k-th stay -/
noncomputable def saF (p : Nat → Nat → Prop) (v : Int32) (c a b : Nat) : Nat ⊕ Nat := if stB p a b then (if nI c = v then .inr (20 * a + b) else .inl (c + 1)) else .inl c
theorem stayAt7 {links : Nat → Int32} {p : Nat → Nat → Prop} (h : LK links p) {n : Nat} (hn : n ≤ 12) (hp : ∀ u v, p u v → v < n) (hsym : ∀ u v, p u v → p v u) (v : Int32) : ∃ l', fX6_stayAt (nI n) links v = some (match forF2 n (saF p v) 0 n 0 with | .inl _ => -1 | .inr x => nI x, l') := by
  unfold fX6_stayAt
  rcases loop2x (n := n) (f := saF p v) (fun (s : Nat) (t : Int32 × (Nat → Int32)) => t.1 = nI s ∧ LK t.2 p) (fun (x : Nat) r => ∃ l', r = some (nI x, l'))
    (fun F t a => fX6_stayAt_4 v (nI n) (fun l => some (-1, l)) F t.1 (nI a) t.2) (fun F G t a b => fX6_stayAt_17 v (nI a) (nI n) (fun w l => fX6_stayAt_4 v (nI n) (fun l => some (-1, l)) F w (nI (a + 1)) l) G t.1 (nI b) t.2) (fun t => some (-1, t.2)) (FU_big (by omega))
    (fun F s t e => by rw [fX6_stayAt_4, if_pos (ile (by omega) (by omega))])
    (fun F s t a ha e => by rw [fX6_stayAt_4, if_neg (inle ha (by omega)), bnd_e, nI_inc])
    (fun F G s t a ha e => by rw [fX6_stayAt_17, if_pos (ile (by omega) (by omega))])
    (fun F G s t a b hab hb e => by
      obtain ⟨t1, t2⟩ := t
      obtain ⟨e1, e2⟩ := e
      dsimp only at e1 e2
      subst e1
      obtain ⟨l', g1, g2⟩ := isStay7 e2 hn hp hsym (show a < n by omega) hb (by omega)
      rw [fX6_stayAt_17, if_neg (inle hb (by omega)), g1, bd2_some, bI_0', nI_inc, nI_inc, pairOf7 (by omega) (by omega), bd1_some, Nat.min_eq_left (by omega), Nat.max_eq_right (by omega)]
      unfold saF
      cases stB p a b
      · exact Or.inl ⟨s, (nI s, l'), rfl, ⟨rfl, g2⟩, rfl⟩
      · simp only [if_true]
        by_cases q : nI s = v
        · rw [if_pos q, if_pos q]; exact Or.inr ⟨_, rfl, l', rfl⟩
        · rw [if_neg q, if_neg q]; exact Or.inl ⟨s + 1, (nI (s + 1), l'), rfl, ⟨rfl, g2⟩, rfl⟩) n 0 0 (nI 0, links) FU (by omega) (FU_big (by omega)) ⟨rfl, h⟩ with ⟨s', t', h1, ⟨h2, h3⟩, h4⟩ | ⟨x, h1, l', h2⟩
  · rw [h1]; exact ⟨t'.2, h4⟩
  · rw [h1]; exact ⟨l', h2⟩
theorem stayAt8 {A : Nat → Int32} {B : Nat → Nat} (h : MB A 0 B) (hB : WF B) (v th : Int32) (hv : ¬ v = -1) : ∃ th', fX8_stay th A v = some (match forF2 (B 0) (saF (tk B (B 1)) v) 0 (B 0) 0 with | .inl _ => -1 | .inr x => nI x, th', A) := by
  have h12 := hB.1
  unfold fX8_stay
  rcases loop2x (n := B 0) (f := saF (tk B (B 1)) v) (fun (s : Nat) (t : Int32 × (Nat → Int32)) => t.1 = nI s ∧ t.2 = A) (fun (x : Nat) r => r = some (nI x, 0, A))
    (fun F t a => fX8_stay_9 v 0 (fun (w_15 : Int32) (t_all_16 : Nat → Int32) => if v = (-1) then some (w_15, (0 : Int32), t_all_16) else some ((-1 : Int32), (0 : Int32), t_all_16)) F t.1 (nI a) t.2) (fun F G t a b => fX8_stay_24 v (nI a) 0 (fun w l => fX8_stay_9 v 0 (fun (w_15 : Int32) (t_all_16 : Nat → Int32) => if v = (-1) then some (w_15, (0 : Int32), t_all_16) else some ((-1 : Int32), (0 : Int32), t_all_16)) F w (nI (a + 1)) l) G t.1 (nI b) t.2) (fun t => some (-1, 0, t.2)) (FU_big (by omega))
    (fun F s t e => by rw [e.2, fX8_stay_9, n0, rd_MB h (by omega) (by omega) (by decide), if_pos (ile (by omega) (by omega)), if_neg hv])
    (fun F s t a ha e => by rw [e.2, fX8_stay_9, n0, rd_MB h (by omega) (by omega) (by decide), if_neg (inle ha (by omega)), bnd_e, nI_inc])
    (fun F G s t a ha e => by rw [e.2, fX8_stay_24, n0, rd_MB h (by omega) (by omega) (by decide), if_pos (ile (by omega) (by omega))])
    (fun F G s t a b hab hb e => by
      obtain ⟨t1, t2⟩ := t
      obtain ⟨e1, e2⟩ := e
      dsimp only at e1 e2
      subst e1 e2
      rw [fX8_stay_24, show (0 : Int32) = nI 0 from rfl, rd_MB h (by omega) (by omega) (by decide), if_neg (inle hb (by omega)), isStay8 h hB hab hb, bd2_some, show nI 0 = (0 : Int32) from rfl, bI_0', nI_inc, nI_inc, show (20 * nI a + nI b : Int32) = nI (20 * a + b) by rw [lit 20, pk_mul, nI_add]]
      unfold saF
      cases stB (tk B (B 1)) a b
      · exact Or.inl ⟨s, (nI s, t2), rfl, ⟨rfl, rfl⟩, rfl⟩
      · simp only [if_true]
        by_cases q : nI s = v
        · rw [if_pos q, if_pos q]; exact Or.inr ⟨_, rfl, rfl⟩
        · rw [if_neg q, if_neg q]; exact Or.inl ⟨s + 1, (nI (s + 1), t2), rfl, ⟨rfl, rfl⟩, rfl⟩) (B 0) 0 0 (nI 0, A) FU (by omega) (FU_big (by omega)) ⟨rfl, rfl⟩ with ⟨s', t', h1, ⟨h2, h3⟩, h4⟩ | ⟨x, h1, h2⟩
  · rw [h1]; exact ⟨0, h4.trans (by rw [h3])⟩
  · rw [h1]; exact ⟨0, h2⟩
theorem stayC8 {A : Nat → Int32} {B : Nat → Nat} (h : MB A 0 B) (hB : WF B) (th : Int32) : fX8_stay th A (-1) = some (nI (stN (tk B (B 1)) (B 0)), 0, A) := by
  have h12 := hB.1
  unfold fX8_stay
  obtain ⟨t, ⟨h1, h1', -⟩, h2⟩ := loop2i (n := B 0) (g := fun c a b => if stB (tk B (B 1)) a b then c + 1 else c) (fun a b (s : Nat) (t : Int32 × (Nat → Int32)) => t.1 = nI s ∧ t.2 = A ∧ s ≤ 12 * a + b)
    (fun F t a => fX8_stay_9 (-1) 0 (fun (w_15 : Int32) (t_all_16 : Nat → Int32) => if (-1 : Int32) = (-1) then some (w_15, (0 : Int32), t_all_16) else some ((-1 : Int32), (0 : Int32), t_all_16)) F t.1 (nI a) t.2) (fun F G t a b => fX8_stay_24 (-1) (nI a) 0 (fun w l => fX8_stay_9 (-1) 0 (fun (w_15 : Int32) (t_all_16 : Nat → Int32) => if (-1 : Int32) = (-1) then some (w_15, (0 : Int32), t_all_16) else some ((-1 : Int32), (0 : Int32), t_all_16)) F w (nI (a + 1)) l) G t.1 (nI b) t.2) (fun t => some (t.1, 0, t.2)) (FU_big (by omega))
    (fun a s t ha e => ⟨e.1, e.2.1, by omega⟩)
    (fun F s t e => by rw [e.2.1, fX8_stay_9, n0, rd_MB h (by omega) (by omega) (by decide), if_pos (ile (by omega) (by omega)), if_pos rfl])
    (fun F s t a ha e => by rw [e.2.1, fX8_stay_9, n0, rd_MB h (by omega) (by omega) (by decide), if_neg (inle ha (by omega)), bnd_e, nI_inc])
    (fun F G s t a ha e => by rw [e.2.1, fX8_stay_24, n0, rd_MB h (by omega) (by omega) (by decide), if_pos (ile (by omega) (by omega))])
    (fun F G s t a b hab hb e => by
      obtain ⟨t1, t2⟩ := t
      obtain ⟨e1, e2, e3⟩ := e
      dsimp only at e1 e2
      subst e1 e2
      rw [fX8_stay_24, show (0 : Int32) = nI 0 from rfl, rd_MB h (by omega) (by omega) (by decide), if_neg (inle hb (by omega)), isStay8 h hB hab hb, bd2_some, show nI 0 = (0 : Int32) from rfl, bI_0', nI_inc, nI_inc, if_neg (m1_ne (show s < 2 ^ 31 by omega))]
      cases stB (tk B (B 1)) a b
      · exact ⟨(nI s, t2), ⟨rfl, rfl, by show s ≤ _; omega⟩, rfl⟩
      · exact ⟨(nI (s + 1), t2), ⟨rfl, rfl, by show s + 1 ≤ _; omega⟩, rfl⟩) (B 0) 0 0 (nI 0, A) FU (by omega) (FU_big (by omega)) ⟨rfl, rfl, by omega⟩
  exact h2.trans (by rw [h1, h1']; rfl)
theorem st_stay : Step_stay Rel0 := by
  intro w0 w1 w2 w3 w4 w5 w6 w7 w8 w9 w10 w11 xt xn xf xp rs rz rv made im all has mt mn mf mp so ma nu y0 y1 y2 th v hR
  obtain ⟨⟨B, hB, hM, hC⟩, hT, hF, hRw, hI⟩ := id hR
  obtain ⟨e0, e4, e2, e3, e5, e1, ⟨m, P, em, hL⟩, hc, hw⟩ := id hC
  dsimp only at e0 e4 e2 e3 e5 e1 em hL hc hw
  subst e0 e4 e2 e3 e5 e1 em
  have h12 := hB.1
  have hh := hB.2.2.1
  unfold fX7_stay
  obtain ⟨l', q', t1, t2, t3⟩ := take_ok hL hB hw (show B 1 < 100000 by omega) y0 y1 y2
  rw [t1, bd3_some]
  by_cases hv : v = -1
  · subst hv
    obtain ⟨l2, s1, s2⟩ := stays7 t2 h12 (tk_lt hB) (tk_sym hB)
    rw [if_pos rfl, s1, bd2_some, stayC8 hM hB]
    exact ⟨_, _, _, _, 0, all, rfl, rfl, hR⟩
  · obtain ⟨l2, s1⟩ := stayAt7 t2 h12 (tk_lt hB) (tk_sym hB) v
    obtain ⟨th', s2⟩ := stayAt8 hM hB v th hv
    rw [if_neg hv, s1, bd2_some, s2]
    exact ⟨_, _, _, _, th', all, rfl, rfl, hR⟩
