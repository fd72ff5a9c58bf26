-- uses: a_lib b_court c_leaf8 d_loop8 e_list f_why g_leaf j_gen
/-! strings come and go -/
theorem crossN_sym {a b c d : Nat} (hab : a < b) (hcd : c < d) : crossN a b c d = crossN c d a b := by
  unfold crossN
  rw [Bool.eq_iff_iff]
  simp only [Bool.and_eq_true, bne_iff_ne, ne_eq, decide_eq_decide, decide_eq_true_eq]
  omega
theorem crossN_self {a b : Nat} : crossN a b a b = false := by unfold crossN; simp
theorem crossesN_no {B : Nat → Nat} {a b : Nat} (hab : a < b) (h : crossesN B a b = false) {c d : Nat} (hcd : c < d) (hd : d < B 0) (ht : tied B c d = true) : crossN a b c d = false := by
  cases hx : crossN a b c d with
  | false => rfl
  | true =>
    refine absurd ?_ (Bool.eq_false_iff.mp h)
    unfold crossesN
    rw [Nat.min_eq_left (Nat.le_of_lt hab), Nat.max_eq_right (Nat.le_of_lt hab), anyF_iff]
    refine ⟨c, by omega, by omega, ?_⟩
    rw [anyF_iff]
    exact ⟨d, by omega, by omega, by rw [ht, hx]; rfl⟩
theorem tied_set {B : Nat → Nat} {a b v c d : Nat} (ha : a < 12) (hb : b < 12) (hc : c < 12) (hd : d < 12) : tied (setB B a b v) c d = if (c = a ∧ d = b) ∨ (c = b ∧ d = a) then decide (0 < v) else tied B c d := by
  unfold tied
  rw [setB_at B ha hb hc hd]
  split <;> rfl
theorem WF_set {B : Nat → Nat} (hB : WF B) {a b v : Nat} (hab : a < b) (hb : b < B 0) (hv : v ≤ 10) (hx : v = 0 ∨ tied B a b = true ∨ crossesN B a b = false) : WF (setB B a b v) := by
  have h12 := hB.1
  have hx' : v = 0 ∨ ∀ c d, c < d → d < B 0 → tied B c d = true → crossN a b c d = false := by
    rcases hx with h | h | h
    · exact Or.inl h
    · exact Or.inr fun c d h1 h2 h3 => hB.2.2.2.2.2.2.2.2.2.2 a b c d hab hb h1 h2 h h3
    · exact Or.inr fun c d h1 h2 h3 => crossesN_no hab h h1 h2 h3
  obtain ⟨g0, g0', g1, g2, g3, g4, g5, g6, g7, g8, g9⟩ := hB
  refine ⟨by rw [setB_lo B (by omega)]; exact g0, by rw [setB_lo B (by omega)]; exact g0', by rw [setB_lo B (by omega)]; exact g1, by rw [setB_lo B (by omega)]; exact g2, by rw [setB_lo B (by omega)]; exact g3, by rw [setB_lo B (by omega)]; exact g4, by rw [setB_lo B (by omega)]; exact g5, fun w hw => by rw [setB_lo B (by omega)]; exact g6 w hw, fun k hk => ?_, fun c d hc hd => ?_, fun c d e f hcd hd hef hf t1 t2 => ?_⟩
  · rw [setB_lo B (by omega)] at hk
    rw [setB_lo B (by omega), setB_lo B (by omega), setB_lo B (by omega), setB_lo B (by omega)]; exact g7 k hk
  · rw [setB_at B (by omega) (by omega) hc hd, setB_at B (by omega) (by omega) hd hc, setB_lo B (by omega)]
    have q := g8 c d hc hd
    by_cases h1 : (c = a ∧ d = b) ∨ (c = b ∧ d = a)
    · rw [if_pos h1, if_pos (by omega)]
      exact ⟨hv, rfl, fun _ => by omega⟩
    · rw [if_neg h1, if_neg (by omega)]
      exact q
  · rw [setB_lo B (by omega)] at hd hf
    rw [tied_set (by omega) (by omega) (by omega) (by omega)] at t1 t2
    by_cases h1 : (c = a ∧ d = b) ∨ (c = b ∧ d = a)
    · have e1 : c = a ∧ d = b := by omega
      rw [e1.1, e1.2]
      rw [if_pos h1] at t1
      by_cases h2 : (e = a ∧ f = b) ∨ (e = b ∧ f = a)
      · rw [show e = a by omega, show f = b by omega]; exact crossN_self
      · rw [if_neg h2] at t2
        rcases hx' with h | h
        · subst h; simp at t1
        · exact h e f hef hf t2
    · rw [if_neg h1] at t1
      by_cases h2 : (e = a ∧ f = b) ∨ (e = b ∧ f = a)
      · rw [if_pos h2] at t2
        rw [show e = a by omega, show f = b by omega, crossN_sym hcd hab]
        rcases hx' with h | h
        · subst h; simp at t2
        · exact h c d hcd hd t1
      · rw [if_neg h2] at t2
        exact g9 c d e f hcd hd hef hf t1 t2
/-- strings that don't cross: at most 2n - 3 -/
def inI (B : Nat → Nat) (lo hi : Nat) (c : Nat) : Bool := decide (c / 20 < c % 20 ∧ lo ≤ c / 20 ∧ c % 20 ≤ hi) && tied B (c / 20) (c % 20)
theorem ct_or3 {p q r : Nat → Bool} {c0 : Nat} : ∀ n, (∀ c, c < n → p c = true → q c = true ∨ r c = true ∨ c = c0) → fb_ct p n ≤ fb_ct q n + fb_ct r n + (if c0 < n then 1 else 0)
  | 0, _ => Nat.zero_le _
  | n + 1, h => by
    have ih := ct_or3 n (fun c hc => h c (by omega))
    rw [fb_ct_succ, fb_ct_succ, fb_ct_succ]
    have h0 : (if c0 < n then 1 else 0) ≤ (if c0 < n + 1 then 1 else 0) := by
      by_cases q : c0 < n
      · rw [if_pos q, if_pos (by omega)]; omega
      · rw [if_neg q]; omega
    cases hp : p n with
    | false => simp only [Bool.false_eq_true, if_false]; omega
    | true =>
      rcases h n (by omega) hp with h1 | h1 | h1
      · rw [h1]; simp only [if_true]; omega
      · rw [h1]; simp only [if_true]; omega
      · subst h1
        rw [if_neg (show ¬ n < n by omega)] at ih
        rw [if_pos (show n < n + 1 by omega)]
        simp only [if_true]; omega
theorem ct_zero {p : Nat → Bool} : ∀ n, (∀ c, c < n → p c = false) → fb_ct p n = 0
  | 0, _ => rfl
  | n + 1, h => by rw [fb_ct_succ, h n (by omega), ct_zero n (fun c hc => h c (by omega))]; rfl
theorem largest {p : Nat → Prop} : ∀ n, (∀ k, k < n → ¬ p k) ∨ ∃ k, k < n ∧ p k ∧ ∀ j, j < n → p j → j ≤ k
  | 0 => Or.inl fun k hk => absurd hk (by omega)
  | n + 1 => by
    by_cases h : p n
    · exact Or.inr ⟨n, by omega, h, fun j hj _ => by omega⟩
    · rcases largest (p := p) n with h1 | ⟨k, h1, h2, h3⟩
      · exact Or.inl fun k hk => by
          by_cases e : k = n
          · subst e; exact h
          · exact h1 k (by omega)
      · exact Or.inr ⟨k, by omega, h2, fun j hj hp => by
          by_cases e : j = n
          · subst e; exact absurd hp h
          · exact h3 j (by omega) hp⟩
theorem chords {B : Nat → Nat} (hB : WF B) : ∀ s lo hi, hi = lo + s → hi < B 0 → fb_ct (inI B lo hi) 240 ≤ 2 * s - 1 := by
  have h12 := hB.1
  have hX := hB.2.2.2.2.2.2.2.2.2.2
  intro s
  induction s using Nat.strongRecOn with
  | ind s ih =>
    intro lo hi e hh
    by_cases s0 : s = 0
    · rw [ct_zero 240 (fun c hc => by unfold inI; rw [decide_eq_false (by omega)]; rfl)]; omega
    · by_cases s1 : s = 1
      · have := ct_or3 (p := inI B lo hi) (q := fun _ => false) (r := fun _ => false) (c0 := 20 * lo + hi) 240 (fun c hc hp => by
          unfold inI at hp
          rw [Bool.and_eq_true, decide_eq_true_eq] at hp
          omega)
        rw [ct_zero 240 (fun c hc => rfl)] at this
        split at this <;> omega
      · -- the split
        obtain ⟨k, k1, k2, k3⟩ : ∃ k, lo < k ∧ k < hi ∧ ∀ a b, a < k → k < b → lo ≤ a → b ≤ hi → tied B a b = true → a = lo ∧ b = hi := by
          rcases largest (p := fun k => lo < k ∧ tied B lo k = true) hi with h | ⟨k, h1, ⟨h2, h3⟩, h4⟩
          · refine ⟨lo + 1, by omega, by omega, fun a b h1 h2 h3 h4 h5 => ?_⟩
            have ea : a = lo := by omega
            subst ea
            refine ⟨rfl, ?_⟩
            by_cases q : b = hi
            · exact q
            · exact absurd ⟨by omega, h5⟩ (h b (by omega))
          · refine ⟨k, h2, h1, fun a b g1 g2 g3 g4 g5 => ?_⟩
            by_cases q : a = lo
            · subst q
              refine ⟨rfl, ?_⟩
              by_cases q : b = hi
              · exact q
              · have := h4 b (by omega) ⟨by omega, g5⟩
                omega
            · have := hX lo k a b h2 (by omega) (by omega) (by omega) h3 g5
              unfold crossN at this
              rw [decide_eq_true (by omega), decide_eq_true (by omega), decide_eq_true (by omega), decide_eq_true (by omega), decide_eq_true (by omega), decide_eq_false (by omega)] at this
              exact absurd this (by decide)
        have i1 := ih (k - lo) (by omega) lo k (by omega) (by omega)
        have i2 := ih (hi - k) (by omega) k hi (by omega) (by omega)
        have := ct_or3 (p := inI B lo hi) (q := inI B lo k) (r := inI B k hi) (c0 := 20 * lo + hi) 240 (fun c hc hp => by
          unfold inI at hp ⊢
          rw [Bool.and_eq_true, decide_eq_true_eq] at hp
          rw [hp.2, Bool.and_true, Bool.and_true, decide_eq_true_eq, decide_eq_true_eq]
          by_cases q1 : c % 20 ≤ k
          · exact Or.inl (by omega)
          · by_cases q2 : k ≤ c / 20
            · exact Or.inr (Or.inl (by omega))
            · have := k3 (c / 20) (c % 20) (by omega) (by omega) (by omega) (by omega) hp.2
              exact Or.inr (Or.inr (by omega)))
        split at this <;> omega
theorem ct_true : ∀ n, fb_ct (fun _ => true) n = n
  | 0 => rfl
  | n + 1 => by rw [fb_ct_succ, ct_true n]; rfl
theorem list_le {m : Nat} {P B : Nat → Nat} (h : LS0 m P B) (hB : WF B) : m ≤ fb_ct (inI B 0 (B 0 - 1)) 240 := by
  have h12 := hB.1
  have := inj_le (m := 240) (p := fun _ => true) (f := P) m (inI B 0 (B 0 - 1)) (fun i hi _ => by
    have h1 := h.1 i hi
    refine ⟨by omega, ?_⟩
    unfold inI
    rw [h1.2.2, decide_eq_true (by omega)]; rfl) (fun i j hij hj _ _ e => by have := h.2.1 i j hij hj; omega)
  rw [ct_true] at this
  exact this
theorem room {m : Nat} {P B : Nat → Nat} (h : LS0 m P B) (hB : WF B) {a b : Nat} (hab : a < b) (hb : b < B 0) (ht : tied B a b = false) (hx : crossesN B a b = false) : m ≤ 20 := by
  have h12 := hB.1
  have h1 := list_le h hB
  have hB' : WF (setB B a b 1) := WF_set hB hab hb (by omega) (Or.inr (Or.inr hx))
  have e0 : setB B a b 1 0 = B 0 := setB_lo B (by omega)
  have h2 := chords hB' (B 0 - 1) 0 (B 0 - 1) (by omega) (by rw [e0]; omega)
  have h3 := fb_ct_upd (inI B 0 (B 0 - 1)) true (i := 20 * a + b) (n := 240) (by omega)
  have e1 : inI B 0 (B 0 - 1) (20 * a + b) = false := by
    unfold inI
    rw [show (20 * a + b) / 20 = a by omega, show (20 * a + b) % 20 = b by omega, ht, Bool.and_false]
  have e2 : fb_ct (inI (setB B a b 1) 0 (B 0 - 1)) 240 = fb_ct (fun k => if k = 20 * a + b then true else inI B 0 (B 0 - 1) k) 240 := by
    refine fb_ct_cong fun c hc => ?_
    show inI (setB B a b 1) 0 (B 0 - 1) c = if c = 20 * a + b then true else inI B 0 (B 0 - 1) c
    unfold inI
    by_cases q : c / 20 < c % 20 ∧ 0 ≤ c / 20 ∧ c % 20 ≤ B 0 - 1
    · rw [decide_eq_true q, tied_set (by omega) (by omega) (by omega) (by omega)]
      by_cases q2 : c = 20 * a + b
      · rw [if_pos q2, if_pos (by omega)]; rfl
      · rw [if_neg q2, if_neg (by omega)]
    · rw [decide_eq_false q, if_neg (by omega)]; rfl
  rw [e1] at h3
  simp only [Bool.false_eq_true, if_false, if_true] at h3
  omega
theorem add7_loop {m v : Nat} {P : Nat → Nat} {pairs knots : Nat → Int32} (hm : m ≤ 20) (hP : ∀ i, i < m → pairs i = nI (P i) ∧ P i < 240) (hv : v < 240) (K : Int32 → (Nat → Int32) → (Nat → Int32) → Option (Int32 × (Nat → Int32) × (Nat → Int32))) :
    ∀ i n pr kn, i ≤ m → i < n → (∀ j, j < i → pr j = pairs j ∧ kn j = knots j) → (∀ j, i < j → j ≤ m → pr j = pairs (j - 1) ∧ kn j = knots (j - 1)) → (∀ j, i ≤ j → j < m → v < P j) →
    ∃ i' pr' kn', i' ≤ m ∧ fX1_addString_21 (nI v) K n (nI i) (nI i) pr kn = K (nI i') pr' kn' ∧ (∀ j, j < i' → pr' j = pairs j ∧ kn' j = knots j) ∧ (∀ j, i' < j → j ≤ m → pr' j = pairs (j - 1) ∧ kn' j = knots (j - 1)) ∧ (∀ j, i' ≤ j → j < m → v < P j) ∧ (0 < i' → P (i' - 1) ≤ v) := by
  intro i
  induction i with
  | zero =>
    intro n pr kn hi hn h1 h2 h3
    obtain ⟨n, rfl⟩ : ∃ m, n = m + 1 := ⟨n - 1, by omega⟩
    refine ⟨0, pr, kn, by omega, ?_, h1, h2, h3, fun h => absurd h (by omega)⟩
    rw [fX1_addString_21, if_pos (by decide)]
  | succ i ih =>
    intro n pr kn hi hn h1 h2 h3
    obtain ⟨n, rfl⟩ : ∃ m, n = m + 1 := ⟨n - 1, by omega⟩
    have q := hP i (by omega)
    rw [fX1_addString_21, if_neg (by rw [n0, le_nI (by omega) (by omega)]; omega), n1, pk_sub (by omega), Nat.add_sub_cancel, rdI_nI (by omega) (by decide), (h1 i (by omega)).1, q.1]
    by_cases hx : P i ≤ v
    · refine ⟨i + 1, pr, kn, hi, ?_, h1, h2, h3, fun _ => hx⟩
      rw [if_pos (by rw [le_nI (by omega) (by omega)]; exact hx)]
    · rw [if_neg (by rw [le_nI (by omega) (by omega)]; exact hx), rdI_nI (by omega) (by decide), wrI_nI (by omega) (by decide), rdI_nI (by omega) (by decide), wrI_nI (by omega) (by decide), bnd_e]
      have e : (nI (i + 1) + (-nI 1) : Int32) = nI i := by rw [← nI_inc, Int32.add_assoc]; rw [show (1 + -nI 1 : Int32) = 0 from rfl, Int32.add_zero]
      rw [e]
      refine ih n _ _ (by omega) (by omega) (fun j hj => ?_) (fun j hj hm => ?_) (fun j hj hm => ?_)
      · unfold upd; rw [if_neg (by omega), if_neg (by omega)]; exact h1 j (by omega)
      · unfold upd
        by_cases q2 : j = i + 1
        · rw [if_pos q2, if_pos q2, q2]; exact h1 i (by omega)
        · rw [if_neg q2, if_neg q2]; exact h2 j (by omega) hm
      · by_cases q2 : j = i
        · subst q2; omega
        · exact h3 j (by omega) hm
theorem add7 {m : Nat} {P : Nat → Nat} {pairs knots : Nat → Int32} {B : Nat → Nat} (h : CL m P pairs knots B) (hB : WF B) {a b q : Nat} (hab : a < b) (hb : b < B 0) (ht : tied B a b = false) (hx : crossesN B a b = false) (hq : q ≤ 9) :
    ∃ P' pairs' knots', fX1_addString (nI m) pairs knots (nI (20 * a + b)) (nI q) = some (nI (m + 1), pairs', knots') ∧ CL (m + 1) P' pairs' knots' (setB B a b (q + 1)) := by
  have h12 := hB.1
  have hm := room h.2.1 hB hab hb ht hx
  unfold fX1_addString
  rw [if_pos (by rw [lit 21, lt_nI (by omega) (by omega)]; omega)]
  obtain ⟨i, pr, kn, g1, g2, g3, g4, g5, g6⟩ := add7_loop (v := 20 * a + b) hm (fun i hi => ⟨(h.2.2 i hi).1, P_lt h.2.1 hB hi⟩) (by omega) (fun (w_15 : Int32) (t_pairs_16 : Nat → Int32) (t_knots_17 : Nat → Int32) => wrI 21 t_pairs_16 w_15 (nI (20 * a + b)) (fun t_pairs_18 => wrI 21 t_knots_17 w_15 (nI q) (fun t_knots_20 => bnd (nI m + 1) (fun y_22 => some (y_22, t_pairs_18, t_knots_20))))) (knots := knots) m FU pairs knots (Nat.le_refl m) (FU_big (by omega)) (fun j _ => ⟨rfl, rfl⟩) (fun j h1 h2 => absurd h1 (by omega)) (fun j h1 h2 => absurd h1 (by omega))
  rw [g2, wrI_nI (by omega) (by decide), wrI_nI (by omega) (by decide), bnd_e, nI_inc]
  have hlt : ∀ j, j < i → P j < 20 * a + b := by
    intro j hj
    have q1 := g6 (by omega)
    have q3 : P j ≤ P (i - 1) := by
      by_cases e : j = i - 1
      · rw [e]; exact Nat.le_refl _
      · exact Nat.le_of_lt (h.2.1.2.1 j (i - 1) (by omega) (by omega))
    have q4 : P j ≠ 20 * a + b := fun e => by
      have := (h.2.1.1 j (by omega)).2.2
      rw [show P j / 20 = a by omega, show P j % 20 = b by omega, ht] at this
      exact absurd this (by decide)
    omega
  have eP : ∀ j, j < m → setB B a b (q + 1) (42 + 12 * (P j / 20) + P j % 20) = B (42 + 12 * (P j / 20) + P j % 20) ∧ tied (setB B a b (q + 1)) (P j / 20) (P j % 20) = true := by
    intro j hj
    have q1 := h.2.1.1 j hj
    have q2 : P j ≠ 20 * a + b := fun e => by
      have := q1.2.2
      rw [show P j / 20 = a by omega, show P j % 20 = b by omega, ht] at this
      exact absurd this (by decide)
    rw [setB_at B (by omega) (by omega) (by omega) (by omega), tied_set (by omega) (by omega) (by omega) (by omega), if_neg (by omega), if_neg (by omega)]
    exact ⟨rfl, q1.2.2⟩
  refine ⟨fun j => if j < i then P j else if j = i then 20 * a + b else P (j - 1), _, _, rfl, by omega, ⟨fun j hj => ?_, fun j k hjk hk => ?_, fun c d hcd hd hT => ?_⟩, fun j hj => ?_⟩
  · dsimp only
    rw [setB_lo B (show 0 < 42 by omega)]
    by_cases q1 : j < i
    · rw [if_pos q1]
      have := h.2.1.1 j (by omega)
      exact ⟨this.1, this.2.1, (eP j (by omega)).2⟩
    · rw [if_neg q1]
      by_cases q2 : j = i
      · rw [if_pos q2, show (20 * a + b) / 20 = a by omega, show (20 * a + b) % 20 = b by omega, tied_set (by omega) (by omega) (by omega) (by omega), if_pos (by omega)]
        exact ⟨hab, hb, decide_eq_true (by omega)⟩
      · rw [if_neg q2]
        have := h.2.1.1 (j - 1) (by omega)
        exact ⟨this.1, this.2.1, (eP (j - 1) (by omega)).2⟩
  · dsimp only
    by_cases q1 : j < i
    · rw [if_pos q1]
      by_cases q2 : k < i
      · rw [if_pos q2]; exact h.2.1.2.1 j k hjk (by omega)
      · rw [if_neg q2]
        by_cases q3 : k = i
        · rw [if_pos q3]; exact hlt j q1
        · rw [if_neg q3]; exact h.2.1.2.1 j (k - 1) (by omega) (by omega)
    · rw [if_neg q1, if_neg (show ¬ k < i by omega), if_neg (show ¬ k = i by omega)]
      by_cases q3 : j = i
      · rw [if_pos q3]; exact g5 (k - 1) (by omega) (by omega)
      · rw [if_neg q3]; exact h.2.1.2.1 (j - 1) (k - 1) (by omega) (by omega)
  · rw [setB_lo B (show 0 < 42 by omega)] at hd
    rw [tied_set (by omega) (by omega) (by omega) (by omega)] at hT
    by_cases q1 : (c = a ∧ d = b) ∨ (c = b ∧ d = a)
    · refine ⟨i, by omega, ?_⟩
      dsimp only
      rw [if_neg (by omega), if_pos rfl, show c = a by omega, show d = b by omega]
    · rw [if_neg q1] at hT
      obtain ⟨j, hj, e⟩ := h.2.1.2.2 c d hcd hd hT
      by_cases q2 : j < i
      · exact ⟨j, by omega, by dsimp only; rw [if_pos q2]; exact e⟩
      · exact ⟨j + 1, by omega, by dsimp only; rw [if_neg (by omega), if_neg (by omega), Nat.add_sub_cancel]; exact e⟩
  · dsimp only
    unfold upd
    by_cases q1 : j < i
    · rw [if_pos q1, if_neg (by omega), if_neg (by omega), (eP j (by omega)).1, (g3 j q1).1, (g3 j q1).2]
      exact h.2.2 j (by omega)
    · rw [if_neg q1]
      by_cases q2 : j = i
      · rw [if_pos q2, if_pos q2, if_pos q2, show (20 * a + b) / 20 = a by omega, show (20 * a + b) % 20 = b by omega, setB_at B (by omega) (by omega) (by omega) (by omega), if_pos (by omega), Nat.add_sub_cancel]
        exact ⟨rfl, rfl⟩
      · rw [if_neg q2, if_neg q2, if_neg q2, (eP (j - 1) (by omega)).1, (g4 j (by omega) (by omega)).1, (g4 j (by omega) (by omega)).2]
        exact h.2.2 (j - 1) (by omega)
