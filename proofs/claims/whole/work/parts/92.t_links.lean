-- uses: a_lib b_court c_leaf8 d_loop8 e_list f_why g_leaf h_rel i_state j_gen k_list l_cut m_fill n_rows o_rows2 p_pairs q_gust r_gust
/-! sets as bits; the strings that hold -/
theorem sh1 {k : Nat} (hk : k < 31) : (1 : Int32) <<< (nI k &&& 31) = nI (2 ^ k) := by
  have : ∀ j, j < 31 → (1 : Int32) <<< (nI j &&& 31) = nI (2 ^ j) := by decide +kernel
  exact this k hk
theorem fa_xor (a b : Nat) : nI a ^^^ nI b = nI (a ^^^ b) := by
  apply Int32.toBitVec_inj.mp
  rw [Int32.toBitVec_xor]
  show BitVec.ofNat 32 a ^^^ BitVec.ofNat 32 b = BitVec.ofNat 32 (a ^^^ b)
  apply BitVec.eq_of_getLsbD_eq
  intro i hi
  simp [BitVec.getLsbD_ofNat, hi, Nat.testBit_xor]
theorem not_nI (x : Nat) : nI x ^^^ (-1) = nI (x ^^^ (2 ^ 32 - 1)) := by
  rw [show (-1 : Int32) = nI (2 ^ 32 - 1) from rfl, fa_xor]
/-- x has the bits p, below n -/
def Bits (x n : Nat) (p : Nat → Prop) : Prop := x < 2 ^ n ∧ ∀ k, x.testBit k = true ↔ p k
theorem Bits.lt {x n : Nat} {p : Nat → Prop} (h : Bits x n p) {k : Nat} (hk : p k) : k < n := by
  have h1 := (h.2 k).mpr hk
  rcases Nat.lt_or_ge k n with h2 | h2
  · exact h2
  · rw [Nat.testBit_lt_two_pow (Nat.lt_of_lt_of_le h.1 (Nat.pow_le_pow_right (by omega) h2))] at h1
    exact absurd h1 (by decide)
theorem Bits.uniq {x y n m : Nat} {p : Nat → Prop} (h : Bits x n p) (h2 : Bits y m p) : x = y := by
  apply Nat.eq_of_testBit_eq
  intro k
  rw [Bool.eq_iff_iff, h.2 k, h2.2 k]
theorem Bits.congr {x n : Nat} {p q : Nat → Prop} (h : Bits x n p) (e : ∀ k, p k ↔ q k) : Bits x n q := ⟨h.1, fun k => (h.2 k).trans (e k)⟩
theorem bits0 {n : Nat} {p : Nat → Prop} (h : ∀ k, ¬ p k) : Bits 0 n p := ⟨Nat.two_pow_pos n, fun k => by rw [Nat.zero_testBit]; exact ⟨fun e => absurd e (by decide), fun e => absurd e (h k)⟩⟩
theorem bits1 {n k : Nat} (hk : k < n) : Bits (2 ^ k) n (fun j => j = k) := by
  refine ⟨Nat.pow_lt_pow_right (by omega) hk, fun j => ?_⟩
  rw [Nat.testBit_two_pow]
  simp [eq_comm]
theorem Bits.or {x y n : Nat} {p q : Nat → Prop} (h : Bits x n p) (h2 : Bits y n q) : Bits (x ||| y) n (fun k => p k ∨ q k) := by
  refine ⟨Nat.or_lt_two_pow h.1 h2.1, fun k => ?_⟩
  rw [Nat.testBit_or, Bool.or_eq_true, h.2 k, h2.2 k]
theorem Bits.and {x y n m : Nat} {p q : Nat → Prop} (h : Bits x n p) (h2 : Bits y m q) : Bits (x &&& y) n (fun k => p k ∧ q k) := by
  refine ⟨Nat.lt_of_le_of_lt Nat.and_le_left h.1, fun k => ?_⟩
  rw [Nat.testBit_and, Bool.and_eq_true, h.2 k, h2.2 k]
theorem Bits.andnot {x y n m : Nat} {p q : Nat → Prop} (h : Bits x n p) (h2 : Bits y m q) (hn : n ≤ 32) : Bits (x &&& (y ^^^ (2 ^ 32 - 1))) n (fun k => p k ∧ ¬ q k) := by
  refine ⟨Nat.lt_of_le_of_lt Nat.and_le_left h.1, fun k => ?_⟩
  rw [Nat.testBit_and, Bool.and_eq_true, h.2 k, Nat.testBit_xor, Nat.testBit_two_pow_sub_one]
  constructor
  · rintro ⟨h3, h4⟩
    have := h.lt h3
    rw [decide_eq_true (by omega)] at h4
    exact ⟨h3, fun h5 => by rw [(h2.2 k).mpr h5] at h4; exact absurd h4 (by decide)⟩
  · rintro ⟨h3, h4⟩
    have := h.lt h3
    rw [decide_eq_true (by omega)]
    refine ⟨h3, ?_⟩
    have : y.testBit k = false := by
      cases e : y.testBit k with
      | false => rfl
      | true => exact absurd ((h2.2 k).mp e) h4
    rw [this]; rfl
theorem Bits.mono {x n m : Nat} {p : Nat → Prop} (h : Bits x n p) (hm : n ≤ m) : Bits x m p := ⟨Nat.lt_of_lt_of_le h.1 (Nat.pow_le_pow_right (by omega) hm), h.2⟩
theorem bit_if {x k n : Nat} {p : Nat → Prop} (h : Bits x n p) (hn : n ≤ 30) (hk : k < 31) {α : Type} (u v : α) [Decidable (p k)] : (if (nI x >>> (nI k &&& 31)) &&& 1 = (0 : Int32) then u else v) = if p k then v else u := by
  rw [bit0_nI (Nat.lt_of_lt_of_le h.1 (Nat.pow_le_pow_right (by omega) hn)) hk]
  by_cases q : p k
  · rw [if_pos q, if_pos ((h.2 k).mpr q)]
  · rw [if_neg q, if_neg (fun e => q ((h.2 k).mp e))]
/-- the links of a class's Ways -/
def LK (links : Nat → Int32) (p : Nat → Nat → Prop) : Prop := ∀ w, w < 12 → ∃ x, links w = nI x ∧ Bits x 12 (p w)
theorem LK.congr {links : Nat → Int32} {p q : Nat → Nat → Prop} (h : LK links p) (e : ∀ w k, w < 12 → (p w k ↔ q w k)) : LK links q := fun w hw => by
  obtain ⟨x, h1, h2⟩ := h w hw
  exact ⟨x, h1, h2.congr (fun k => e w k hw)⟩
theorem join7 {links : Nat → Int32} {p : Nat → Nat → Prop} (h : LK links p) {a b : Nat} (ha : a < 12) (hb : b < 12) (hab : a ≠ b) : ∃ l', fX6_join links (nI a) (nI b) = some l' ∧ LK l' (fun w k => p w k ∨ (w = a ∧ k = b) ∨ (w = b ∧ k = a)) := by
  obtain ⟨x, hx1, hx2⟩ := h a ha
  obtain ⟨y, hy1, hy2⟩ := h b hb
  unfold fX6_join
  rw [rdI_nI ha (by decide), wrI_nI ha (by decide), rdI_nI hb (by decide), wrI_nI hb (by decide), sh1 (by omega), sh1 (by omega)]
  have e1 : upd links a (links a ||| nI (2 ^ b)) b = links b := by unfold upd; rw [if_neg (Ne.symm hab)]
  rw [e1, hx1, hy1, fa_or, fa_or]
  refine ⟨_, rfl, fun w hw => ?_⟩
  unfold upd
  by_cases q1 : w = b
  · rw [if_pos q1]
    refine ⟨_, rfl, (hy2.or (bits1 ha)).congr (fun k => ?_)⟩
    subst q1
    constructor
    · rintro (h1 | h1)
      · exact Or.inl h1
      · exact Or.inr (Or.inr ⟨rfl, h1⟩)
    · rintro (h1 | h1 | h1)
      · exact Or.inl h1
      · exact absurd h1.1.symm hab
      · exact Or.inr h1.2
  · rw [if_neg q1]
    by_cases q2 : w = a
    · rw [if_pos q2]
      refine ⟨_, rfl, (hx2.or (bits1 hb)).congr (fun k => ?_)⟩
      subst q2
      constructor
      · rintro (h1 | h1)
        · exact Or.inl h1
        · exact Or.inr (Or.inl ⟨rfl, h1⟩)
      · rintro (h1 | h1 | h1)
        · exact Or.inl h1
        · exact Or.inr h1.2
        · exact absurd h1.1 q1
    · rw [if_neg q2]
      obtain ⟨z, hz1, hz2⟩ := h w hw
      refine ⟨z, hz1, hz2.congr (fun k => ⟨fun h1 => Or.inl h1, ?_⟩)⟩
      rintro (h1 | h1 | h1)
      · exact h1
      · exact absurd h1.1 q2
      · exact absurd h1.1 q1
theorem sever7 {links : Nat → Int32} {p : Nat → Nat → Prop} (h : LK links p) {a b : Nat} (ha : a < 12) (hb : b < 12) (hab : a ≠ b) : ∃ l', fX6_sever links (nI a) (nI b) = some l' ∧ LK l' (fun w k => p w k ∧ ¬ ((w = a ∧ k = b) ∨ (w = b ∧ k = a))) := by
  obtain ⟨x, hx1, hx2⟩ := h a ha
  obtain ⟨y, hy1, hy2⟩ := h b hb
  unfold fX6_sever
  rw [rdI_nI ha (by decide), wrI_nI ha (by decide), rdI_nI hb (by decide), wrI_nI hb (by decide), sh1 (by omega), sh1 (by omega)]
  have e1 : upd links a (links a &&& (nI (2 ^ b) ^^^ -1)) b = links b := by unfold upd; rw [if_neg (Ne.symm hab)]
  rw [e1, hx1, hy1, not_nI, not_nI, fa_and, fa_and]
  refine ⟨_, rfl, fun w hw => ?_⟩
  unfold upd
  by_cases q1 : w = b
  · rw [if_pos q1]
    refine ⟨_, rfl, (hy2.andnot (bits1 (show a < 12 from ha)) (by omega)).congr (fun k => ?_)⟩
    subst q1
    constructor
    · rintro ⟨h1, h2⟩
      refine ⟨h1, ?_⟩
      rintro (h3 | h3)
      · exact hab h3.1.symm
      · exact h2 h3.2
    · rintro ⟨h1, h2⟩
      exact ⟨h1, fun h3 => h2 (Or.inr ⟨rfl, h3⟩)⟩
  · rw [if_neg q1]
    by_cases q2 : w = a
    · rw [if_pos q2]
      refine ⟨_, rfl, (hx2.andnot (bits1 (show b < 12 from hb)) (by omega)).congr (fun k => ?_)⟩
      subst q2
      constructor
      · rintro ⟨h1, h2⟩
        refine ⟨h1, ?_⟩
        rintro (h3 | h3)
        · exact h2 h3.2
        · exact q1 h3.1
      · rintro ⟨h1, h2⟩
        exact ⟨h1, fun h3 => h2 (Or.inl ⟨rfl, h3⟩)⟩
    · rw [if_neg q2]
      obtain ⟨z, hz1, hz2⟩ := h w hw
      refine ⟨z, hz1, hz2.congr (fun k => ⟨fun h1 => ⟨h1, ?_⟩, fun h1 => h1.1⟩)⟩
      rintro (h3 | h3)
      · exact q2 h3.1
      · exact q1 h3.1
/-- the prices of the strings that hold -/
def PR (prices : Nat → Int32) (p : Nat → Nat → Prop) (c : Nat → Nat → Nat) : Prop := ∀ a b, p a b → prices (12 * a + b) = nI (16 * c a b + 1)
theorem setLoss7 {prices : Nat → Int32} {a b v : Nat} (ha : a < 12) (hb : b < 12) : ∃ pr', fX6_setLoss prices (nI a) (nI b) (nI v) = some pr' ∧ ∀ w k, w < 12 → k < 12 → pr' (12 * w + k) = if (w = a ∧ k = b) ∨ (w = b ∧ k = a) then nI (16 * v + 1) else prices (12 * w + k) := by
  unfold fX6_setLoss
  have e1 : (12 * nI a + nI b : Int32) = nI (12 * a + b) := by rw [lit 12, pk_mul, nI_add]
  have e2 : (12 * nI b + nI a : Int32) = nI (12 * b + a) := by rw [lit 12, pk_mul, nI_add]
  have e3 : (16 * nI v + 1 : Int32) = nI (16 * v + 1) := by rw [lit 16, pk_mul, nI_inc]
  rw [bnd_e, e1, e2, e3, wrI_nI (by omega) (by decide), wrI_nI (by omega) (by decide)]
  refine ⟨_, rfl, fun w k hw hk => ?_⟩
  unfold upd
  by_cases q1 : 12 * w + k = 12 * b + a
  · rw [if_pos q1, if_pos (by omega)]
  · rw [if_neg q1]
    by_cases q2 : 12 * w + k = 12 * a + b
    · rw [if_pos q2, if_pos (by omega)]
    · rw [if_neg q2, if_neg (by omega)]
theorem talk_in {B : Nat → Nat} (hB : WF B) {hr a b : Nat} (ha : a < 12) (hb : b < 12) (h : talkN B hr a b = true) : a ≠ b ∧ a < B 0 ∧ b < B 0 := by
  unfold talkN at h
  rw [Bool.and_eq_true] at h
  have h1 := h.1
  unfold tied at h1
  exact (hB.2.2.2.2.2.2.2.2.2.1 a b ha hb).2.2 (of_decide_eq_true h1)
theorem slackN_sym (B : Nat → Nat) (hr a b : Nat) : slackN B hr a b = slackN B hr b a := by unfold slackN; rw [Nat.min_comm, Nat.max_comm]
theorem talk_sym {B : Nat → Nat} (hB : WF B) {hr a b : Nat} (ha : a < 12) (hb : b < 12) : talkN B hr a b = talkN B hr b a := by
  unfold talkN
  rw [tied_sym hB ha hb, slackN_sym]
theorem bare_sym (B : Nat → Nat) (a b : Nat) : bareN B a b = bareN B b a := by unfold bareN; rw [lenN_sym]
theorem loss_sym {B : Nat → Nat} (hB : WF B) {a b : Nat} (ha : a < 12) (hb : b < 12) : lossN B a b = lossN B b a := by
  unfold lossN
  rw [tied_sym hB ha hb, bare_sym, (hB.2.2.2.2.2.2.2.2.2.1 a b ha hb).2.1]
/-- the strings that hold at an hour, as links -/
def tk (B : Nat → Nat) (hr : Nat) (a b : Nat) : Prop := a < 12 ∧ b < 12 ∧ talkN B hr a b = true
theorem take_loop {m : Nat} {P : Nat → Nat} {pairs knots w8 w9 : Nat → Int32} {B : Nat → Nat} (h : CL m P pairs knots B) (hB : WF B) (hw : CWs w8 w9 B) {hr : Nat} (hh : hr < 100000) (K : (Nat → Int32) → (Nat → Int32) → Option (Int32 × (Nat → Int32) × (Nat → Int32))) :
    ∀ k i n l q, i + k = m → k < n → LK l (fun w v => tk B hr w v ∧ ∃ j, j < i ∧ P j = 20 * min w v + max w v) → PR q (fun w v => tk B hr w v ∧ ∃ j, j < i ∧ P j = 20 * min w v + max w v) (lossN B) →
    ∃ l' q', fX6_takeStrings_18 (nI hr) (nI (B 0)) (nI (B 4)) (nI (B 2)) (nI m) w8 w9 pairs knots K n (nI i) l q = K l' q' ∧ LK l' (tk B hr) ∧ PR q' (tk B hr) (lossN B) := by
  have h21 := h.1
  have h12 := hB.1
  intro k
  induction k with
  | zero =>
    intro i n l q hi hn hl hq
    obtain ⟨n, rfl⟩ : ∃ m, n = m + 1 := ⟨n - 1, by omega⟩
    obtain rfl : i = m := by omega
    have e : ∀ w v, (tk B hr w v ∧ ∃ j, j < i ∧ P j = 20 * min w v + max w v) ↔ tk B hr w v := by
      intro w v
      refine ⟨fun h1 => h1.1, fun h1 => ⟨h1, ?_⟩⟩
      have h2 := talk_in hB h1.1 h1.2.1 h1.2.2
      have h3 : tied B (min w v) (max w v) = true := by
        have h4 := h1.2.2
        unfold talkN at h4
        rw [Bool.and_eq_true] at h4
        by_cases q : w < v
        · rw [Nat.min_eq_left (by omega), Nat.max_eq_right (by omega)]; exact h4.1
        · rw [Nat.min_eq_right (by omega), Nat.max_eq_left (by omega), tied_sym hB h1.2.1 h1.1]; exact h4.1
      exact h.2.1.2.2 (min w v) (max w v) (by omega) (by omega) h3
    refine ⟨l, q, ?_, hl.congr (fun w v _ => e w v), fun a b h1 => hq a b ((e a b).mpr h1)⟩
    rw [fX6_takeStrings_18, if_pos (ile (by omega) (by omega))]
  | succ k ih =>
    intro i n l q hi hn hl hq
    obtain ⟨n, rfl⟩ : ∃ m, n = m + 1 := ⟨n - 1, by omega⟩
    have p := h.2.1.1 i (by omega)
    have hs := slack7 hw hB p.2.1 p.1 hh
    rw [show 20 * (P i / 20) + P i % 20 = P i by omega] at hs
    have htk : talkN B hr (P i / 20) (P i % 20) = !slackN B hr (P i / 20) (P i % 20) := by unfold talkN; rw [p.2.2]; rfl
    rw [fX6_takeStrings_18, if_neg (inle (by omega) (by omega)), rdI_nI (by omega) (by decide), (h.2.2 i (by omega)).1, hs, bd1_some, bI_0', les_nI (by omega), gre_nI (by omega)]
    simp only [bd1_some, nI_inc]
    cases hsl : slackN B hr (P i / 20) (P i % 20) with
    | true =>
      simp only [if_true]
      have e : ∀ w v, (tk B hr w v ∧ ∃ j, j < i ∧ P j = 20 * min w v + max w v) ↔ (tk B hr w v ∧ ∃ j, j < i + 1 ∧ P j = 20 * min w v + max w v) := by
        intro w v
        refine ⟨fun ⟨h1, j, h2, h3⟩ => ⟨h1, j, by omega, h3⟩, fun ⟨h1, j, h2, h3⟩ => ⟨h1, ?_⟩⟩
        by_cases q : j = i
        · subst q
          exfalso
          have h4 := talk_in hB h1.1 h1.2.1 h1.2.2
          have h1' := h1.1
          have h1'' := h1.2.1
          have h5 : talkN B hr (min w v) (max w v) = true := by
            by_cases q : w < v
            · rw [Nat.min_eq_left (by omega), Nat.max_eq_right (by omega)]; exact h1.2.2
            · rw [Nat.min_eq_right (by omega), Nat.max_eq_left (by omega), talk_sym hB h1.2.1 h1.1]; exact h1.2.2
          rw [show P j / 20 = min w v by omega, show P j % 20 = max w v by omega] at htk hsl
          rw [htk, hsl] at h5
          exact absurd h5 (by decide)
        · exact ⟨j, by omega, h3⟩
      exact ih (i + 1) n l q (by omega) (by omega) (hl.congr (fun w v _ => e w v)) (fun a b h1 => hq a b ((e a b).mpr h1))
    | false =>
      simp only [Bool.false_eq_true, if_false]
      obtain ⟨l1, g1, g2⟩ := join7 hl (show P i / 20 < 12 by omega) (show P i % 20 < 12 by omega) (by omega)
      obtain ⟨q1, g3, g4⟩ := setLoss7 (prices := q) (v := lossN B (P i / 20) (P i % 20)) (show P i / 20 < 12 by omega) (show P i % 20 < 12 by omega)
      rw [g1, bd1_some, lossAt7 h hB (show i < m by omega), bd1_some, g3, bd1_some]
      have ht1 : talkN B hr (P i / 20) (P i % 20) = true := by rw [htk, hsl]; rfl
      have ht2 : talkN B hr (P i % 20) (P i / 20) = true := by rw [talk_sym hB (by omega) (by omega)]; exact ht1
      refine ih (i + 1) n l1 q1 (by omega) (by omega) (g2.congr (fun w v hw12 => ?_)) (fun a b h1 => ?_)
      · constructor
        · rintro (⟨h1, j, h2, h3⟩ | ⟨rfl, rfl⟩ | ⟨rfl, rfl⟩)
          · exact ⟨h1, j, by omega, h3⟩
          · exact ⟨⟨by omega, by omega, ht1⟩, i, by omega, by omega⟩
          · exact ⟨⟨by omega, by omega, ht2⟩, i, by omega, by omega⟩
        · rintro ⟨h1, j, h2, h3⟩
          by_cases q : j = i
          · subst q
            have q1 := h1.1
            have q2 := h1.2.1
            exact Or.inr (by omega)
          · exact Or.inl ⟨h1, j, by omega, h3⟩
      · obtain ⟨h1, j, h2, h3⟩ := h1
        have q1 := h1.1
        have q2 := h1.2.1
        rw [g4 a b q1 q2]
        by_cases q : (a = P i / 20 ∧ b = P i % 20) ∨ (a = P i % 20 ∧ b = P i / 20)
        · rw [if_pos q]
          rcases q with ⟨rfl, rfl⟩ | ⟨rfl, rfl⟩
          · rfl
          · rw [loss_sym hB q1 q2]
        · rw [if_neg q]
          refine hq a b ⟨h1, j, ?_, h3⟩
          have : j ≠ i := fun e => by subst e; omega
          omega
theorem take_ok {m : Nat} {P : Nat → Nat} {pairs knots w8 w9 : Nat → Int32} {B : Nat → Nat} (h : CL m P pairs knots B) (hB : WF B) (hw : CWs w8 w9 B) {hr : Nat} (hh : hr < 100000) (v0 : Int32) (l q : Nat → Int32) :
    ∃ l' q', fX6_takeStrings v0 l q (nI (B 0)) (nI (B 4)) (nI (B 2)) (nI m) w8 w9 pairs knots (nI hr) = some (nI (B 0), l', q') ∧ LK l' (tk B hr) ∧ PR q' (tk B hr) (lossN B) := by
  have h21 := h.1
  unfold fX6_takeStrings
  obtain ⟨l1, f1, f2, f3⟩ := fillI (show 12 < 2 ^ 31 by decide) l 0
  rw [f1, bd1_some]
  obtain ⟨l', q', g1, g2, g3⟩ := take_loop h hB hw hh (fun (t_links_23 : Nat → Int32) (t_prices_24 : Nat → Int32) => some (nI (B 0), t_links_23, t_prices_24)) m 0 FU l1 q (by omega) (FU_big (by omega)) (fun w hw => ⟨0, f2 w hw, bits0 (fun k hk => by obtain ⟨_, j, h2, _⟩ := hk; omega)⟩) (fun a b hk => by obtain ⟨_, j, h2, _⟩ := hk; omega)
  exact ⟨l', q', g1, g2, g3⟩
theorem leads8_loop {A : Nat → Int32} {B : Nat → Nat} (h : MB A 0 B) (hB : WF B) {w : Nat} (hw : w < 12) (K : Int32 → Option Int32) : ∀ k i n x, i + k = B 0 → k < n → Bits x 12 (fun v => tk B (B 1) w v ∧ v < i) → ∃ x', fX8_leadsTo_4 (nI w) A K n (nI x) (nI i) = K (nI x') ∧ Bits x' 12 (tk B (B 1) w) := by
  have h12 := hB.1
  have hh := hB.2.2.1
  intro k
  induction k with
  | zero =>
    intro i n x hi hn hx
    obtain ⟨n, rfl⟩ : ∃ m, n = m + 1 := ⟨n - 1, by omega⟩
    refine ⟨x, ?_, hx.congr (fun v => ⟨fun h1 => h1.1, fun h1 => ⟨h1, ?_⟩⟩)⟩
    · rw [fX8_leadsTo_4, n0, rd_MB h (by omega) (by omega) (by decide), if_pos (ile (by omega) (by omega))]
    · have := talk_in hB h1.1 h1.2.1 h1.2.2; omega
  | succ k ih =>
    intro i n x hi hn hx
    obtain ⟨n, rfl⟩ : ∃ m, n = m + 1 := ⟨n - 1, by omega⟩
    rw [fX8_leadsTo_4, show (0 : Int32) = nI 0 from rfl, rd_MB h (by omega) (by omega) (by decide), if_neg (inle (by omega) (by omega)), show (1 : Int32) = nI 1 from rfl, rd_MB h (by omega) (by omega) (by decide), talks8 h hB hw (by omega) (by omega), bd1_some, jn1, show nI 0 = (0 : Int32) from rfl, bI_0', bnd_e, show nI 1 = (1 : Int32) from rfl, nI_inc, sh1 (by omega)]
    cases ht : talkN B (B 1) w i with
    | true =>
      simp only [if_true]
      rw [fa_or]
      refine ih (i + 1) n _ (by omega) (by omega) ((hx.or (bits1 (show i < 12 by omega))).congr (fun v => ⟨?_, ?_⟩))
      · rintro (⟨h1, h2⟩ | rfl)
        · exact ⟨h1, by omega⟩
        · exact ⟨⟨hw, by omega, ht⟩, by omega⟩
      · rintro ⟨h1, h2⟩
        by_cases q : v = i
        · exact Or.inr q
        · exact Or.inl ⟨h1, by omega⟩
    | false =>
      simp only [Bool.false_eq_true, if_false]
      rw [n0, fa_or, Nat.or_zero]
      refine ih (i + 1) n x (by omega) (by omega) (hx.congr (fun v => ⟨fun ⟨h1, h2⟩ => ⟨h1, by omega⟩, fun ⟨h1, h2⟩ => ⟨h1, ?_⟩⟩))
      by_cases q : v = i
      · subst q; have := h1.2.2; rw [ht] at this; exact absurd this (by decide)
      · omega
theorem leads8 {A : Nat → Int32} {B : Nat → Nat} (h : MB A 0 B) (hB : WF B) {w : Nat} (hw : w < 12) : ∃ x, fX8_leadsTo A (nI w) = some (nI x) ∧ Bits x 12 (tk B (B 1) w) := by
  have h12 := hB.1
  unfold fX8_leadsTo
  exact leads8_loop h hB hw (fun w => some w) (B 0) 0 FU 0 (by omega) (FU_big (by omega)) (bits0 (fun k hk => by omega))
theorem bitCount7 {x : Nat} (hx : x < 4096) : fJ6_bitCount_0f7a4 (nI x) = some (nI (cntF (fun k => x.testBit k) 0 12)) := by
  have : ∀ h, h < 64 → ∀ l, l < 64 → fJ6_bitCount_0f7a4 (nI (64 * h + l)) = some (nI (cntF (fun k => (64 * h + l).testBit k) 0 12)) := by decide +kernel
  have h2 := this (x / 64) (by omega) (x % 64) (by omega)
  rwa [show 64 * (x / 64) + x % 64 = x by omega] at h2
theorem bits8_loop {x : Nat} (hx : x < 2 ^ 30) (K : Int32 → Option Int32) : ∀ k i n c, i + k = 12 → k < n → fX8_bitsOf_4 (nI x) K n (nI c) (nI i) = K (nI (c + cntF (fun k => x.testBit k) i k)) := by
  intro k
  induction k with
  | zero =>
    intro i n c hi hn
    obtain ⟨n, rfl⟩ : ∃ m, n = m + 1 := ⟨n - 1, by omega⟩
    rw [fX8_bitsOf_4, lit 12, if_pos (ile (by omega) (by omega))]; rfl
  | succ k ih =>
    intro i n c hi hn
    obtain ⟨n, rfl⟩ : ∃ m, n = m + 1 := ⟨n - 1, by omega⟩
    have e : (nI x >>> (nI i &&& 31)) &&& 1 = nI (if x.testBit i then 1 else 0) := by
      cases hb : x.testBit i with
      | true => exact (show ((nI x >>> (nI i &&& 31)) &&& 1 = (1 : Int32)) by rw [bit_nI hx (by omega)]; exact hb)
      | false =>
        have := bit0_nI hx (show i < 31 by omega) (0 : Nat) 1
        rw [hb] at this
        simp only [Bool.false_eq_true, if_false] at this
        split at this
        · assumption
        · omega
    rw [fX8_bitsOf_4, lit 12, if_neg (inle (by omega) (by omega)), bnd_e, e, nI_add, nI_inc, ih _ _ _ (by omega) (by omega), cntF]
    cases x.testBit i <;> simp [Nat.add_assoc]
theorem bits8 {x : Nat} (hx : x < 2 ^ 30) : fX8_bitsOf (nI x) = some (nI (cntF (fun k => x.testBit k) 0 12)) := by
  unfold fX8_bitsOf
  rw [n0, bits8_loop hx _ 12 0 FU 0 rfl (FU_big (by decide)), Nat.zero_add]
theorem st_window : Step_window Rel0 := by
  intro w0 w1 w2 w3 w4 w5 w6 w7 w8 w9 w10 w11 xt xn xf xp rs rz rv made im all has mt mn mf mp so ma nu y0 y1 y2 th v u hR
  obtain ⟨⟨B, hB, hM, hC⟩, hT, hF, hRw, hI⟩ := id hR
  obtain ⟨e0, e4, e2, e3, e5, e1, ⟨m, P, em, hL⟩, hc, hw⟩ := id hC
  dsimp only at e0 e4 e2 e3 e5 e1 em hL hc hw
  subst e0 e4 e2 e3 e5 e1 em
  have h12 := hB.1
  have hh := hB.2.2.1
  unfold fX7_window fX8_window
  rw [hasW_eq h12, bd1_some, isWin8 hM hB, bd1_some, Int32.toInt_toInt64, bI_0', bI_0']
  cases hv : winZ (B 0) v.toInt with
  | false => exact ⟨-2, y0, y1, y2, 0, rfl, rfl, hR⟩
  | true =>
    obtain ⟨w, hwl, rfl⟩ := winZ_of hv
    simp only [if_true]
    obtain ⟨l', q', t1, t2, t3⟩ := take_ok hL hB hw (show B 1 < 100000 by omega) y0 y1 y2
    obtain ⟨x, x1, x2⟩ := t2 w (by omega)
    obtain ⟨z, z1, z2⟩ := leads8 hM hB (show w < 12 by omega)
    have exz : z = x := z2.uniq x2
    subst exz
    have hlk : fX7_linksNow (nI (B 0)) (nI (B 4)) (nI (B 2)) (nI (B 1)) (nI m) w8 w9 w10 w11 y0 y1 y2 (nI w) = some (nI z, nI (B 0), l', q') := by
      unfold fX7_linksNow
      rw [t1, bd3_some, rdI_nI (by omega) (by decide), x1]
    rw [hlk, show (3 : Int64) = lN 3 from rfl]
    simp only [bd4_some]
    rw [bitCount7 z2.1, bd1_some, z1, bd1_some, bits8 (Nat.lt_of_lt_of_le z2.1 (by decide)), bd1_some]
    rcases within_rng u (show 3 < 2 ^ 31 by decide) with ⟨h1, h2⟩ | ⟨h1, h2, h3⟩ | ⟨k, hk, rfl, r1, r2, r3⟩
    · have g : ∀ k : Nat, k < 4 → ¬ u = nI k := fun k hk e => absurd h1 (by rw [e]; exact nI_pos (by omega))
      exact ⟨-2, y0, y1, y2, 0, by rw [if_neg (show ¬ u = 0 from g 0 (by decide)), if_neg (show ¬ u = 1 from g 1 (by decide)), if_neg (show ¬ u = 2 from g 2 (by decide)), if_neg (show ¬ u = 3 from g 3 (by decide))], by rw [h2]; rfl, hR⟩
    · have g : ∀ k : Nat, k < 4 → ¬ u = nI k := fun k hk e => absurd (by rw [e]; exact nI_le (by omega) (by decide)) h2
      exact ⟨-2, y0, y1, y2, 0, by rw [if_neg (show ¬ u = 0 from g 0 (by decide)), if_neg (show ¬ u = 1 from g 1 (by decide)), if_neg (show ¬ u = 2 from g 2 (by decide)), if_neg (show ¬ u = 3 from g 3 (by decide))], by rw [h3]; rfl, hR⟩
    · rw [r3, bd1_some, if_neg (show ¬ (1 : Int32) = 0 by decide)]
      match k, hk with
      | 0, _ =>
        refine ⟨nI (B (6 + w)), y0, y1, y2, 0, ?_, ?_, hR⟩
        · rw [if_pos (show nI 0 = 0 from rfl), rdI_nI (by omega) (by decide), hc w hwl]
        · rw [if_pos (show nI 0 = 0 from rfl), show (6 + nI w : Int32) = nI (6 + w) by rw [lit 6, nI_add], rd_MB hM (by omega) (by omega) (by decide)]
      | 1, _ =>
        refine ⟨nI (degN B w), y0, y1, y2, 0, ?_, ?_, hR⟩
        · rw [if_neg (show ¬ nI 1 = 0 by decide), if_pos (show nI 1 = 1 from rfl), strAt7 hL hB (by omega)]; rfl
        · rw [if_neg (show ¬ nI 1 = 0 by decide), if_pos (show nI 1 = 1 from rfl), strAt8 hM hB (by decide) (by decide) (by omega)]; rfl
      | 2, _ => exact ⟨_, _, _, _, 0, by rw [if_neg (show ¬ nI 2 = 0 by decide), if_neg (show ¬ nI 2 = 1 by decide), if_pos (show nI 2 = 2 from rfl)], by rw [if_neg (show ¬ nI 2 = 0 by decide), if_neg (show ¬ nI 2 = 1 by decide), if_pos (show nI 2 = 2 from rfl)], hR⟩
      | 3, _ => exact ⟨_, _, _, _, 0, by rw [if_neg (show ¬ nI 3 = 0 by decide), if_neg (show ¬ nI 3 = 1 by decide), if_neg (show ¬ nI 3 = 2 by decide), if_pos (show nI 3 = 3 from rfl)], by rw [if_neg (show ¬ nI 3 = 0 by decide), if_neg (show ¬ nI 3 = 1 by decide), if_neg (show ¬ nI 3 = 2 by decide)]; rfl, hR⟩
