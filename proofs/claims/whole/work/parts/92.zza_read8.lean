-- uses:
/-! a line as the model reads it -/
theorem mkT_le (x : Nat → Nat) (n p : Nat) : mkT x n p ≤ 11 := by
  have := kyF_le x (stp x n p) (enT x n p) 7 0
  unfold mkT
  split
  · omega
  · split
    · omega
    · split
      · omega
      · split <;> omega
theorem word_one : ∀ i, i < 7 → ∀ j, j < 7 → (i = j ∨ lenS.getD i 0 ≠ lenS.getD j 0 ∨ chS i 0 ≠ chS j 0) := by decide +kernel
theorem wdB_uniq {x : Nat → Nat} {st en i j : Nat} (hi : i < 7) (hj : j < 7) (h1 : wdB x i st en = true) (h2 : wdB x j st en = true) : i = j := by
  have f1 := key_facts i hi
  have f2 := key_facts j hj
  have ch : ∀ i, 4 ≤ lenS.getD i 0 → wdB x i st en = true → en = st + lenS.getD i 0 ∧ nI (x (st + 0)) = chS i 0 := by
    intro i h4 h
    unfold wdB at h
    rw [Bool.and_eq_true, decide_eq_true_eq] at h
    refine ⟨h.1, ?_⟩
    by_cases e : nI (x (st + 0)) = chS i 0
    · exact e
    · have : anyF (fun j => !decide (nI (x (st + j)) = chS i j)) 0 (lenS.getD i 0) = true := by
        rw [anyF_iff]; exact ⟨0, by omega, by omega, by rw [decide_eq_false e]; rfl⟩
      rw [this] at h
      exact absurd h.2 (by decide)
  obtain ⟨a1, a2⟩ := ch i f1.1 h1
  obtain ⟨b1, b2⟩ := ch j f2.1 h2
  rcases word_one i hi j hj with h | h | h
  · exact h
  · omega
  · rw [← a2, ← b2] at h; exact absurd rfl h
theorem kyF_iff {x : Nat → Nat} {st en : Nat} : ∀ f i, i + f = 7 → ∀ j, i ≤ j → j < 7 → (kyF x st en f i = j ↔ wdB x j st en = true)
  | 0, i, h, j, h1, h2 => by omega
  | f + 1, i, h, j, h1, h2 => by
    rw [kyF]
    cases hw : wdB x i st en with
    | true =>
      rw [if_pos rfl]
      constructor
      · intro e; rw [← e]; exact hw
      · intro e; exact wdB_uniq (by omega) h2 hw e
    | false =>
      rw [if_neg (by decide)]
      by_cases q : j = i
      · subst q
        constructor
        · intro e
          have hge : ∀ f i, i ≤ kyF x st en f i := by
            intro f
            induction f with
            | zero => intro i; exact Nat.le_refl _
            | succ f ih =>
              intro i
              rw [kyF]
              split
              · exact Nat.le_refl _
              · have := ih (i + 1); omega
          have := hge f (j + 1); omega
        · intro e; rw [hw] at e; exact absurd e (by decide)
      · exact kyF_iff f (i + 1) (by omega) j (by omega) h2
theorem wdT_mk {x : Nat → Nat} {n p i : Nat} (hi : i < 7) : wdT x n p i = decide (mkT x n p = i) := by
  rw [Bool.eq_iff_iff, decide_eq_true_eq]
  unfold wdT mkT
  rw [Bool.and_eq_true, decide_eq_true_eq]
  by_cases q0 : kT x n p = 0
  · have hb : badT x n p = false := by unfold badT; rw [q0]; rfl
    rw [if_neg (by omega), hb, if_neg (by decide), if_pos q0, kyF_iff 7 0 (by omega) i (by omega) hi]
    exact ⟨fun h => h.2, fun h => ⟨q0, h⟩⟩
  · constructor
    · intro h; exact absurd h.1 q0
    · intro h
      exfalso
      split at h
      · omega
      · split at h
        · omega
        · split at h <;> omega
theorem mk_8 {x : Nat → Nat} {n p : Nat} : mkT x n p = 8 ↔ kT x n p = 1 ∧ badT x n p = false := by
  have hk := kyF_le x (stp x n p) (enT x n p) 7 0
  unfold mkT
  by_cases q5 : kT x n p = 5
  · rw [if_pos q5]; constructor <;> intro h <;> omega
  · rw [if_neg q5]
    cases hb : badT x n p with
    | true => rw [if_pos rfl]; constructor
              · intro h; omega
              · intro h; exact absurd h.2 (by decide)
    | false =>
      rw [if_neg (by decide)]
      by_cases q0 : kT x n p = 0
      · rw [if_pos q0]; constructor <;> intro h <;> omega
      · rw [if_neg q0]
        by_cases q1 : kT x n p = 1
        · rw [if_pos q1]; exact ⟨fun _ => ⟨q1, rfl⟩, fun _ => rfl⟩
        · rw [if_neg q1]; constructor <;> intro h <;> omega
theorem mk_11 {x : Nat → Nat} {n p : Nat} : mkT x n p = 11 ↔ badT x n p = true := by
  have hk := kyF_le x (stp x n p) (enT x n p) 7 0
  unfold mkT
  by_cases q5 : kT x n p = 5
  · have hb : badT x n p = false := by unfold badT; rw [q5]; rfl
    rw [if_pos q5, hb]; constructor
    · intro h; omega
    · intro h; exact absurd h (by decide)
  · rw [if_neg q5]
    cases hb : badT x n p with
    | true => rw [if_pos rfl]; exact ⟨fun _ => rfl, fun _ => rfl⟩
    | false =>
      rw [if_neg (by decide)]
      constructor
      · intro h
        exfalso
        split at h
        · omega
        · split at h <;> omega
      · intro h; exact absurd h (by decide)
theorem mk_9 {x : Nat → Nat} {n p : Nat} (hp : p ≤ n) : mkT x n p = 9 ↔ badT x n p = false ∧ kT x n p = 2 := by
  have hk := kyF_le x (stp x n p) (enT x n p) 7 0
  have h5 := kT_le (x := x) (n := n) (p := p)
  have h3 := kT_ne3 (x := x) hp
  unfold mkT
  by_cases q5 : kT x n p = 5
  · rw [if_pos q5]; constructor <;> intro h <;> omega
  · rw [if_neg q5]
    cases hb : badT x n p with
    | true => rw [if_pos rfl]; constructor
              · intro h; omega
              · intro h; exact absurd h.1 (by decide)
    | false =>
      have h4 : kT x n p ≠ 4 := fun e => by unfold badT at hb; rw [e] at hb; exact absurd hb (by simp)
      rw [if_neg (by decide)]
      by_cases q0 : kT x n p = 0
      · rw [if_pos q0]; constructor <;> intro h <;> omega
      · rw [if_neg q0]
        by_cases q1 : kT x n p = 1
        · rw [if_pos q1]; constructor <;> intro h <;> omega
        · rw [if_neg q1]; exact ⟨fun _ => ⟨rfl, by omega⟩, fun _ => rfl⟩
theorem mk_10 {x : Nat → Nat} {n p : Nat} : mkT x n p = 10 ↔ kT x n p = 5 := by
  have hk := kyF_le x (stp x n p) (enT x n p) 7 0
  unfold mkT
  by_cases q5 : kT x n p = 5
  · rw [if_pos q5]; exact ⟨fun _ => q5, fun _ => rfl⟩
  · rw [if_neg q5]
    constructor
    · intro h
      exfalso
      split at h
      · omega
      · split at h
        · omega
        · split at h <;> omega
    · intro h; exact absurd h q5
theorem en8_ok {x : Nat → Nat} {n p : Nat} (h : badT x n p = false) : en8 x n p = enT x n p := by
  unfold en8
  rw [if_neg]
  intro e
  unfold badT at h
  rw [e] at h
  exact absurd h (by simp)
def nok (x : Nat → Nat) (n q : Nat) (num : Int32) : Prop := kT x n q = 1 → badT x n q = false → num = nI (valT x n q)
theorem is8 {x : Nat → Nat} {n q i : Nat} (hi : i ≤ 11) : fX8_is (nI (mkT x n q)) 0 (nI i) = some (bI (decide (mkT x n q = i))) := by
  have := mkT_le x n q
  unfold fX8_is
  rw [if_pos rfl]
  by_cases h : mkT x n q = i
  · rw [if_pos (by rw [h]), decide_eq_true h]; rfl
  · rw [if_neg (ine h (by omega) (by omega)), decide_eq_false h]; rfl
theorem is8_f {k w i : Int32} (h : ¬ w = 0) : fX8_is k w i = some 0 := by unfold fX8_is; rw [if_neg h]
theorem fails8_f {a k w wa f : Int32} (h : ¬ w = 0) : fX8_fails a k w wa f = some (w, wa) := by unfold fX8_fails; rw [if_neg h]
theorem fails8 {x : Nat → Nat} {n q : Nat} (a wa f : Int32) : fX8_fails a (nI (mkT x n q)) 0 wa f = some (if badT x n q then 1 else f, a) := by
  have := mkT_le x n q
  unfold fX8_fails
  rw [if_pos rfl, jn_eq]
  cases hb : badT x n q with
  | true => rw [if_pos (by rw [mk_11.mpr hb]; rfl)]; rfl
  | false => rw [if_neg (by rw [lit 11]; exact ine (fun e => by rw [mk_11.mp e] at hb; exact absurd hb (by decide)) (by omega) (by decide))]; rfl
theorem takes8_f {mt : Nat → Int32} {a b n k m w wa lo hi : Int32} (h : ¬ w = 0) : fX8_takes mt a b n k m w wa lo hi = some (m, a, b, k, m, w, wa) := by
  unfold fX8_takes
  rw [is8_f h, bd1_some, jn_eq, if_pos rfl, fails8_f h, bd2_some]
  dsimp only
  rw [if_neg h]
theorem takes8 {xt mt : Nat → Int32} {x : Nat → Nat} {n q lo hi : Nat} (hT : TP xt mt x n) (hq : q ≤ n) (hlo : lo < 10000) (hhi : hi < 10000) {num : Int32} (hn : nok x n q num) (wa : Int32) :
    (nfT x n q lo hi = none ∧ ∃ num', fX8_takes mt (nI (stp x n q)) (nI (en8 x n q)) (nI n) (nI (mkT x n q)) num 0 wa (nI lo) (nI hi) = some (nI (valT x n q), nI (stp x n (enT x n q)), nI (en8 x n (enT x n q)), nI (mkT x n (enT x n q)), num', 0, wa) ∧ nok x n (enT x n q) num') ∨
    ∃ f r a b k m, nfT x n q lo hi = some (f, stp x n q) ∧ 1 ≤ f ∧ f ≤ 5 ∧ fX8_takes mt (nI (stp x n q)) (nI (en8 x n q)) (nI n) (nI (mkT x n q)) num 0 wa (nI lo) (nI hi) = some (r, a, b, k, m, nI f, nI (stp x n q)) := by
  have he := en_le (x := x) hq
  unfold fX8_takes nfT
  have h8 := is8 (x := x) (n := n) (q := q) (i := 8) (by omega)
  replace h8 : fX8_is (nI (mkT x n q)) 0 8 = _ := h8
  rw [h8, bd1_some, jn_eq, bI_0', fails8, fails8, bd2_some, bd2_some]
  cases hb : badT x n q with
  | true =>
    have hm : ¬ mkT x n q = 8 := fun e => by rw [(mk_8.mp e).2] at hb; exact absurd hb (by decide)
    simp only [decide_eq_false hm, Bool.false_eq_true, if_false, if_true]
    exact Or.inr ⟨1, num, _, _, _, num, rfl, by omega, by omega, if_neg (show ¬ (1 : Int32) = 0 by decide)⟩
  | false =>
    simp only [Bool.false_eq_true, if_false]
    by_cases q1 : kT x n q = 1
    · obtain ⟨l1, l2⟩ := val_lt q1 hb
      have hv := hn q1 hb
      rw [within_eq, Int32.toInt_toInt64, Int32.toInt_toInt64, Int32.toInt_toInt64, hv, nI_toInt (by omega), nI_toInt (by omega), nI_toInt (by omega), bd1_some, bI_0']
      simp only [decide_eq_true (mk_8.mpr ⟨q1, hb⟩), if_true]
      rw [if_pos q1]
      by_cases q2 : lo ≤ valT x n q ∧ valT x n q ≤ hi
      · have q3 : ((lo : Int) ≤ (valT x n q : Int) ∧ (valT x n q : Int) ≤ (hi : Int)) := by omega
        simp only [decide_eq_true q3, if_true]
        rw [if_pos q2]
        obtain ⟨num', g1, g2⟩ := nx8 hT (show enT x n q ≤ n by omega) (nI (stp x n q)) (nI (mkT x n q)) (nI (valT x n q))
        refine Or.inl ⟨rfl, num', ?_, g2⟩
        rw [en8_ok hb, g1, bd4_some]
      · have q3 : ¬ ((lo : Int) ≤ (valT x n q : Int) ∧ (valT x n q : Int) ≤ (hi : Int)) := by omega
        simp only [decide_eq_false q3, Bool.false_eq_true, if_false]
        rw [if_neg q2]
        exact Or.inr ⟨3, nI (valT x n q), _, _, _, _, rfl, by omega, by omega, if_neg (show ¬ (3 : Int32) = 0 by decide)⟩
    · simp only [decide_eq_false (fun e => q1 (mk_8.mp e).1), Bool.false_eq_true, if_false]
      rw [if_neg q1]
      exact Or.inr ⟨2, num, _, _, _, num, rfl, by omega, by omega, if_neg (show ¬ (2 : Int32) = 0 by decide)⟩
def tlK (mt : Nat → Int32) (n : Int32) (fresh : Nat → Int32) (a b k m w wa : Int32) : Option ((Nat → Int32) × Int32 × Int32 × Int32 × Int32 × Int32 × Int32) :=
  bd5 (fX8_eats mt a b n k m w 9) (fun r_15 t_at_11 t_behind_12 t_kind_13 t_number_14 => jn (β := (Nat → Int32) × Int32 × Int32 × Int32 × Int32 × Int32 × Int32) (fun (t_wrong_17 : Int32) (t_wrongAt_18 : Int32) => rdI 186 fresh 5 (fun x_20 => wrI 186 fresh 5 (x_20 + 1) (fun t_fresh_22 => some (t_fresh_22, t_at_11, t_behind_12, t_kind_13, t_number_14, t_wrong_17, t_wrongAt_18)))) (fun k_19 => if r_15 = 0 then bd2 (fX8_fails t_at_11 t_kind_13 w wa 2) (fun t_wrong_25 t_wrongAt_26 => k_19 t_wrong_25 t_wrongAt_26) else k_19 w wa))
theorem five {fresh : Nat → Int32} {β : Type} (K : (Nat → Int32) → Option β) : rdI 186 fresh 5 (fun x_20 => wrI 186 fresh 5 (x_20 + 1) K) = K (upd fresh 5 (fresh 5 + 1)) := by
  rw [show (5 : Int32) = nI 5 from rfl, rdI_nI (by decide) (by decide), wrI_nI (by decide) (by decide)]
theorem tail8_f {mt fresh : Nat → Int32} {n a b k m w wa : Int32} (h : ¬ w = 0) : tlK mt n fresh a b k m w wa = some (upd fresh 5 (fresh 5 + 1), a, b, k, m, w, wa) := by
  unfold tlK fX8_eats
  rw [is8_f h, bd1_some, if_pos rfl, bd5_some, jn_eq, if_pos rfl, fails8_f h, bd2_some]
  dsimp only
  rw [five]
theorem tail8 {xt mt fresh : Nat → Int32} {x B : Nat → Nat} {n q : Nat} (hT : TP xt mt x n) (hq : q ≤ n) (hM : MB fresh 0 B) (num wa : Int32) :
    (sfT x n q = none ∧ ∃ num' fr, tlK mt (nI n) fresh (nI (stp x n q)) (nI (en8 x n q)) (nI (mkT x n q)) num 0 wa = some (fr, nI (stp x n (enT x n q)), nI (en8 x n (enT x n q)), nI (mkT x n (enT x n q)), num', 0, wa) ∧ nok x n (enT x n q) num' ∧ MB fr 0 (va_up B 5 (B 5 + 1))) ∨
    ∃ f fr a b k m, sfT x n q = some (f, stp x n q) ∧ 1 ≤ f ∧ f ≤ 5 ∧ tlK mt (nI n) fresh (nI (stp x n q)) (nI (en8 x n q)) (nI (mkT x n q)) num 0 wa = some (fr, a, b, k, m, nI f, nI (stp x n q)) := by
  have he := en_le (x := x) hq
  have h9 := is8 (x := x) (n := n) (q := q) (i := 9) (by omega)
  replace h9 : fX8_is (nI (mkT x n q)) 0 9 = _ := h9
  unfold tlK fX8_eats
  rw [h9, bd1_some, bI_0']
  by_cases q9 : mkT x n q = 9
  · obtain ⟨c1, c2⟩ := (mk_9 hq).mp q9
    obtain ⟨num', g1, g2⟩ := nx8 hT (show enT x n q ≤ n by omega) (nI (stp x n q)) (nI (mkT x n q)) num
    rw [decide_eq_true q9, if_pos rfl, en8_ok c1, g1, bd4_some, bd5_some, jn_eq, if_neg (show ¬ (1 : Int32) = 0 by decide)]
    refine Or.inl ⟨?_, num', upd fresh 5 (fresh 5 + 1), ?_, g2, ?_⟩
    · unfold sfT; rw [c1, if_neg (by decide), if_pos c2]
    · dsimp only
      rw [five]
    · rw [show fresh 5 = nI (B 5) from by have := hM 5 (by decide); rw [Nat.zero_add] at this; exact this, nI_inc]
      exact upd_MB hM 5 (B 5 + 1)
  · rw [decide_eq_false q9, if_neg (by decide), bd5_some, jn_eq, if_pos rfl, fails8, bd2_some]
    dsimp only
    rw [five]
    unfold sfT
    cases hb : badT x n q with
    | true =>
      simp only [if_true]
      exact Or.inr ⟨1, _, _, _, _, _, rfl, by omega, by omega, rfl⟩
    | false =>
      have h2 : ¬ kT x n q = 2 := fun e => q9 ((mk_9 hq).mpr ⟨hb, e⟩)
      simp only [Bool.false_eq_true, if_false]
      rw [if_neg h2]
      exact Or.inr ⟨2, _, _, _, _, _, rfl, by omega, by omega, rfl⟩
/-- what a line comes to, as the model has it -/
def out8 (x : Nat → Nat) (n : Nat) (R : (Nat × Nat) ⊕ (Nat × (Nat → Nat))) (res : Option ((Nat → Int32) × Int32 × Int32 × Int32 × Int32 × Int32 × Int32)) : Prop :=
  (∃ f st fr a b k m, R = .inl (f, st) ∧ res = some (fr, a, b, k, m, nI f, nI st)) ∨ ∃ q' B' fr num' wa', R = .inr (q', B') ∧ res = some (fr, nI (stp x n (enT x n q')), nI (en8 x n (enT x n q')), nI (mkT x n (enT x n q')), num', 0, wa') ∧ nok x n (enT x n q') num' ∧ MB fr 0 (va_up B' 5 (B' 5 + 1))
theorem semi8 {xt mt fresh : Nat → Int32} {x B : Nat → Nat} {n q : Nat} (hT : TP xt mt x n) (hq : q ≤ n) (hM : MB fresh 0 B) (num wa : Int32) : out8 x n (bsem x n q (.inr (q, B))) (tlK mt (nI n) fresh (nI (stp x n q)) (nI (en8 x n q)) (nI (mkT x n q)) num 0 wa) := by
  rcases tail8 hT hq hM num wa with ⟨h1, num', fr, h2, h3, h4⟩ | ⟨f, fr, a, b, k, m, h1, h2, h3, h4⟩
  · rw [bsem_n h1]; exact Or.inr ⟨q, B, fr, num', wa, rfl, h2, h3, h4⟩
  · rw [bsem_s h1]; exact Or.inl ⟨f, _, fr, a, b, k, m, rfl, h4⟩
theorem out_f {mt fresh : Nat → Int32} {x : Nat → Nat} {N n st f : Nat} {a b k m : Int32} (h1 : 1 ≤ f) (h2 : f ≤ 5) : out8 x N (.inl (f, st)) (tlK mt (nI n) fresh a b k m (nI f) (nI st)) := by
  rw [tail8_f (f_ne h1 h2)]
  exact Or.inl ⟨f, st, _, _, _, _, _, rfl, rfl⟩
theorem winsL {K : (Nat → Int32) → Option ((Nat → Int32) × Int32 × Int32 × Int32 × Int32 × Int32 × Int32)} : ∀ r i F fresh, i + r = 12 → r < F → ∃ fr, fX8_readWindows_41 K F (nI i) fresh = K fr ∧ (∀ j, 6 + i ≤ j → j < 18 → fr j = 3) ∧ ∀ j, ¬ (6 + i ≤ j ∧ j < 18) → fr j = fresh j := by
  intro r
  induction r with
  | zero =>
    intro i F fresh hi hF
    obtain ⟨F, rfl⟩ : ∃ m, F = m + 1 := ⟨F - 1, by omega⟩
    exact ⟨fresh, by rw [fX8_readWindows_41, lit 12, if_pos (ile (by omega) (by omega))], fun j h1 h2 => by omega, fun j _ => rfl⟩
  | succ r ih =>
    intro i F fresh hi hF
    obtain ⟨F, rfl⟩ : ∃ m, F = m + 1 := ⟨F - 1, by omega⟩
    rw [fX8_readWindows_41, lit 12, if_neg (inle (by omega) (by omega)), show (6 + nI i : Int32) = nI (6 + i) by rw [lit 6, nI_add], wrI_nI (by omega) (by decide), nI_inc]
    obtain ⟨fr, g1, g2, g3⟩ := ih (i + 1) F (upd fresh (6 + i) 3) (by omega) (by omega)
    refine ⟨fr, g1, fun j h1 h2 => ?_, fun j h => ?_⟩
    · by_cases q : j = 6 + i
      · rw [g3 j (by omega), q]; exact pk_us
      · exact g2 j (by omega) h2
    · rw [g3 j (by omega)]; unfold upd; rw [if_neg (by omega)]
theorem rd0 {β : Type} {A : Nat → Int32} {B : Nat → Nat} {k : Int32 → Option β} (h : MB A 0 B) : rdI 186 A 0 k = k (nI (B 0)) := rd_MB (j := 0) h (by decide) (by decide) (by decide)
theorem rd4 {β : Type} {A : Nat → Int32} {B : Nat → Nat} {k : Int32 → Option β} (h : MB A 0 B) : rdI 186 A 4 k = k (nI (B 4)) := rd_MB (j := 4) h (by decide) (by decide) (by decide)
