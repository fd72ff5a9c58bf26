-- uses:
/-! a line of the text, and how the class reads it -/
def nfT (x : Nat → Nat) (n q lo hi : Nat) : Option (Nat × Nat) := if badT x n q then some (1, stp x n q) else if kT x n q = 1 then (if lo ≤ valT x n q ∧ valT x n q ≤ hi then none else some (3, stp x n q)) else some (2, stp x n q)
def sfT (x : Nat → Nat) (n q : Nat) : Option (Nat × Nat) := if badT x n q then some (1, stp x n q) else if kT x n q = 2 then none else some (2, stp x n q)
def bnum (x : Nat → Nat) (n q lo hi : Nat) (k : Nat → Nat → (Nat × Nat) ⊕ (Nat × (Nat → Nat))) : (Nat × Nat) ⊕ (Nat × (Nat → Nat)) := match nfT x n q lo hi with
  | some f => .inl f
  | none => k (valT x n q) (enT x n q)
def bsem (x : Nat → Nat) (n q : Nat) (k : (Nat × Nat) ⊕ (Nat × (Nat → Nat))) : (Nat × Nat) ⊕ (Nat × (Nat → Nat)) := match sfT x n q with
  | some f => .inl f
  | none => k
theorem bnum_s {x : Nat → Nat} {n q lo hi : Nat} {f : Nat × Nat} {k : Nat → Nat → (Nat × Nat) ⊕ (Nat × (Nat → Nat))} (h : nfT x n q lo hi = some f) : bnum x n q lo hi k = .inl f := by unfold bnum; rw [h]
theorem bnum_n {x : Nat → Nat} {n q lo hi : Nat} {k : Nat → Nat → (Nat × Nat) ⊕ (Nat × (Nat → Nat))} (h : nfT x n q lo hi = none) : bnum x n q lo hi k = k (valT x n q) (enT x n q) := by unfold bnum; rw [h]
theorem bsem_s {x : Nat → Nat} {n q : Nat} {f : Nat × Nat} {k : (Nat × Nat) ⊕ (Nat × (Nat → Nat))} (h : sfT x n q = some f) : bsem x n q k = .inl f := by unfold bsem; rw [h]
theorem bsem_n {x : Nat → Nat} {n q : Nat} {k : (Nat × Nat) ⊕ (Nat × (Nat → Nat))} (h : sfT x n q = none) : bsem x n q k = k := by unfold bsem; rw [h]
def winB (B : Nat → Nat) (v : Nat) : Nat → Nat := fun j => if j = 0 then v else if 6 ≤ j ∧ j < 18 then 3 else B j
def wshB (B : Nat → Nat) (a b h : Nat) : Nat → Nat := va_up (va_up (va_up (va_up B (18 + 3 * B 4) a) (18 + 3 * B 4 + 1) b) (18 + 3 * B 4 + 2) h) 4 (B 4 + 1)
def nearB (n a b : Nat) : Bool := decide (min (max a b - min a b) (n - (max a b - min a b)) < 2)
def strE (x : Nat → Nat) (n : Nat) (B : Nat → Nat) (a b q kn : Nat) : (Nat × Nat) ⊕ (Nat × (Nat → Nat)) := bsem x n q (if refN B (min a b) (max a b) = 0 then .inr (q, setB B (min a b) (max a b) (kn + 1)) else .inl (5, stp x n q))
def lnWin (x : Nat → Nat) (n : Nat) (B : Nat → Nat) (q : Nat) := bnum x n q 3 12 (fun v q => bsem x n q (.inr (q, winB B v)))
def lnCan (x : Nat → Nat) (n : Nat) (B : Nat → Nat) (q : Nat) := bnum x n q 0 (B 0 - 1) (fun w q => bnum x n q 0 11 (fun c q => bsem x n q (.inr (q, va_up B (6 + w) c))))
def lnNum (x : Nat → Nat) (n : Nat) (B : Nat → Nat) (q lo hi j : Nat) := bnum x n q lo hi (fun v q => bsem x n q (.inr (q, va_up B j v)))
def lnWsh (x : Nat → Nat) (n : Nat) (B : Nat → Nat) (q : Nat) := bnum x n q 0 (B 0 - 1) (fun a q2 => bnum x n q2 0 (B 0 - 1) (fun b q3 => if nearB (B 0) a b then .inl (3, stp x n q2) else bnum x n q3 0 4095 (fun h q4 => bsem x n q4 (.inr (q4, wshB B a b h)))))
def lnStr (x : Nat → Nat) (n : Nat) (B : Nat → Nat) (q : Nat) := bnum x n q 0 (B 0 - 1) (fun a q2 => bnum x n q2 0 (B 0 - 1) (fun b q3 => if a = b then .inl (3, stp x n q2) else if wdT x n q3 6 then bnum x n (enT x n q3) 0 9 (fun kn q5 => strE x n B a b q5 kn) else strE x n B a b q3 0))
def lineR (x : Nat → Nat) (n p : Nat) (B : Nat → Nat) : (Nat × Nat) ⊕ (Nat × (Nat → Nat)) :=
  if wdT x n p 0 then (if 0 < B 0 then .inl (4, stp x n p) else lnWin x n B (enT x n p))
  else if B 0 = 0 then .inl (2, stp x n p)
  else if wdT x n p 1 then lnCan x n B (enT x n p)
  else if wdT x n p 2 then (if B 4 = 8 then .inl (4, stp x n p) else lnWsh x n B (enT x n p))
  else if wdT x n p 3 then lnNum x n B (enT x n p) 0 20 2
  else if wdT x n p 4 then lnNum x n B (enT x n p) 1 999 3
  else if wdT x n p 5 then lnStr x n B (enT x n p)
  else .inl (2, stp x n p)
theorem nf_cases {x : Nat → Nat} {n q lo hi : Nat} : (nfT x n q lo hi = none ∧ badT x n q = false ∧ kT x n q = 1 ∧ lo ≤ valT x n q ∧ valT x n q ≤ hi) ∨ ∃ f, nfT x n q lo hi = some (f, stp x n q) ∧ 1 ≤ f ∧ f ≤ 5 := by
  unfold nfT
  cases hb : badT x n q with
  | true => exact Or.inr ⟨1, rfl, by omega, by omega⟩
  | false =>
    rw [if_neg (by decide)]
    by_cases q1 : kT x n q = 1
    · rw [if_pos q1]
      by_cases q2 : lo ≤ valT x n q ∧ valT x n q ≤ hi
      · rw [if_pos q2]; exact Or.inl ⟨rfl, rfl, q1, q2.1, q2.2⟩
      · rw [if_neg q2]; exact Or.inr ⟨3, rfl, by omega, by omega⟩
    · rw [if_neg q1]; exact Or.inr ⟨2, rfl, by omega, by omega⟩
theorem sf_cases {x : Nat → Nat} {n q : Nat} : (sfT x n q = none ∧ badT x n q = false ∧ kT x n q = 2) ∨ ∃ f, sfT x n q = some (f, stp x n q) ∧ 1 ≤ f ∧ f ≤ 5 := by
  unfold sfT
  cases hb : badT x n q with
  | true => exact Or.inr ⟨1, rfl, by omega, by omega⟩
  | false =>
    rw [if_neg (by decide)]
    by_cases q1 : kT x n q = 2
    · rw [if_pos q1]; exact Or.inl ⟨rfl, rfl, q1⟩
    · rw [if_neg q1]; exact Or.inr ⟨2, rfl, by omega, by omega⟩
theorem ref7_0 (s pl v : Int32) : fX3_refuse s 0 pl v = some (v, s) := by unfold fX3_refuse; rw [if_pos rfl]
theorem ref7_f {s f pl v : Int32} (h : ¬ f = 0) : fX3_refuse s f pl v = some (f, pl) := by unfold fX3_refuse; rw [if_neg h]
theorem num7_f {tape : Nat → Int32} {n a k s v f pl lo hi : Int32} (h : ¬ f = 0) : fX3_readNumber tape n a k s v f pl lo hi = some (0, a, k, s, v, f, pl) := by
  unfold fX3_readNumber
  rw [nt7_f _ _ _ _ _ _ _ _ h, bd6_some, jn_eq, jn_eq, ref7_f h, ref7_f h, bd2_some]
  dsimp only
  rw [if_neg h]
  split
  · split
    · rfl
    · split <;> rfl
  · rfl
theorem num7 {xt mt : Nat → Int32} {x : Nat → Nat} {n q lo hi : Nat} (hT : TP xt mt x n) (hq : q ≤ n) (hlo : lo < 10000) (hhi : hi < 10000) (k s v pl : Int32) :
    (nfT x n q lo hi = none ∧ fX3_readNumber xt (nI n) (nI q) k s v 0 pl (nI lo) (nI hi) = some (nI (valT x n q), nI (enT x n q), nI (kT x n q), nI (stp x n q), nI (valT x n q), 0, pl)) ∨
    ∃ f v', nfT x n q lo hi = some (f, stp x n q) ∧ 1 ≤ f ∧ f ≤ 5 ∧ fX3_readNumber xt (nI n) (nI q) k s v 0 pl (nI lo) (nI hi) = some (0, nI (enT x n q), nI (kT x n q), nI (stp x n q), v', nI f, nI (stp x n q)) := by
  have hk5 := kT_le (x := x) (n := n) (p := q)
  obtain ⟨v', g1, g2⟩ := nt7 hT hq k s v pl
  unfold fX3_readNumber nfT
  rw [g1, bd6_some, jn_eq, jn_eq]
  cases hb : badT x n q with
  | true =>
    have h1 : ¬ (1 : Int32) = 0 := by decide
    refine Or.inr ⟨1, v', by rw [if_pos rfl], by omega, by omega, ?_⟩
    simp only [if_true]
    rw [ref7_f h1, ref7_f h1, bd2_some, if_neg h1]
    split
    · split
      · rfl
      · split <;> rfl
    · rfl
  | false =>
    simp only [Bool.false_eq_true, if_false]
    rw [ref7_0, ref7_0, bd2_some, bd2_some, if_pos trivial, if_neg (show ¬ (3 : Int32) = 0 by decide), if_neg (show ¬ (2 : Int32) = 0 by decide)]
    by_cases q1 : kT x n q = 1
    · obtain ⟨l1, l2⟩ := val_lt q1 hb
      have e1 : nI (kT x n q) = 1 := by rw [q1]; rfl
      rw [if_pos e1, if_pos q1, g2 q1 hb]
      by_cases q2 : lo ≤ valT x n q
      · rw [if_neg (inlt q2 (by omega))]
        by_cases q3 : valT x n q ≤ hi
        · rw [if_pos (ile q3 (by omega)), if_pos ⟨q2, q3⟩]
          exact Or.inl ⟨rfl, rfl⟩
        · rw [if_neg (inle (by omega) (by omega)), if_neg (by omega)]
          exact Or.inr ⟨3, _, rfl, by omega, by omega, rfl⟩
      · rw [if_pos (ilt (by omega) (by omega)), if_neg (by omega)]
        exact Or.inr ⟨3, _, rfl, by omega, by omega, rfl⟩
    · rw [if_neg q1, if_neg (show ¬ nI (kT x n q) = 1 by rw [n1]; exact ine q1 (by omega) (by decide))]
      exact Or.inr ⟨2, _, rfl, by omega, by omega, rfl⟩
theorem want7_f {k s f pl : Int32} (h : ¬ f = 0) : fX3_wantSemicolon k s f pl = some (f, pl) := by
  unfold fX3_wantSemicolon
  rw [ref7_f h, bd2_some]
  split <;> rfl
theorem semi7_f {tape : Nat → Int32} {n a k s v f pl : Int32} (h : ¬ f = 0) : fX3_readSemicolon tape n a k s v f pl = some (a, k, s, v, f, pl) := by
  unfold fX3_readSemicolon
  rw [nt7_f _ _ _ _ _ _ _ _ h, bd6_some, want7_f h, bd2_some]
theorem want7 {x : Nat → Nat} {n q : Nat} {f0 pl0 pl : Int32} (hf : f0 = if badT x n q then 1 else 0) (hpl : pl0 = if badT x n q then nI (stp x n q) else pl) :
    (sfT x n q = none ∧ fX3_wantSemicolon (nI (kT x n q)) (nI (stp x n q)) f0 pl0 = some (0, pl)) ∨ ∃ f, sfT x n q = some (f, stp x n q) ∧ 1 ≤ f ∧ f ≤ 5 ∧ fX3_wantSemicolon (nI (kT x n q)) (nI (stp x n q)) f0 pl0 = some (nI f, nI (stp x n q)) := by
  have hk5 := kT_le (x := x) (n := n) (p := q)
  unfold sfT
  cases hb : badT x n q with
  | true =>
    rw [hb] at hf hpl
    rw [if_pos rfl] at hf hpl ⊢
    rw [hf, hpl, want7_f (by decide)]
    exact Or.inr ⟨1, rfl, by omega, by omega, rfl⟩
  | false =>
    rw [hb] at hf hpl
    rw [if_neg (by decide)] at hf hpl ⊢
    rw [hf, hpl]
    unfold fX3_wantSemicolon
    rw [ref7_0, bd2_some]
    by_cases q2 : kT x n q = 2
    · rw [if_pos q2, if_pos (by rw [q2]; rfl)]; exact Or.inl ⟨rfl, rfl⟩
    · rw [if_neg q2, if_neg (by rw [lit 2]; exact ine q2 (by omega) (by decide))]; exact Or.inr ⟨2, rfl, by omega, by omega, rfl⟩
theorem semi7 {xt mt : Nat → Int32} {x : Nat → Nat} {n q : Nat} (hT : TP xt mt x n) (hq : q ≤ n) (k s v pl : Int32) :
    (sfT x n q = none ∧ ∃ v', fX3_readSemicolon xt (nI n) (nI q) k s v 0 pl = some (nI (enT x n q), nI (kT x n q), nI (stp x n q), v', 0, pl)) ∨
    ∃ f v', sfT x n q = some (f, stp x n q) ∧ 1 ≤ f ∧ f ≤ 5 ∧ fX3_readSemicolon xt (nI n) (nI q) k s v 0 pl = some (nI (enT x n q), nI (kT x n q), nI (stp x n q), v', nI f, nI (stp x n q)) := by
  obtain ⟨v', g1, g2⟩ := nt7 hT hq k s v pl
  unfold fX3_readSemicolon
  rw [g1, bd6_some]
  rcases want7 (x := x) (n := n) (q := q) (pl := pl) rfl rfl with ⟨h1, h2⟩ | ⟨f, h1, h2, h3, h4⟩
  · rw [h2, bd2_some]; exact Or.inl ⟨h1, v', rfl⟩
  · rw [h4, bd2_some]; exact Or.inr ⟨f, v', h1, h2, h3, rfl⟩
theorem f_ne {f : Nat} (h1 : 1 ≤ f) (h2 : f ≤ 5) : ¬ nI f = 0 := by rw [n0]; exact ine (by omega) (by omega) (by decide)
/-- what a reading of a line comes to -/
def bad7 (R : (Nat × Nat) ⊕ (Nat × (Nat → Nat))) (f st n : Nat) : Prop := R = .inl (f, st) ∧ 1 ≤ f ∧ f ≤ 5 ∧ st ≤ n
def good7 (x : Nat → Nat) (n q0 : Nat) (R : (Nat × Nat) ⊕ (Nat × (Nat → Nat))) (q : Nat) (B' : Nat → Nat) : Prop := R = .inr (q, B') ∧ q0 ≤ q ∧ q ≤ n ∧ kT x n q = 2 ∧ badT x n q = false
theorem win7 {xt mt : Nat → Int32} {x B : Nat → Nat} {n q : Nat} (hT : TP xt mt x n) (hq : q ≤ n) (k s v pl w : Int32) :
    (∃ f st a k' s' v' w', bad7 (lnWin x n B q) f st n ∧ fX3_readWindows xt (nI n) (nI q) k s v 0 pl w = some (a, k', s', v', nI f, nI st, w')) ∨
    ∃ q' u v', good7 x n q (lnWin x n B q) q' (winB B u) ∧ 3 ≤ u ∧ u ≤ 12 ∧ fX3_readWindows xt (nI n) (nI q) k s v 0 pl w = some (nI (enT x n q'), nI (kT x n q'), nI (stp x n q'), v', 0, pl, nI u) := by
  have he := en_le (x := x) hq
  have hs := stp_le (x := x) hq
  unfold fX3_readWindows lnWin
  rcases num7 (lo := 3) (hi := 12) hT hq (by omega) (by omega) k s v pl with ⟨h1, h2⟩ | ⟨f, v', h1, h2, h3, h4⟩
  · replace h2 : fX3_readNumber xt (nI n) (nI q) k s v 0 pl 3 12 = _ := h2
    rw [h2, bd7_some, bnum_n h1]
    rcases nf_cases (x := x) (n := n) (q := q) (lo := 3) (hi := 12) with ⟨_, _, _, b1, b2⟩ | ⟨f, hf, _⟩
    · have he2 := en_le (x := x) (show enT x n q ≤ n by omega)
      have hs2 := stp_le (x := x) (show enT x n q ≤ n by omega)
      rcases semi7 hT (show enT x n q ≤ n by omega) (nI (kT x n q)) (nI (stp x n q)) (nI (valT x n q)) pl with ⟨g1, v2, g2⟩ | ⟨f, v2, g1, g2, g3, g4⟩
      · rw [g2, bd6_some, bsem_n g1]
        rcases sf_cases (x := x) (n := n) (q := enT x n q) with ⟨_, c1, c2⟩ | ⟨f, hf, _⟩
        · exact Or.inr ⟨enT x n q, valT x n q, v2, ⟨rfl, by omega, by omega, c2, c1⟩, b1, b2, rfl⟩
        · rw [g1] at hf; exact absurd hf (by simp)
      · rw [g4, bd6_some, bsem_s g1]
        exact Or.inl ⟨f, _, _, _, _, _, _, ⟨rfl, g2, g3, by omega⟩, rfl⟩
    · rw [h1] at hf; exact absurd hf (by simp)
  · replace h4 : fX3_readNumber xt (nI n) (nI q) k s v 0 pl 3 12 = _ := h4
    rw [h4, bd7_some, bnum_s h1, semi7_f (f_ne h2 h3), bd6_some]
    exact Or.inl ⟨f, _, _, _, _, _, _, ⟨rfl, h2, h3, by omega⟩, rfl⟩
theorem nf_ok {x : Nat → Nat} {n q lo hi : Nat} (h : nfT x n q lo hi = none) : badT x n q = false ∧ kT x n q = 1 ∧ lo ≤ valT x n q ∧ valT x n q ≤ hi := by
  rcases nf_cases (x := x) (n := n) (q := q) (lo := lo) (hi := hi) with ⟨_, b⟩ | ⟨f, hf, _⟩
  · exact b
  · rw [h] at hf; exact absurd hf (by simp)
theorem sf_ok {x : Nat → Nat} {n q : Nat} (h : sfT x n q = none) : badT x n q = false ∧ kT x n q = 2 := by
  rcases sf_cases (x := x) (n := n) (q := q) with ⟨_, b⟩ | ⟨f, hf, _⟩
  · exact b
  · rw [h] at hf; exact absurd hf (by simp)
theorem onum7 {xt mt : Nat → Int32} {x B : Nat → Nat} {n q lo hi j : Nat} (hT : TP xt mt x n) (hq : q ≤ n) (hlo : lo < 10000) (hhi : hi < 10000) (k s v pl : Int32) :
    (∃ f st r a k' s' v' f1 pl1 a2 k2 s2 v2, bad7 (lnNum x n B q lo hi j) f st n ∧ fX3_readNumber xt (nI n) (nI q) k s v 0 pl (nI lo) (nI hi) = some (r, a, k', s', v', f1, pl1) ∧ fX3_readSemicolon xt (nI n) a k' s' v' f1 pl1 = some (a2, k2, s2, v2, nI f, nI st)) ∨
    ∃ q' u a k' s' v' v2, good7 x n q (lnNum x n B q lo hi j) q' (va_up B j u) ∧ lo ≤ u ∧ u ≤ hi ∧ fX3_readNumber xt (nI n) (nI q) k s v 0 pl (nI lo) (nI hi) = some (nI u, a, k', s', v', 0, pl) ∧ fX3_readSemicolon xt (nI n) a k' s' v' 0 pl = some (nI (enT x n q'), nI (kT x n q'), nI (stp x n q'), v2, 0, pl) := by
  have he := en_le (x := x) hq
  have hs := stp_le (x := x) hq
  unfold lnNum
  rcases num7 hT hq hlo hhi k s v pl with ⟨h1, h2⟩ | ⟨f, v', h1, h2, h3, h4⟩
  · rw [bnum_n h1]
    obtain ⟨_, _, b1, b2⟩ := nf_ok h1
    have hs2 := stp_le (x := x) (show enT x n q ≤ n by omega)
    rcases semi7 hT (show enT x n q ≤ n by omega) (nI (kT x n q)) (nI (stp x n q)) (nI (valT x n q)) pl with ⟨g1, v2, g2⟩ | ⟨f, v2, g1, g2, g3, g4⟩
    · rw [bsem_n g1]
      obtain ⟨c1, c2⟩ := sf_ok g1
      exact Or.inr ⟨enT x n q, valT x n q, _, _, _, _, v2, ⟨rfl, by omega, by omega, c2, c1⟩, b1, b2, h2, g2⟩
    · rw [bsem_s g1]
      exact Or.inl ⟨f, _, _, _, _, _, _, _, _, _, _, _, _, ⟨rfl, g2, g3, by omega⟩, h2, g4⟩
  · rw [bnum_s h1]
    exact Or.inl ⟨f, _, _, _, _, _, _, _, _, _, _, _, _, ⟨rfl, h2, h3, by omega⟩, h4, semi7_f (f_ne h2 h3)⟩
theorem can7 {xt mt : Nat → Int32} {x B : Nat → Nat} {n q : Nat} (hT : TP xt mt x n) (hB : WF B) (h3 : 3 ≤ B 0) (hq : q ≤ n) (k s v pl : Int32) (cans : Nat → Int32) :
    (∃ f st a k' s' v' c', bad7 (lnCan x n B q) f st n ∧ fX3_readCans xt (nI n) (nI q) k s v 0 pl (nI (B 0)) cans = some (a, k', s', v', nI f, nI st, c')) ∨
    ∃ q' w u v', good7 x n q (lnCan x n B q) q' (va_up B (6 + w) u) ∧ w < B 0 ∧ u ≤ 11 ∧ fX3_readCans xt (nI n) (nI q) k s v 0 pl (nI (B 0)) cans = some (nI (enT x n q'), nI (kT x n q'), nI (stp x n q'), v', 0, pl, upd cans w (nI u)) := by
  have h12 := hB.1
  have he := en_le (x := x) hq
  have hs := stp_le (x := x) hq
  unfold fX3_readCans lnCan
  rw [sub1 (by omega)]
  rcases num7 (lo := 0) (hi := B 0 - 1) hT hq (by omega) (by omega) k s v pl with ⟨h1, h2⟩ | ⟨f, v', h1, h2, h3, h4⟩
  · replace h2 : fX3_readNumber xt (nI n) (nI q) k s v 0 pl 0 (nI (B 0 - 1)) = _ := h2
    obtain ⟨_, _, b1, b2⟩ := nf_ok h1
    rw [h2, bd7_some, bnum_n h1]
    have he2 := en_le (x := x) (show enT x n q ≤ n by omega)
    have hs2 := stp_le (x := x) (show enT x n q ≤ n by omega)
    rcases num7 (lo := 0) (hi := 11) hT (show enT x n q ≤ n by omega) (by omega) (by omega) (nI (kT x n q)) (nI (stp x n q)) (nI (valT x n q)) pl with ⟨g1, g2⟩ | ⟨f, v', g1, g2, g3, g4⟩
    · replace g2 : fX3_readNumber xt (nI n) (nI (enT x n q)) (nI (kT x n q)) (nI (stp x n q)) (nI (valT x n q)) 0 pl 0 11 = _ := g2
      obtain ⟨_, _, d1, d2⟩ := nf_ok g1
      rw [g2, bd7_some, bnum_n g1]
      have hs3 := stp_le (x := x) (show enT x n (enT x n q) ≤ n by omega)
      rcases semi7 hT (show enT x n (enT x n q) ≤ n by omega) (nI (kT x n (enT x n q))) (nI (stp x n (enT x n q))) (nI (valT x n (enT x n q))) pl with ⟨i1, v2, i2⟩ | ⟨f, v2, i1, i2, i3, i4⟩
      · rw [i2, bd6_some, bsem_n i1, if_pos rfl, wrI_nI (by omega) (by decide)]
        obtain ⟨c1, c2⟩ := sf_ok i1
        exact Or.inr ⟨_, valT x n q, valT x n (enT x n q), v2, ⟨rfl, by omega, by omega, c2, c1⟩, by omega, d2, rfl⟩
      · rw [i4, bd6_some, bsem_s i1, if_neg (f_ne i2 i3)]
        exact Or.inl ⟨f, _, _, _, _, _, _, ⟨rfl, i2, i3, by omega⟩, rfl⟩
    · replace g4 : fX3_readNumber xt (nI n) (nI (enT x n q)) (nI (kT x n q)) (nI (stp x n q)) (nI (valT x n q)) 0 pl 0 11 = _ := g4
      rw [g4, bd7_some, bnum_s g1, semi7_f (f_ne g2 g3), bd6_some, if_neg (f_ne g2 g3)]
      exact Or.inl ⟨f, _, _, _, _, _, _, ⟨rfl, g2, g3, by omega⟩, rfl⟩
  · replace h4 : fX3_readNumber xt (nI n) (nI q) k s v 0 pl 0 (nI (B 0 - 1)) = _ := h4
    rw [h4, bd7_some, bnum_s h1, num7_f (f_ne h2 h3), bd7_some, semi7_f (f_ne h2 h3), bd6_some, if_neg (f_ne h2 h3)]
    exact Or.inl ⟨f, _, _, _, _, _, _, ⟨rfl, h2, h3, by omega⟩, rfl⟩
