-- uses:
/-! renewed: a string without its knots -/
theorem wl_congr {q : Nat → Nat → Prop} {c c' : Nat → Nat → Nat} {t : Nat} (hc : ∀ u w, q u w → c u w = c' u w) : ∀ h L v, wl q c t h L v ↔ wl q c' t h L v
  | 0, _, _ => Iff.rfl
  | h + 1, L, v => by
    constructor
    · rintro ⟨u, L', g1, g2, g3⟩; exact ⟨u, L', g1, (wl_congr hc h L' u).mp g2, by rw [← hc v u g1]; exact g3⟩
    · rintro ⟨u, L', g1, g2, g3⟩; exact ⟨u, L', g1, (wl_congr hc h L' u).mpr g2, by rw [hc v u g1]; exact g3⟩
theorem dst_congr {q : Nat → Nat → Prop} {c c' : Nat → Nat → Nat} {t v : Nat} (hc : ∀ u w, q u w → c u w = c' u w) : dst q c t v = dst q c' t v := by
  have h : DS q c t v = DS q c' t v := by
    funext o
    unfold DS
    simp only [wl_congr hc]
  unfold dst
  rw [h]
theorem wl_mono {q : Nat → Nat → Prop} {c c' : Nat → Nat → Nat} {t : Nat} (hc : ∀ u w, q u w → c' u w ≤ c u w) : ∀ h L v, wl q c t h L v → ∃ L', L' ≤ L ∧ wl q c' t h L' v
  | 0, L, v, hw => ⟨L, Nat.le_refl _, hw⟩
  | h + 1, L, v, hw => by
    obtain ⟨u, L1, g1, g2, g3⟩ := hw
    obtain ⟨L2, h1, h2⟩ := wl_mono hc h L1 u g2
    have := hc v u g1
    exact ⟨L2 + c' v u, by omega, u, L2, g1, h2, rfl⟩
theorem dst_mono {q : Nat → Nat → Prop} {c c' : Nat → Nat → Nat} {t v L h : Nat} (hc : ∀ u w, q u w → c' u w ≤ c u w) (h1 : DS q c t v (dst q c t v)) (h2 : DS q c' t v (dst q c' t v)) (e : dst q c t v = some (L, h)) : ∃ L' h', dst q c' t v = some (L', h') ∧ L' ≤ L := by
  rw [e] at h1
  rcases h1 with ⟨e1, _⟩ | ⟨L1, k1, e1, w1, _, _⟩
  · exact absurd e1 (by simp)
  · have e3 : L = L1 ∧ h = k1 := by simpa using e1
    obtain ⟨rfl, rfl⟩ := e3
    obtain ⟨L2, g1, g2⟩ := wl_mono hc h L v w1
    rcases h2 with ⟨_, hno⟩ | ⟨L3, k3, e4, w3, _, w5⟩
    · exact absurd g2 (hno h L2)
    · have := w5 h L2 g2
      exact ⟨L3, k3, e4, by omega⟩
theorem tk_keep {B : Nat → Nat} (hB : WF B) {hr a b : Nat} (ha : a < 12) (hb : b < 12) (ht : tied B a b = true) : tk (setB B a b 1) hr = tk B hr := by
  funext c d
  apply propext
  unfold tk
  refine and_congr_right (fun h1 => and_congr_right (fun h2 => ?_))
  rw [talk_set B hB ha hb h1 h2]
  by_cases q : (c = a ∧ d = b) ∨ (c = b ∧ d = a)
  · rw [if_pos q]
    have e1 : talkN B hr a b = !slackN B hr a b := by unfold talkN; rw [ht]; rfl
    rcases q with ⟨rfl, rfl⟩ | ⟨rfl, rfl⟩
    · rw [e1]; simp
    · rw [talk_sym hB h1 h2, e1]; simp
  · rw [if_neg q]
theorem loss_set {B : Nat → Nat} {a b c d : Nat} (ha : a < 12) (hb : b < 12) (hc : c < 12) (hd : d < 12) : lossN (setB B a b 1) c d = if (c = a ∧ d = b) ∨ (c = b ∧ d = a) then bareN B a b else lossN B c d := by
  have e1 : bareN (setB B a b 1) c d = bareN B c d := by unfold bareN lenN; rw [setB_lo B (by omega), setB_lo B (by omega)]
  unfold lossN
  rw [e1, tied_set ha hb hc hd, setB_at B ha hb hc hd]
  by_cases q : (c = a ∧ d = b) ∨ (c = b ∧ d = a)
  · rw [if_pos q, if_pos q, if_pos q]
    rcases q with ⟨rfl, rfl⟩ | ⟨rfl, rfl⟩
    · simp
    · rw [bare_sym]; simp
  · rw [if_neg q, if_neg q, if_neg q]
theorem setB_same {B : Nat → Nat} {a b v : Nat} (h1 : B (42 + 12 * a + b) = v) (h2 : B (42 + 12 * b + a) = v) : setB B a b v = B := by
  funext j
  unfold setB va_up
  by_cases q1 : j = 42 + 12 * b + a
  · rw [if_pos q1, q1, h2]
  · rw [if_neg q1]
    by_cases q2 : j = 42 + 12 * a + b
    · rw [if_pos q2, q2, h1]
    · rw [if_neg q2]
/-- by how much a string without knots lessens the loss -/
noncomputable def dlN (B : Nat → Nat) (f t a b : Nat) : Nat := lsN (dd B (B 1) no_one t f) - lsN (dd (setB B a b 1) (B 1) no_one t f)
noncomputable def rnG (B : Nat → Nat) (f t : Nat) (s : Nat × Int32) (a b : Nat) : Nat × Int32 := if s.1 < dlN B f t a b then (dlN B f t a b, nI (20 * a + b)) else s
theorem dl_slack {B : Nat → Nat} (hB : WF B) {f t a b : Nat} (ha : a < 12) (hb : b < 12) (ht : tied B a b = true) (hs : talkN B (B 1) a b = false) : dlN B f t a b = 0 := by
  unfold dlN dd
  rw [tk_keep hB ha hb ht, dst_congr (c := lossN (setB B a b 1)) (c' := lossN B) (fun u w hq => ?_), Nat.sub_self]
  rw [loss_set ha hb hq.1.1 hq.1.2.1, if_neg]
  rintro (⟨rfl, rfl⟩ | ⟨rfl, rfl⟩)
  · have := hq.1.2.2; rw [hs] at this; exact absurd this (by decide)
  · have := hq.1.2.2; rw [talk_sym hB hq.1.1 hq.1.2.1, hs] at this; exact absurd this (by decide)
/-- of a string: what the ways are without its knots -/
theorem less_ok {B : Nat → Nat} (hB : WF B) {f t a b L h : Nat} (hab : a < b) (hb : b < B 0) (htie : tied B a b = true) (h1 : DS (qp (tk B (B 1)) no_one) (lossN B) t f (dd B (B 1) no_one t f)) (h2 : DS (qp (tk (setB B a b 1) (B 1)) no_one) (lossN (setB B a b 1)) t f (dd (setB B a b 1) (B 1) no_one t f)) (e : dd B (B 1) no_one t f = some (L, h)) :
    ∃ L' h', dd (setB B a b 1) (B 1) no_one t f = some (L', h') ∧ L' ≤ L ∧ dlN B f t a b = L - L' := by
  have h12 := hB.1
  have h2' : DS (qp (tk B (B 1)) no_one) (lossN (setB B a b 1)) t f (dst (qp (tk B (B 1)) no_one) (lossN (setB B a b 1)) t f) := by
    unfold dd at h2
    rw [tk_keep hB (by omega) (by omega) htie] at h2
    exact h2
  obtain ⟨L', h', e1, e2⟩ := dst_mono (c' := lossN (setB B a b 1)) (fun u w hq => by
    rw [loss_set (by omega) (by omega) hq.1.1 hq.1.2.1]
    by_cases q : (u = a ∧ w = b) ∨ (u = b ∧ w = a)
    · rw [if_pos q]
      rcases q with ⟨rfl, rfl⟩ | ⟨rfl, rfl⟩
      · unfold lossN; omega
      · unfold lossN; rw [bare_sym]; omega
    · rw [if_neg q]; exact Nat.le_refl _) h1 h2' e
  have e3 : dd (setB B a b 1) (B 1) no_one t f = some (L', h') := by
    unfold dd
    rw [tk_keep hB (by omega) (by omega) htie]
    exact e1
  refine ⟨L', h', e3, e2, ?_⟩
  unfold dlN
  rw [e, e3]
  rfl
theorem less7 {m : Nat} {P : Nat → Nat} {pairs knots links prices : Nat → Int32} {B : Nat → Nat} (hL : CL m P pairs knots B) (hB : WF B) (hl : LK links (tk B (B 1))) (hpr : PR prices (tk B (B 1)) (lossN B)) {f t i L h : Nat} (hf : f < B 0) (ht : t < B 0) (hi : i < m) (h1 : DS (qp (tk B (B 1)) no_one) (lossN B) t f (dd B (B 1) no_one t f)) (e : dd B (B 1) no_one t f = some (L, h)) (rest : Nat → Int32) :
    ∃ L' pr' rest', fX7_lossWithoutKnots (nI (B 0)) (nI (B 2)) pairs knots (nI (B 0)) links prices rest (nI i) (nI f) (nI t) = some (nI L', pr', rest') ∧ PR pr' (tk B (B 1)) (lossN B) ∧ L' ≤ L ∧ dlN B f t (P i / 20) (P i % 20) = L - L' := by
  have h12 := hB.1
  have h21 := hL.1
  obtain ⟨g1, g2, g3⟩ := hL.2.1.1 i hi
  have hp := P_lt hL.2.1 hB hi
  have hB' : WF (setB B (P i / 20) (P i % 20) 1) := WF_set hB g1 g2 (by omega) (Or.inr (Or.inl g3))
  have e0 : setB B (P i / 20) (P i % 20) 1 0 = B 0 := setB_lo B (by omega)
  have htk := tk_keep (hr := B 1) hB (show P i / 20 < 12 by omega) (show P i % 20 < 12 by omega) g3
  have hb := bare7 hB g1 g2
  rw [show 20 * (P i / 20) + P i % 20 = P i by omega] at hb
  obtain ⟨q1, s1, s2⟩ := setLoss7 (prices := prices) (v := bareN B (P i / 20) (P i % 20)) (show P i / 20 < 12 by omega) (show P i % 20 < 12 by omega)
  have hpr1 : PR q1 (tk (setB B (P i / 20) (P i % 20) 1) (B 1)) (lossN (setB B (P i / 20) (P i % 20) 1)) := by
    rw [htk]
    intro u w huw
    rw [s2 u w huw.1 huw.2.1, loss_set (by omega) (by omega) huw.1 huw.2.1]
    by_cases q : (u = P i / 20 ∧ w = P i % 20) ∨ (u = P i % 20 ∧ w = P i / 20)
    · rw [if_pos q, if_pos q]
    · rw [if_neg q, if_neg q]; exact hpr u w huw
  obtain ⟨rest', r1, r2⟩ := meas7_0 hB' (hr := B 1) (t := t) (links := links) (prices := q1) (by rw [htk]; exact hl) hpr1 (by rw [e0]; exact ht) rest
  rw [e0] at r1
  obtain ⟨q2, s3, s4⟩ := setLoss7 (prices := q1) (v := lossN B (P i / 20) (P i % 20)) (show P i / 20 < 12 by omega) (show P i % 20 < 12 by omega)
  obtain ⟨L', h', d1, d2, d3⟩ := less_ok hB g1 g2 g3 h1 (r2 f (by omega)).1 e
  refine ⟨L', q2, rest', ?_, ?_, d2, d3⟩
  · unfold fX7_lossWithoutKnots
    simp only [rdI_nI (show i < 21 by omega) (show 21 < 2 ^ 31 by decide), (hL.2.2 i hi).1]
    rw [les_nI (by omega), bd1_some, gre_nI (by omega), bd1_some, hb, bd1_some, s1, bd1_some, r1, bd1_some, lossAt7 hL hB hi, bd1_some, s3, bd1_some, lossF7 (by omega) (r2 f (by omega)).2.1 (r2 f (by omega)).2.2, d1]
    rfl
  · intro u w huw
    rw [s4 u w huw.1 huw.2.1]
    by_cases q : (u = P i / 20 ∧ w = P i % 20) ∨ (u = P i % 20 ∧ w = P i / 20)
    · rw [if_pos q]
      rcases q with ⟨rfl, rfl⟩ | ⟨rfl, rfl⟩
      · rfl
      · rw [loss_sym hB huw.1 huw.2.1]
    · rw [if_neg q, s2 u w huw.1 huw.2.1, if_neg q]; exact hpr u w huw
theorem renew7 {m : Nat} {P : Nat → Nat} {pairs knots links : Nat → Int32} {B : Nat → Nat} (hL : CL m P pairs knots B) (hB : WF B) (hl : LK links (tk B (B 1))) {f t L h : Nat} (hf : f < B 0) (ht : t < B 0) (h1 : DS (qp (tk B (B 1)) no_one) (lossN B) t f (dd B (B 1) no_one t f)) (hL2 : L ≤ 1755) (e : dd B (B 1) no_one t f = some (L, h)) (K : Int32 → Int32 → (Nat → Int32) → (Nat → Int32) → Option (Int32 × Int32 × (Nat → Int32) × (Nat → Int32) × (Nat → Int32))) :
    ∀ k i F s prices rest, i + k = m → k < F → s.1 ≤ 1755 → PR prices (tk B (B 1)) (lossN B) → ∃ prices' rest', fX7_renewed_91 (nI f) (nI t) (nI L) (nI (B 0)) (nI (B 2)) (nI m) pairs knots (nI (B 0)) links K F (nI s.1) s.2 (nI i) prices rest = K (nI (fold1 (fun s i => rnG B f t s (P i / 20) (P i % 20)) i k s).1) (fold1 (fun s i => rnG B f t s (P i / 20) (P i % 20)) i k s).2 prices' rest' := by
  have h12 := hB.1
  have h21 := hL.1
  intro k
  induction k with
  | zero =>
    intro i F s prices rest hi hF hs hpr
    obtain ⟨F, rfl⟩ : ∃ m, F = m + 1 := ⟨F - 1, by omega⟩
    exact ⟨prices, rest, by rw [fX7_renewed_91, if_pos (ile (by omega) (by omega))]; rfl⟩
  | succ k ih =>
    intro i F s prices rest hi hF hs hpr
    obtain ⟨F, rfl⟩ : ∃ m, F = m + 1 := ⟨F - 1, by omega⟩
    have him : i < m := by omega
    obtain ⟨g1, g2, g3⟩ := hL.2.1.1 i him
    have hsy := hB.2.2.2.2.2.2.2.2.2.1 (P i / 20) (P i % 20) (by omega) (by omega)
    have hpos : 0 < B (42 + 12 * (P i / 20) + P i % 20) := by have := g3; unfold tied at this; simpa using this
    rw [fX7_renewed_91, if_neg (inle (by omega) (by omega)), rdI_nI (by omega) (by decide), (hL.2.2 i him).2, jn_eq, fold1]
    -- what the string brings
    have goal : ∀ z pr' rest', PR pr' (tk B (B 1)) (lossN B) → z = nI (dlN B f t (P i / 20) (P i % 20)) → dlN B f t (P i / 20) (P i % 20) ≤ 1755 → ∃ prices' rest'', (if z ≤ nI s.1 then fX7_renewed_91 (nI f) (nI t) (nI L) (nI (B 0)) (nI (B 2)) (nI m) pairs knots (nI (B 0)) links K F (nI s.1) s.2 (nI i + 1) pr' rest' else rdI 21 pairs (nI i) (fun x_27 => fX7_renewed_91 (nI f) (nI t) (nI L) (nI (B 0)) (nI (B 2)) (nI m) pairs knots (nI (B 0)) links K F z x_27 (nI i + 1) pr' rest')) = K (nI (fold1 (fun s i => rnG B f t s (P i / 20) (P i % 20)) (i + 1) k (rnG B f t s (P i / 20) (P i % 20))).1) (fold1 (fun s i => rnG B f t s (P i / 20) (P i % 20)) (i + 1) k (rnG B f t s (P i / 20) (P i % 20))).2 prices' rest'' := by
      intro z pr' rest' hp1 hz hd
      rw [nI_inc, hz]
      unfold rnG
      by_cases q : s.1 < dlN B f t (P i / 20) (P i % 20)
      · rw [if_neg (inle q (by omega)), rdI_nI (by omega) (by decide), (hL.2.2 i him).1, if_pos q, show 20 * (P i / 20) + P i % 20 = P i by omega]
        exact ih (i + 1) F (dlN B f t (P i / 20) (P i % 20), nI (P i)) pr' rest' (by omega) (by omega) hd hp1
      · rw [if_pos (ile (by omega) (by omega)), if_neg q]
        exact ih (i + 1) F s pr' rest' (by omega) (by omega) hs hp1
    by_cases q0 : B (42 + 12 * (P i / 20) + P i % 20) - 1 = 0
    · have hd0 : dlN B f t (P i / 20) (P i % 20) = 0 := by
        unfold dlN
        rw [setB_same (show B (42 + 12 * (P i / 20) + P i % 20) = 1 by omega) (by rw [← hsy.2.1]; omega), Nat.sub_self]
      rw [if_pos (by rw [q0]; rfl)]
      exact goal 0 prices rest hpr (by rw [hd0]; rfl) (by omega)
    · obtain ⟨L', pr', rest', c1, c2, c3, c4⟩ := less7 hL hB hl hpr hf ht him h1 e rest
      rw [if_neg (by rw [n0]; exact ine q0 (by omega) (by decide)), c1, bd3_some]
      exact goal (nI L - nI L') pr' rest' c2 (by rw [c4, pk_sub c3]) (by omega)
theorem renew8 {A : Nat → Int32} {B : Nat → Nat} (hM : MB A 0 B) (hB : WF B) {f t L h : Nat} (hf : f < B 0) (ht : t < B 0) (h1 : DS (qp (tk B (B 1)) no_one) (lossN B) t f (dd B (B 1) no_one t f)) (hL2 : L ≤ 1755) (e : dd B (B 1) no_one t f = some (L, h)) (K : Int32 → Int32 → (Nat → Int32) → (Nat → Int32) → (Nat → Int32) → Option (Int32 × Int32 × (Nat → Int32) × (Nat → Int32) × (Nat → Int32))) (s0 : Nat × Int32) (hs0 : s0.1 ≤ 1755) (tl tn : Nat → Int32) :
    ∃ tl' tn', fX8_renewed_78 (nI f) (nI t) (nI L) K FU (nI s0.1) s0.2 0 A tl tn = K (nI (fold2 (B 0) (fun s a b => if talkN B (B 1) a b then rnG B f t s a b else s) 0 (B 0) s0).1) (fold2 (B 0) (fun s a b => if talkN B (B 1) a b then rnG B f t s a b else s) 0 (B 0) s0).2 A tl' tn' := by
  have h12 := hB.1
  have hh := hB.2.2.1
  obtain ⟨tt, ⟨k1, k2, k3⟩, k4⟩ := loop2 (n := B 0) (g := fun s a b => if talkN B (B 1) a b then rnG B f t s a b else s) (fun (s : Nat × Int32) (u : Int32 × Int32 × (Nat → Int32) × (Nat → Int32)) => u.1 = nI s.1 ∧ u.2.1 = s.2 ∧ s.1 ≤ 1755)
    (fun F u a => fX8_renewed_78 (nI f) (nI t) (nI L) K F u.1 u.2.1 (nI a) A u.2.2.1 u.2.2.2)
    (fun F G u a b => fX8_renewed_95 (nI f) (nI t) (nI L) (nI a) (fun (w_47 : Int32) (w_48 : Int32) (t_all_49 : Nat → Int32) (t_loss_50 : Nat → Int32) (t_hops_51 : Nat → Int32) => fX8_renewed_78 (nI f) (nI t) (nI L) K F w_47 w_48 (nI (a + 1)) t_all_49 t_loss_50 t_hops_51) G u.1 u.2.1 (nI b) A u.2.2.1 u.2.2.2)
    (fun u => K u.1 u.2.1 A u.2.2.1 u.2.2.2) (FU_big (by omega))
    (fun F s u hR => by rw [fX8_renewed_78, rdA0 hM, if_pos (ile (by omega) (by omega))])
    (fun F s u a ha hR => by rw [fX8_renewed_78, rdA0 hM, if_neg (inle ha (by omega)), bnd_e, nI_inc])
    (fun F G s u a ha hR => by rw [fX8_renewed_95, rdA0 hM, if_pos (ile (by omega) (by omega))])
    (fun F G s u a b hab hb hR => by
      obtain ⟨u1, u2, u3, u4⟩ := u
      obtain ⟨r1, r2, r3⟩ := hR
      dsimp only at r1 r2 r3
      subst r1 r2
      dsimp only
      rw [fX8_renewed_95, rdA0 hM, if_neg (inle hb (by omega)), rdA1 hM, talks8 hM hB (by omega) (by omega) (by omega), bd1_some, bI_0', nI_inc]
      cases htk : talkN B (B 1) a b with
      | false => exact ⟨(nI s.1, s.2, u3, u4), ⟨rfl, rfl, r3⟩, rfl⟩
      | true =>
        have htie : tied B a b = true := by have := htk; unfold talkN at this; rw [Bool.and_eq_true] at this; exact this.1
        have hB' : WF (setB B a b 1) := WF_set hB hab hb (by omega) (Or.inr (Or.inl htie))
        have e0 : setB B a b 1 0 = B 0 := setB_lo B (by omega)
        have e1 : setB B a b 1 1 = B 1 := setB_lo B (by omega)
        have hsy := hB.2.2.2.2.2.2.2.2.2.1 a b (by omega) (by omega)
        obtain ⟨A1, s1, s2, s3⟩ := sets8 (a := a) (b := b) (v := 1) hM (show 186 ≤ 558 by decide) (by decide) (by omega) (by omega)
        have hbk : fX8_sets 558 A1 (nI a) (nI b) (nI (B (42 + 12 * a + b))) = some A := back (x := nI (B (42 + 12 * a + b))) (show a < 12 by omega) (show b < 12 by omega) (MB_at hM (by omega)) (by rw [MB_at hM (by omega), hsy.2.1]) s1
        replace s1 : fX8_sets 558 A (nI a) (nI b) 1 = some A1 := s1
        obtain ⟨tl', tn', c1, c2⟩ := lay8_0 s2 hB' (hr := B 1) (t := t) (by omega) (by rw [e0]; exact ht) u3 u4
        obtain ⟨L', h', d1, d2, d3⟩ := less_ok hB hab hb htie h1 (c2 f (by omega)).1 e
        have hlf : tl' f = nI L' := by rw [(c2 f (by omega)).2.2.1, d1]; rfl
        rw [if_pos rfl, idx8, rd_MB hM (by omega) (by omega) (by decide), s1, bd1_some, rdA1 s2, e1, c1, bd2_some, hbk, bd1_some, rdI_nI (by omega) (by decide), hlf, rdI_nI (by omega) (by decide), hlf, bnd_e, bnd_e, pk_sub d2, ← d3, lit 20, pk_mul, nI_add]
        rw [if_pos rfl]
        unfold rnG
        by_cases q : s.1 < dlN B f t a b
        · rw [if_pos (ilt q (by omega)), if_pos q]
          exact ⟨(nI (dlN B f t a b), nI (20 * a + b), tl', tn'), ⟨rfl, rfl, by omega⟩, rfl⟩
        · rw [if_neg (inlt (by omega) (by omega)), if_neg q]
          exact ⟨(nI s.1, s.2, tl', tn'), ⟨rfl, rfl, r3⟩, rfl⟩)
    (B 0) 0 s0 (nI s0.1, s0.2, tl, tn) FU (by omega) (FU_big (by omega)) ⟨rfl, rfl, hs0⟩
  refine ⟨tt.2.2.1, tt.2.2.2, ?_⟩
  rw [← k1, ← k2]
  exact k4
theorem st_renewed : Step_renewed Rel0 := by
  intro w0 w1 w2 w3 w4 w5 w6 w7 w8 w9 w10 w11 xt xn xf xp rs rz rv made im all has mt mn mf mp so ma nu y0 y1 y2 y3 th ml mh v u hR
  obtain ⟨⟨B, hB, hM, hC⟩, hT, hF, hRw, hI⟩ := id hR
  obtain ⟨e0, e4, e2, e3, e5, e1, ⟨m, P, em, hL⟩, hc, hw⟩ := id hC
  dsimp only at e0 e4 e2 e3 e5 e1 em hL hc hw
  subst e0 e4 e2 e3 e5 e1 em
  have h12 := hB.1
  have h21 := hL.1
  have hh := hB.2.2.1
  unfold fX7_renewed fX8_renewed
  rw [hasP_eq h12, bd1_some, isPair8 hM hB, bd1_some, Int32.toInt_toInt64, bI_0', bI_0']
  cases hv : pairZ (B 0) v.toInt with
  | false => exact ⟨-2, y0, y1, y2, y3, 0, all, ml, mh, rfl, rfl, hR⟩
  | true =>
    obtain ⟨a, b, hab, hb, rfl⟩ := pairZ_of h12 hv
    rw [if_pos rfl, if_pos rfl, show (1 : Int64) = lN 1 from rfl]
    rcases within_rng u (show 1 < 2 ^ 31 by decide) with ⟨h1, h2⟩ | ⟨h1, h2, h3⟩ | ⟨k, hk, rfl, r1, r2, r3⟩
    · rw [if_pos h1, h2]
      exact ⟨-2, y0, y1, y2, y3, 0, all, ml, mh, rfl, rfl, hR⟩
    · rw [if_neg h1, if_neg (show ¬ u ≤ 1 from h2), h3]
      exact ⟨-2, y0, y1, y2, y3, 0, all, ml, mh, rfl, rfl, hR⟩
    · obtain ⟨l', q', t1, t2, t3⟩ := take_ok hL hB hw (show B 1 < 100000 by omega) y0 y1 y2
      obtain ⟨rest, g1, g2⟩ := meas7_0 hB t2 t3 hb y3
      obtain ⟨tl, tn, g3, g4⟩ := lay8_0 hM hB (show B 1 < 100000 by omega) hb ml mh
      rw [if_neg r1, if_pos (show nI k ≤ 1 from r2), r3, bd1_some, if_neg (show ¬ (1 : Int32) = 0 by decide), les_nI (by omega), bd1_some, gre_nI (by omega), bd1_some, show (20 * a + b) / 20 = a by omega, show (20 * a + b) % 20 = b by omega, t1, bd3_some, g1, bd1_some, lossF7 (by omega) (g2 a (by omega)).2.1 (g2 a (by omega)).2.2, bd1_some, bnd_e, bnd_e, rem20 (by omega) (by omega), div20 (by omega) (by omega), rdA1 hM, g3, bd2_some, rdI_nI (by omega) (by decide), (g4 a (by omega)).2.2.1]
      cases hd : dd B (B 1) no_one b a with
      | none => exact ⟨-5, nI (B 0), l', q', rest, 0, all, tl, tn, if_pos rfl, if_pos rfl, hR⟩
      | some d =>
        obtain ⟨L, h⟩ := d
        obtain ⟨b1, b2⟩ := (g2 a (by omega)).2.1 L h hd
        rw [if_neg (show ¬ lssI (some (L, h)) = -1 from m1_ne (by omega)), if_neg (show ¬ encL (some (L, h)) = 1000000 by show ¬ nI L = 1000000; rw [lit 1000000]; exact ine (by omega) (by omega) (by decide))]
        obtain ⟨pr', rest', c1⟩ := renew7 hL hB t2 (show a < B 0 by omega) hb (g2 a (by omega)).1 b2 hd (fun (w_34 : Int32) (w_35 : Int32) (wy_prices_36 : Nat → Int32) (wy_rest_37 : Nat → Int32) => if nI k = 0 then some (w_34, nI (B 0), l', wy_prices_36, wy_rest_37) else some (w_35, nI (B 0), l', wy_prices_36, wy_rest_37)) m 0 FU (0, -1) q' rest (by omega) (FU_big (by omega)) (by show 0 ≤ 1755; omega) t3
        obtain ⟨tl', tn', c2⟩ := renew8 hM hB (show a < B 0 by omega) hb (g2 a (by omega)).1 b2 hd (fun (w_52 : Int32) (w_53 : Int32) (t_all_54 : Nat → Int32) (t_loss_55 : Nat → Int32) (t_hops_56 : Nat → Int32) => if nI k = 0 then some (w_52, (0 : Int32), t_all_54, t_loss_55, t_hops_56) else some (w_53, (0 : Int32), t_all_54, t_loss_55, t_hops_56)) (0, -1) (by show 0 ≤ 1755; omega) tl tn
        have hfold : fold2 (B 0) (fun s a' b' => if talkN B (B 1) a' b' then rnG B a b s a' b' else s) 0 (B 0) (0, -1) = fold1 (fun s i => rnG B a b s (P i / 20) (P i % 20)) 0 m (0, -1) := by
          rw [← fold_list (t := fun x y => tied B x y) (rnG B a b) h12 hL.2.1.1 hL.2.1.2.1 hL.2.1.2.2]
          refine fold2_congr _ _ _ (fun x y s _ hxy hy => ?_)
          cases ht1 : tied B x y with
          | false =>
            have : talkN B (B 1) x y = false := by unfold talkN; rw [ht1]; rfl
            rw [this]
          | true =>
            cases ht2 : talkN B (B 1) x y with
            | true => rfl
            | false =>
              rw [if_neg (by decide), if_pos rfl]
              unfold rnG
              rw [dl_slack hB (by omega) (by omega) ht1 ht2, if_neg (by omega)]
        rw [hfold] at c2
        replace c1 : fX7_renewed_91 (nI a) (nI b) (nI L) (nI (B 0)) (nI (B 2)) (nI m) w10 w11 (nI (B 0)) l' (fun (w_34 : Int32) (w_35 : Int32) (wy_prices_36 : Nat → Int32) (wy_rest_37 : Nat → Int32) => if nI k = 0 then some (w_34, nI (B 0), l', wy_prices_36, wy_rest_37) else some (w_35, nI (B 0), l', wy_prices_36, wy_rest_37)) FU 0 (-1) 0 q' rest = _ := c1
        by_cases q0 : nI k = 0
        · exact ⟨_, nI (B 0), l', pr', rest', 0, all, tl', tn', c1.trans (if_pos q0), Eq.trans c2 (if_pos q0), hR⟩
        · exact ⟨_, nI (B 0), l', pr', rest', 0, all, tl', tn', c1.trans (if_neg q0), Eq.trans c2 (if_neg q0), hR⟩
