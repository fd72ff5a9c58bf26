-- uses:
/-! a line as the class reads it -/
theorem bd9_some {A1 A2 A3 A4 A5 A6 A7 A8 A9 δ : Type} (a1 : A1) (a2 : A2) (a3 : A3) (a4 : A4) (a5 : A5) (a6 : A6) (a7 : A7) (a8 : A8) (a9 : A9) (k : A1 → A2 → A3 → A4 → A5 → A6 → A7 → A8 → A9 → Option δ) : bd9 (some (a1, a2, a3, a4, a5, a6, a7, a8, a9)) k = k a1 a2 a3 a4 a5 a6 a7 a8 a9 := rfl
def CX (B : Nat → Nat) (cw cs cd ch cst : Int32) (cc cwp cwh cp ck : Nat → Int32) : Prop :=
  cw = nI (B 0) ∧ cs = nI (B 4) ∧ cd = nI (B 2) ∧ ch = nI (B 3) ∧ (∃ m P, cst = nI m ∧ CL m P cp ck B) ∧ (∀ w, w < B 0 → cc w = nI (B (6 + w))) ∧ CWs cwp cwh B ∧ (B 0 = 0 → ∀ w, w < 12 → cc w = nI 3)
theorem CL_same {B B' : Nat → Nat} (h0 : B' 0 = B 0) (hge : ∀ j, 42 ≤ j → B' j = B j) {m : Nat} {P : Nat → Nat} {pairs knots : Nat → Int32} (hC : CL m P pairs knots B) : CL m P pairs knots B' := by
  have ht : ∀ a b, tied B' a b = tied B a b := fun a b => by unfold tied; rw [hge _ (by omega)]
  refine ⟨hC.1, ⟨fun i hi => ?_, hC.2.1.2.1, fun a b hab hb ht' => hC.2.1.2.2 a b hab (by rw [← h0]; exact hb) (by rw [← ht]; exact ht')⟩, fun i hi => ?_⟩
  · have := hC.2.1.1 i hi; rw [h0, ht]; exact this
  · have := hC.2.2 i hi; rw [hge _ (by omega)]; exact this
theorem CWs_same {B B' : Nat → Nat} (h8 : B 4 ≤ 8) (h4 : B' 4 = B 4) (hge : ∀ j, 18 ≤ j → j < 42 → B' j = B j) {p q : Nat → Int32} (hC : CWs p q B) : CWs p q B' := by
  intro k hk
  have := hC k (by rw [← h4]; exact hk)
  rw [hge _ (by omega) (by omega), hge _ (by omega) (by omega), hge _ (by omega) (by omega)]; exact this
theorem WF_zero {B : Nat → Nat} (hB : WF B) (h0 : B 0 = 0) : B 4 = 0 ∧ ∀ a b, a < 12 → b < 12 → B (42 + 12 * a + b) = 0 := by
  refine ⟨?_, fun a b ha hb => ?_⟩
  · rcases Nat.eq_zero_or_pos (B 4) with h | h
    · exact h
    · have := hB.2.2.2.2.2.2.2.2.1 0 h; omega
  · rcases Nat.eq_zero_or_pos (B (42 + 12 * a + b)) with h | h
    · exact h
    · have := (hB.2.2.2.2.2.2.2.2.2.1 a b ha hb).2.2 h; omega
theorem WF_win {B : Nat → Nat} (hB : WF B) (h0 : B 0 = 0) {u : Nat} (h3 : 3 ≤ u) (h12 : u ≤ 12) : WF (winB B u) := by
  obtain ⟨z1, z2⟩ := WF_zero hB h0
  obtain ⟨g0, g0', g1, g2, g3, g4, g5, g6, g7, g8, g9⟩ := hB
  have e0 : winB B u 0 = u := if_pos rfl
  have eo : ∀ j, j ≠ 0 → ¬ (6 ≤ j ∧ j < 18) → winB B u j = B j := fun j h1 h2 => by unfold winB; rw [if_neg h1, if_neg h2]
  have ec : ∀ w, w < 12 → winB B u (6 + w) = 3 := fun w hw => by unfold winB; rw [if_neg (by omega), if_pos (by omega)]
  refine ⟨by rw [e0]; exact h12, by rw [e0]; exact Or.inr h3, by rw [eo 1 (by omega) (by omega)]; exact g1, by rw [eo 2 (by omega) (by omega)]; exact g2, by rw [eo 3 (by omega) (by omega)]; exact g3, by rw [eo 4 (by omega) (by omega)]; exact g4, by rw [eo 5 (by omega) (by omega)]; exact g5, fun w hw => by rw [ec w hw]; omega, fun k hk => ?_, fun a b ha hb => ?_, fun a b c d hab hb hcd hd t1 t2 => ?_⟩
  · rw [eo 4 (by omega) (by omega), z1] at hk; omega
  · rw [eo _ (by omega) (by omega), eo _ (by omega) (by omega), z2 a b ha hb, z2 b a hb ha]; exact ⟨by omega, rfl, fun h => by omega⟩
  · rw [e0] at hb hd
    unfold tied at t1
    rw [eo _ (by omega) (by omega), z2 a b (by omega) (by omega)] at t1
    exact absurd t1 (by decide)
theorem WF_can {B : Nat → Nat} (hB : WF B) {w u : Nat} (hw : w < 12) (hu : u ≤ 11) : WF (va_up B (6 + w) u) := by
  obtain ⟨g0, g0', g1, g2, g3, g4, g5, g6, g7, g8, g9⟩ := hB
  have eo : ∀ j, j < 6 ∨ 18 ≤ j → va_up B (6 + w) u j = B j := fun j h => va_up_ne B u (by omega)
  have et : ∀ a b, tied (va_up B (6 + w) u) a b = tied B a b := fun a b => by unfold tied; rw [eo _ (by omega)]
  refine ⟨by rw [eo 0 (by omega)]; exact g0, by rw [eo 0 (by omega)]; exact g0', by rw [eo 1 (by omega)]; exact g1, by rw [eo 2 (by omega)]; exact g2, by rw [eo 3 (by omega)]; exact g3, by rw [eo 4 (by omega)]; exact g4, by rw [eo 5 (by omega)]; exact g5, fun w' hw' => ?_, fun k hk => ?_, fun a b ha hb => ?_, fun a b c d hab hb hcd hd t1 t2 => ?_⟩
  · unfold va_up
    by_cases q : 6 + w' = 6 + w
    · rw [if_pos q]; exact hu
    · rw [if_neg q]; exact g6 w' hw'
  · rw [eo 4 (by omega)] at hk
    rw [eo 0 (by omega), eo _ (by omega), eo _ (by omega), eo _ (by omega)]; exact g7 k hk
  · rw [eo 0 (by omega), eo _ (by omega), eo _ (by omega)]; exact g8 a b ha hb
  · rw [eo 0 (by omega)] at hb hd
    rw [et] at t1 t2
    exact g9 a b c d hab hb hcd hd t1 t2
theorem wshB_at {B : Nat → Nat} {a b h : Nat} (h8 : B 4 < 8) : wshB B a b h 4 = B 4 + 1 ∧ wshB B a b h (18 + 3 * B 4) = a ∧ wshB B a b h (18 + 3 * B 4 + 1) = b ∧ wshB B a b h (18 + 3 * B 4 + 2) = h ∧ ∀ j, j ≠ 4 → ¬ (18 + 3 * B 4 ≤ j ∧ j ≤ 18 + 3 * B 4 + 2) → wshB B a b h j = B j := by
  unfold wshB va_up
  refine ⟨by rw [if_pos rfl], ?_, ?_, ?_, fun j h1 h2 => ?_⟩
  · rw [if_neg (by omega), if_neg (by omega), if_neg (by omega), if_pos rfl]
  · rw [if_neg (by omega), if_neg (by omega), if_pos rfl]
  · rw [if_neg (by omega), if_pos rfl]
  · rw [if_neg h1, if_neg (by omega), if_neg (by omega), if_neg (by omega)]
theorem WF_wsh {B : Nat → Nat} (hB : WF B) {a b h : Nat} (h8 : B 4 < 8) (ha : a < B 0) (hb : b < B 0) (hab : nearB (B 0) a b = false) (hh : h ≤ 4095) : WF (wshB B a b h) := by
  obtain ⟨w4, wa, wb, wh, wo⟩ := wshB_at (a := a) (b := b) (h := h) h8
  have hne : a ≠ b := fun e => by
    unfold nearB at hab
    have := of_decide_eq_false hab
    rw [e] at this
    omega
  obtain ⟨g0, g0', g1, g2, g3, g4, g5, g6, g7, g8, g9⟩ := hB
  have et : ∀ a' b', tied (wshB B a b h) a' b' = tied B a' b' := fun a' b' => by unfold tied; rw [wo _ (by omega) (by omega)]
  refine ⟨by rw [wo 0 (by omega) (by omega)]; exact g0, by rw [wo 0 (by omega) (by omega)]; exact g0', by rw [wo 1 (by omega) (by omega)]; exact g1, by rw [wo 2 (by omega) (by omega)]; exact g2, by rw [wo 3 (by omega) (by omega)]; exact g3, by rw [w4]; omega, by rw [wo 5 (by omega) (by omega)]; exact g5, fun w hw => by rw [wo _ (by omega) (by omega)]; exact g6 w hw, fun k hk => ?_, fun c d hc hd => ?_, fun c d e f hcd hd hef hf t1 t2 => ?_⟩
  · rw [w4] at hk
    rw [wo 0 (by omega) (by omega)]
    by_cases q : k = B 4
    · rw [q, wa, wb, wh]; exact ⟨ha, hb, hne, hh⟩
    · rw [wo _ (by omega) (by omega), wo _ (by omega) (by omega), wo _ (by omega) (by omega)]; exact g7 k (by omega)
  · rw [wo 0 (by omega) (by omega), wo _ (by omega) (by omega), wo _ (by omega) (by omega)]; exact g8 c d hc hd
  · rw [wo 0 (by omega) (by omega)] at hd hf
    rw [et] at t1 t2
    exact g9 c d e f hcd hd hef hf t1 t2
theorem line7 {xt mt : Nat → Int32} {x B : Nat → Nat} {n p : Nat} (hT : TP xt mt x n) (hB : WF B) (hp : p ≤ n) (v pl : Int32) {cw cs cd ch cst : Int32} {cc cwp cwh cp ck : Nat → Int32} (hC : CX B cw cs cd ch cst cc cwp cwh cp ck) :
    (∃ f st a k s v' c1 c2 c3 c4 c5 c6 c7 c8 c9 c10, bad7 (lineR x n p B) f st n ∧ fX3_readLine xt (nI n) (nI (enT x n p)) (nI (kT x n p)) (nI (stp x n p)) v 0 pl cw cs cd ch cst cc cwp cwh cp ck = some (a, k, s, v', nI f, nI st, c1, c2, c3, c4, c5, c6, c7, c8, c9, c10)) ∨
    ∃ q' B' v' c1 c2 c3 c4 c5 c6 c7 c8 c9 c10, good7 x n (enT x n p) (lineR x n p B) q' B' ∧ WF B' ∧ (B' 5 = B 5 ∧ B' 1 = B 1) ∧ CX B' c1 c2 c3 c4 c5 c6 c7 c8 c9 c10 ∧ fX3_readLine xt (nI n) (nI (enT x n p)) (nI (kT x n p)) (nI (stp x n p)) v 0 pl cw cs cd ch cst cc cwp cwh cp ck = some (nI (enT x n q'), nI (kT x n q'), nI (stp x n q'), v', 0, pl, c1, c2, c3, c4, c5, c6, c7, c8, c9, c10) := by
  obtain ⟨e1, e2, e3, e4, ⟨m, P, e5, hL⟩, hc, hw, hz⟩ := id hC
  subst e1 e2 e3 e4 e5
  have h12 := hB.1
  have h03 := hB.2.1
  have h48 := hB.2.2.2.2.2.1
  have he := en_le (x := x) hp
  have hs := stp_le (x := x) hp
  have hq : enT x n p ≤ n := he.2.1
  unfold fX3_readLine lineR
  rw [isWord7 hT hp (show 0 < 7 by decide), bd1_some, jn_eq, isWord7 hT hp (show 1 < 7 by decide), bd1_some, isWord7 hT hp (show 2 < 7 by decide), bd1_some, isWord7 hT hp (show 3 < 7 by decide), bd1_some, isWord7 hT hp (show 4 < 7 by decide), bd1_some, isWord7 hT hp (show 5 < 7 by decide), bd1_some]
  simp only [bI_0', ref7_0, bd2_some]
  cases w0 : wdT x n p 0 with
  | true =>
    simp only [if_true]
    by_cases q0 : 0 < B 0
    · rw [if_neg (show ¬ nI (B 0) ≤ 0 from inle (b := 0) q0 (by omega)), if_pos q0]
      exact Or.inl ⟨4, _, _, _, _, _, _, _, _, _, _, _, _, _, _, _, ⟨rfl, by omega, by omega, hs.2⟩, rfl⟩
    · have h0 : B 0 = 0 := by omega
      obtain ⟨z1, z2⟩ := WF_zero hB h0
      rw [if_pos (show nI (B 0) ≤ 0 from ile (b := 0) (by omega) (by decide)), if_neg q0]
      rcases win7 (B := B) hT hq (nI (kT x n p)) (nI (stp x n p)) v pl (nI (B 0)) with ⟨f, st, a, k', s', v', w', j1, j2⟩ | ⟨q', u, v', j1, j2, j3, j4⟩
      · rw [j2, bd7_some]
        exact Or.inl ⟨f, st, _, _, _, _, _, _, _, _, _, _, _, _, _, _, j1, rfl⟩
      · rw [j4, bd7_some]
        have e0 : winB B u 0 = u := if_pos rfl
        have eo : ∀ j, j ≠ 0 → ¬ (6 ≤ j ∧ j < 18) → winB B u j = B j := fun j h1 h2 => by unfold winB; rw [if_neg h1, if_neg h2]
        refine Or.inr ⟨q', winB B u, v', _, _, _, _, _, _, _, _, _, _, j1, WF_win hB h0 j2 j3, ⟨eo 5 (by omega) (by omega), eo 1 (by omega) (by omega)⟩, ⟨by rw [e0], by rw [eo 4 (by omega) (by omega)], by rw [eo 2 (by omega) (by omega)], by rw [eo 3 (by omega) (by omega)], ⟨m, P, rfl, hL.1, ⟨fun i hi => ?_, hL.2.1.2.1, fun a b hab hb ht => ?_⟩, fun i hi => ?_⟩, fun w hw2 => ?_, ?_, fun h => by rw [e0] at h; omega⟩, rfl⟩
        · have := hL.2.1.1 i hi; omega
        · rw [e0] at hb
          unfold tied at ht
          rw [eo _ (by omega) (by omega), z2 a b (by omega) (by omega)] at ht
          exact absurd ht (by decide)
        · have := hL.2.1.1 i hi; omega
        · rw [e0] at hw2
          rw [hz h0 w (by omega)]
          unfold winB
          rw [if_neg (by omega), if_pos (by omega)]
        · intro k hk
          rw [eo 4 (by omega) (by omega), z1] at hk; omega
  | false =>
    simp only [Bool.false_eq_true, if_false]
    by_cases q0 : B 0 = 0
    · rw [if_pos (show nI (B 0) = 0 by rw [q0]; rfl), if_pos q0]
      exact Or.inl ⟨2, _, _, _, _, _, _, _, _, _, _, _, _, _, _, _, ⟨rfl, by omega, by omega, hs.2⟩, rfl⟩
    · have h3 : 3 ≤ B 0 := by omega
      rw [if_neg (show ¬ nI (B 0) = 0 from ine (b := 0) q0 (by omega) (by decide)), if_neg q0]
      cases w1 : wdT x n p 1 with
      | true =>
        simp only [if_true]
        rcases can7 hT hB h3 hq (nI (kT x n p)) (nI (stp x n p)) v pl cc with ⟨f, st, a, k', s', v', c', j1, j2⟩ | ⟨q', w, u, v', j1, j2, j3, j4⟩
        · rw [j2, bd7_some]
          exact Or.inl ⟨f, st, _, _, _, _, _, _, _, _, _, _, _, _, _, _, j1, rfl⟩
        · rw [j4, bd7_some]
          have eo : ∀ j, j < 6 ∨ 18 ≤ j → va_up B (6 + w) u j = B j := fun j h => va_up_ne B u (by omega)
          refine Or.inr ⟨q', va_up B (6 + w) u, v', _, _, _, _, _, _, _, _, _, _, j1, WF_can hB (by omega) j3, ⟨eo 5 (by omega), eo 1 (by omega)⟩, ⟨by rw [eo 0 (by omega)], by rw [eo 4 (by omega)], by rw [eo 2 (by omega)], by rw [eo 3 (by omega)], ⟨m, P, rfl, CL_same (eo 0 (by omega)) (fun j hj => eo j (by omega)) hL⟩, fun w' hw2 => ?_, CWs_same h48 (eo 4 (by omega)) (fun j h1 h2 => eo j (by omega)) hw, fun h => by rw [eo 0 (by omega)] at h; omega⟩, rfl⟩
          rw [eo 0 (by omega)] at hw2
          unfold upd va_up
          by_cases q : w' = w
          · rw [if_pos q, if_pos (by omega)]
          · rw [if_neg q, if_neg (by omega)]; exact hc w' hw2
      | false =>
        simp only [Bool.false_eq_true, if_false]
        cases w2 : wdT x n p 2 with
        | true =>
          simp only [if_true]
          by_cases q8 : B 4 = 8
          · rw [if_pos q8]
            unfold fX3_readWash
            rw [if_neg (show ¬ nI (B 4) < 8 from inlt (b := 8) (by omega) (by omega)), ref7_0, bd2_some, bd9_some]
            exact Or.inl ⟨4, _, _, _, _, _, _, _, _, _, _, _, _, _, _, _, ⟨rfl, by omega, by omega, hs.2⟩, rfl⟩
          · rw [if_neg q8]
            rcases wash7 hT hB h3 (show B 4 < 8 by omega) hq (nI (kT x n p)) (nI (stp x n p)) v pl cwp cwh with ⟨f, st, a, k', s', v', c1, c2, c3, j1, j2⟩ | ⟨q', a, b, h, v', j1, j2, j3, j5, j6, j4⟩
            · rw [j2, bd9_some]
              exact Or.inl ⟨f, st, _, _, _, _, _, _, _, _, _, _, _, _, _, _, j1, rfl⟩
            · rw [j4, bd9_some]
              obtain ⟨y4, ya, yb, yh, yo⟩ := wshB_at (a := a) (b := b) (h := h) (show B 4 < 8 by omega)
              refine Or.inr ⟨q', wshB B a b h, v', _, _, _, _, _, _, _, _, _, _, j1, WF_wsh hB (by omega) j2 j3 j5 j6, ⟨yo 5 (by omega) (by omega), yo 1 (by omega) (by omega)⟩, ⟨by rw [yo 0 (by omega) (by omega)], by rw [y4], by rw [yo 2 (by omega) (by omega)], by rw [yo 3 (by omega) (by omega)], ⟨m, P, rfl, CL_same (yo 0 (by omega) (by omega)) (fun j hj => yo j (by omega) (by omega)) hL⟩, fun w hw2 => ?_, fun k hk => ?_, fun h => by rw [yo 0 (by omega) (by omega)] at h; omega⟩, rfl⟩
              · rw [yo 0 (by omega) (by omega)] at hw2
                rw [yo _ (by omega) (by omega)]; exact hc w hw2
              · rw [y4] at hk
                unfold upd
                by_cases q : k = B 4
                · rw [q, if_pos rfl, if_pos rfl, ya, yb, yh]; exact ⟨rfl, rfl⟩
                · rw [if_neg q, if_neg q, yo _ (by omega) (by omega), yo _ (by omega) (by omega), yo _ (by omega) (by omega)]; exact hw k (by omega)
        | false =>
          simp only [Bool.false_eq_true, if_false]
          cases w3 : wdT x n p 3 with
          | true =>
            simp only [if_true]
            rcases onum7 (B := B) (lo := 0) (hi := 20) (j := 2) hT hq (by omega) (by omega) (nI (kT x n p)) (nI (stp x n p)) v pl with ⟨f, st, r, a, k', s', v', f1, pl1, a2, k2, s2, v2, j1, j2, j3⟩ | ⟨q', u, a, k', s', v', v2, j1, j2, j3, j4, j5⟩
            · replace j2 : fX3_readNumber xt (nI n) (nI (enT x n p)) (nI (kT x n p)) (nI (stp x n p)) v 0 pl 0 20 = _ := j2
              rw [j2, bd7_some, j3, bd6_some]
              exact Or.inl ⟨f, st, _, _, _, _, _, _, _, _, _, _, _, _, _, _, j1, rfl⟩
            · replace j4 : fX3_readNumber xt (nI n) (nI (enT x n p)) (nI (kT x n p)) (nI (stp x n p)) v 0 pl 0 20 = _ := j4
              rw [j4, bd7_some, j5, bd6_some]
              have ag : AG B (va_up B 2 u) := AG_up (by omega)
              have h1 := hB.2.2
              refine Or.inr ⟨q', va_up B 2 u, v2, _, _, _, _, _, _, _, _, _, _, j1, ag.WF hB (by rw [up_ne B (by omega)]; exact h1.1) (by rw [up_at]; omega) (by rw [up_ne B (by omega)]; exact h1.2.2.1) (by rw [up_ne B (by omega)]; exact h1.2.2.2.2.1), ⟨up_ne B (by omega), up_ne B (by omega)⟩, ⟨by rw [ag.1], by rw [ag.2.1], by rw [up_at], by rw [up_ne B (by omega)], ⟨m, P, rfl, ag.CL hL⟩, fun w h => ?_, ag.CWs hw, fun h => by rw [ag.1] at h; omega⟩, rfl⟩
              rw [ag.2.2 _ (by omega)]; exact hc w (by rw [← ag.1]; exact h)
          | false =>
            simp only [Bool.false_eq_true, if_false]
            cases w4 : wdT x n p 4 with
            | true =>
              simp only [if_true]
              rcases onum7 (B := B) (lo := 1) (hi := 999) (j := 3) hT hq (by omega) (by omega) (nI (kT x n p)) (nI (stp x n p)) v pl with ⟨f, st, r, a, k', s', v', f1, pl1, a2, k2, s2, v2, j1, j2, j3⟩ | ⟨q', u, a, k', s', v', v2, j1, j2, j3, j4, j5⟩
              · replace j2 : fX3_readNumber xt (nI n) (nI (enT x n p)) (nI (kT x n p)) (nI (stp x n p)) v 0 pl 1 999 = _ := j2
                rw [j2, bd7_some, j3, bd6_some]
                exact Or.inl ⟨f, st, _, _, _, _, _, _, _, _, _, _, _, _, _, _, j1, rfl⟩
              · replace j4 : fX3_readNumber xt (nI n) (nI (enT x n p)) (nI (kT x n p)) (nI (stp x n p)) v 0 pl 1 999 = _ := j4
                rw [j4, bd7_some, j5, bd6_some]
                have ag : AG B (va_up B 3 u) := AG_up (by omega)
                have h1 := hB.2.2
                refine Or.inr ⟨q', va_up B 3 u, v2, _, _, _, _, _, _, _, _, _, _, j1, ag.WF hB (by rw [up_ne B (by omega)]; exact h1.1) (by rw [up_ne B (by omega)]; exact h1.2.1) (by rw [up_at]; omega) (by rw [up_ne B (by omega)]; exact h1.2.2.2.2.1), ⟨up_ne B (by omega), up_ne B (by omega)⟩, ⟨by rw [ag.1], by rw [ag.2.1], by rw [up_ne B (by omega)], by rw [up_at], ⟨m, P, rfl, ag.CL hL⟩, fun w h => ?_, ag.CWs hw, fun h => by rw [ag.1] at h; omega⟩, rfl⟩
                rw [ag.2.2 _ (by omega)]; exact hc w (by rw [← ag.1]; exact h)
            | false =>
              simp only [Bool.false_eq_true, if_false]
              cases w5 : wdT x n p 5 with
              | true =>
                simp only [if_true]
                rcases str7 hT hL hB h3 hc hq (nI (kT x n p)) (nI (stp x n p)) v pl with ⟨f, st, a, k', s', v', c1, c2, c3, j1, j2⟩ | ⟨q', a, b, kn, v', m', P', p', k', j1, j2, j3, j5, j6, j7, j4⟩
                · rw [j2, bd9_some]
                  exact Or.inl ⟨f, st, _, _, _, _, _, _, _, _, _, _, _, _, _, _, j1, rfl⟩
                · rw [j4, bd9_some]
                  obtain ⟨htie, hx⟩ := ref0 j6
                  have eo : ∀ j, j < 42 → setB B a b (kn + 1) j = B j := fun j h => setB_lo B h
                  refine Or.inr ⟨q', setB B a b (kn + 1), v', _, _, _, _, _, _, _, _, _, _, j1, WF_set hB j2 j3 (by omega) (Or.inr (Or.inr hx)), ⟨eo 5 (by omega), eo 1 (by omega)⟩, ⟨by rw [eo 0 (by omega)], by rw [eo 4 (by omega)], by rw [eo 2 (by omega)], by rw [eo 3 (by omega)], ⟨m', P', rfl, j7⟩, fun w hw2 => ?_, CWs_same h48 (eo 4 (by omega)) (fun j h1 h2 => eo j h2) hw, fun h => by rw [eo 0 (by omega)] at h; omega⟩, rfl⟩
                  rw [eo 0 (by omega)] at hw2
                  rw [eo _ (by omega)]; exact hc w hw2
              | false =>
                simp only [Bool.false_eq_true, if_false]
                exact Or.inl ⟨2, _, _, _, _, _, _, _, _, _, _, _, _, _, _, _, ⟨rfl, by omega, by omega, hs.2⟩, rfl⟩
