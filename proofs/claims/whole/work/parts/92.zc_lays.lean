-- uses:
/-! the model lays its losses -/
def MS (lo ho : Nat → Nat) (tl th : Nat → Int32) : Prop := ∀ v, v < 12 → tl v = nI (lo v) ∧ (lo v ≠ 1000000 → th v = nI (ho v))
def BI (q : Nat → Nat → Prop) (c : Nat → Nat → Nat) (t : Nat) (lo ho : Nat → Nat) : Prop :=
  (∀ v, v < 12 → lo v = 1000000 ∨ (wl q c t (ho v) (lo v) v ∧ ho v ≤ fb_ct (fun u => decide (lo u < lo v)) 12 ∧ lo v ≤ 135 * ho v)) ∧ lo t = 0 ∧ ho t = 0
def meas (lo ho : Nat → Nat) : Nat := fb_sm (fun v => if lo v = 1000000 then 16000000 else 16 * lo v + ho v) 12
theorem BI_le {q : Nat → Nat → Prop} {c : Nat → Nat → Nat} {t : Nat} {lo ho : Nat → Nat} (h : BI q c t lo ho) {v : Nat} (hv : v < 12) : lo v = 1000000 ∨ (wl q c t (ho v) (lo v) v ∧ ho v ≤ 11 ∧ lo v ≤ 1620) := by
  rcases h.1 v hv with e | ⟨h1, h2, h3⟩
  · exact Or.inl e
  · have g1 := ct_lt (p := fun u => decide (lo u < lo v)) (q := fun _ => true) 12 (fun k _ _ => rfl) ⟨v, hv, rfl, decide_eq_false (by omega)⟩
    have g2 := fb_ct_le (fun _ => true) 12
    exact Or.inr ⟨h1, by omega, by omega⟩
theorem relax {q : Nat → Nat → Prop} {c : Nat → Nat → Nat} {t : Nat} {lo ho : Nat → Nat} (h : BI q c t lo ho) {a b : Nat} (ha : a < 12) (hb : b < 12) (hab : a ≠ b) (hq : q a b) (hc1 : 1 ≤ c a b) (hc2 : c a b ≤ 135) (hbf : lo b ≠ 1000000) (hlt : lo b + c a b < lo a ∨ (lo a = lo b + c a b ∧ ho b + 1 < ho a)) :
    BI q c t (va_up lo a (lo b + c a b)) (va_up ho a (ho b + 1)) ∧ meas (va_up lo a (lo b + c a b)) (va_up ho a (ho b + 1)) < meas lo ho := by
  have hBb := BI_le h hb
  have hBa := BI_le h ha
  have hb2 := h.1 b hb
  have e1 : ∀ v, v ≠ a → va_up lo a (lo b + c a b) v = lo v := fun v hv => va_up_ne lo _ hv
  have e2 : ∀ v, v ≠ a → va_up ho a (ho b + 1) v = ho v := fun v hv => va_up_ne ho _ hv
  have e3 : va_up lo a (lo b + c a b) a = lo b + c a b := va_up_self lo a _
  have e4 : va_up ho a (ho b + 1) a = ho b + 1 := va_up_self ho a _
  have hta : t ≠ a := fun e => by
    have := h.2.1
    rw [e] at this; omega
  refine ⟨⟨fun v hv => ?_, by rw [e1 t hta]; exact h.2.1, by rw [e2 t hta]; exact h.2.2⟩, ?_⟩
  · by_cases q1 : v = a
    · subst q1
      rw [e3, e4]
      rcases hb2 with e | ⟨w1, w2, w3⟩
      · exact absurd e hbf
      · refine Or.inr ⟨⟨b, lo b, hq, w1, rfl⟩, ?_, by omega⟩
        have := ct_lt (p := fun u => decide (lo u < lo b)) (q := fun u => decide (va_up lo v (lo b + c v b) u < lo b + c v b)) 12 (fun k _ hk => by
          have hk' : lo k < lo b := of_decide_eq_true hk
          have hka : k ≠ v := fun e => by subst e; omega
          exact decide_eq_true (by rw [e1 k hka]; omega)) ⟨b, hb, decide_eq_true (by rw [e1 b (Ne.symm hab)]; omega), decide_eq_false (by omega)⟩
        omega
    · rw [e1 v q1, e2 v q1]
      rcases h.1 v hv with e | ⟨w1, w2, w3⟩
      · exact Or.inl e
      · refine Or.inr ⟨w1, Nat.le_trans w2 (fb_ct_sub (fun k _ hk => ?_)), w3⟩
        have hk' : lo k < lo v := of_decide_eq_true hk
        refine decide_eq_true ?_
        by_cases q2 : k = a
        · subst q2; rw [e3]; omega
        · rw [e1 k q2]; exact hk'
  · unfold meas
    have hs := fb_sm_upd (fun v => if lo v = 1000000 then 16000000 else 16 * lo v + ho v) (16 * (lo b + c a b) + (ho b + 1)) (i := a) (n := 12) ha
    have hcong : fb_sm (fun v => if va_up lo a (lo b + c a b) v = 1000000 then 16000000 else 16 * va_up lo a (lo b + c a b) v + va_up ho a (ho b + 1) v) 12 = fb_sm (fun k => if k = a then 16 * (lo b + c a b) + (ho b + 1) else if lo k = 1000000 then 16000000 else 16 * lo k + ho k) 12 := by
      refine fb_sm_cong (fun k hk => ?_)
      by_cases q2 : k = a
      · subst q2
        rw [e3, e4, if_pos rfl, if_neg (by omega)]
      · rw [e1 k q2, e2 k q2, if_neg q2]
    rw [hcong]
    have hx : 16 * (lo b + c a b) + (ho b + 1) < (if lo a = 1000000 then 16000000 else 16 * lo a + ho a) := by
      by_cases q2 : lo a = 1000000
      · rw [if_pos q2]; omega
      · rw [if_neg q2]; omega
    have hs' : fb_sm (fun k => if k = a then 16 * (lo b + c a b) + (ho b + 1) else if lo k = 1000000 then 16000000 else 16 * lo k + ho k) 12 + (if lo a = 1000000 then 16000000 else 16 * lo a + ho a) = fb_sm (fun v => if lo v = 1000000 then 16000000 else 16 * lo v + ho v) 12 + (16 * (lo b + c a b) + (ho b + 1)) := hs
    omega
def RX (q : Nat → Nat → Prop) (c : Nat → Nat → Nat) (lo ho : Nat → Nat) (a b : Nat) : Prop := q a b → lo b ≠ 1000000 → lo a < lo b + c a b ∨ (lo a = lo b + c a b ∧ ho a ≤ ho b + 1)
def SW (q : Nat → Nat → Prop) (c : Nat → Nat → Nat) (t : Nat) (lo0 ho0 : Nat → Nat) (a b : Nat) (l4 : Int32) (lo ho : Nat → Nat) : Prop :=
  BI q c t lo ho ∧ ((l4 = 0 ∧ lo = lo0 ∧ ho = ho0 ∧ ∀ a' b', a' < a ∨ (a' = a ∧ b' < b) → RX q c lo0 ho0 a' b') ∨ (l4 = 1 ∧ meas lo ho < meas lo0 ho0))
theorem SW_skip {q : Nat → Nat → Prop} {c : Nat → Nat → Nat} {t : Nat} {lo0 ho0 : Nat → Nat} {a b : Nat} {l4 : Int32} {lo ho : Nat → Nat} (h : SW q c t lo0 ho0 a b l4 lo ho) (hx : RX q c lo ho a b) : SW q c t lo0 ho0 a (b + 1) l4 lo ho := by
  refine ⟨h.1, ?_⟩
  rcases h.2 with ⟨e1, e2, e3, h4⟩ | h4
  · refine Or.inl ⟨e1, e2, e3, fun a' b' hh => ?_⟩
    subst e2 e3
    by_cases e : a' = a ∧ b' = b
    · rw [e.1, e.2]; exact hx
    · exact h4 a' b' (by omega)
  · exact Or.inr h4
theorem loss_bd {B : Nat → Nat} (hB : WF B) {hr a b : Nat} (h : tk B hr a b) : a < B 0 ∧ b < B 0 ∧ a ≠ b ∧ 1 ≤ lossN B a b ∧ lossN B a b ≤ 135 := by
  obtain ⟨h1, h2, h3⟩ := talk_in hB h.1 h.2.1 h.2.2
  have h12 := hB.1
  have g1 := bare_le hB h.1 h.2.1
  have g2 := (hB.2.2.2.2.2.2.2.2.2.1 a b h.1 h.2.1).1
  refine ⟨h2, h3, h1, ?_, ?_⟩
  · have : 1 ≤ lenN B a b := by
      unfold lenN
      exact Nat.mul_pos (by omega) (by omega)
    have h10 : 1 * 10 ≤ lenN B a b * (10 + B 2) := Nat.mul_le_mul this (by omega)
    unfold lossN bareN
    omega
  · unfold lossN
    split <;> omega
theorem lays_in {A : Nat → Int32} {B : Nat → Nat} (h : MB A 0 B) (hB : WF B) {hr t x a : Nat} (hh : hr < 100000) {pst : Nat → Prop} (hx : Bits x 12 pst) (ha : a < B 0) {lo0 ho0 : Nat → Nat} (K : Int32 → (Nat → Int32) → (Nat → Int32) → Option ((Nat → Int32) × (Nat → Int32))) :
    ∀ k b F l4 tl th lo ho, b + k = B 0 → k < F → MS lo ho tl th → SW (qp (tk B hr) pst) (lossN B) t lo0 ho0 a b l4 lo ho →
    ∃ l4' tl' th' lo' ho', fX8_laysLoss_70 (nI x) (nI hr) (nI a) A K F l4 (nI b) tl th = K l4' tl' th' ∧ MS lo' ho' tl' th' ∧ SW (qp (tk B hr) pst) (lossN B) t lo0 ho0 a (B 0) l4' lo' ho' := by
  have h12 := hB.1
  have hx30 : x < 2 ^ 30 := Nat.lt_of_lt_of_le hx.1 (by decide)
  intro k
  induction k with
  | zero =>
    intro b F l4 tl th lo ho hi hF hM hS
    obtain ⟨F, rfl⟩ : ∃ m, F = m + 1 := ⟨F - 1, by omega⟩
    obtain rfl : b = B 0 := by omega
    exact ⟨l4, tl, th, lo, ho, by rw [fX8_laysLoss_70, show (0 : Int32) = nI 0 from rfl, rd_MB h (by omega) (by omega) (by decide), if_pos (ile (by omega) (by omega))], hM, hS⟩
  | succ k ih =>
    intro b F l4 tl th lo ho hi hF hM hS
    obtain ⟨F, rfl⟩ : ∃ m, F = m + 1 := ⟨F - 1, by omega⟩
    have hb : b < B 0 := by omega
    have skip : RX (qp (tk B hr) pst) (lossN B) lo ho a b → ∃ l4' tl' th' lo' ho', fX8_laysLoss_70 (nI x) (nI hr) (nI a) A K F l4 (nI (b + 1)) tl th = K l4' tl' th' ∧ MS lo' ho' tl' th' ∧ SW (qp (tk B hr) pst) (lossN B) t lo0 ho0 a (B 0) l4' lo' ho' := fun hr => ih (b + 1) F l4 tl th lo ho (by omega) (by omega) hM (SW_skip hS hr)
    have hBa := BI_le hS.1 (show a < 12 by omega)
    have hBb := BI_le hS.1 (show b < 12 by omega)
    obtain ⟨ma1, ma2⟩ := hM a (by omega)
    obtain ⟨mb1, mb2⟩ := hM b (by omega)
    rw [fX8_laysLoss_70, show (0 : Int32) = nI 0 from rfl, rd_MB h (by omega) (by omega) (by decide), if_neg (inle (by omega) (by omega)), nI_inc]
    by_cases q1 : a = b
    · rw [if_pos (by rw [q1])]
      exact skip (fun hq => absurd q1 (loss_bd hB hq.1).2.2.1)
    · rw [if_neg (ine q1 (by omega) (by omega))]
      by_cases q2 : x.testBit a = true
      · rw [if_pos (by rw [bit_nI hx30 (by omega)]; exact q2)]
        exact skip (fun hq => absurd ((hx.2 a).mp q2) hq.2)
      · rw [if_neg (by rw [bit_nI hx30 (by omega)]; exact q2), rdI_nI (by omega) (by decide), mb1]
        by_cases q3 : lo b = 1000000
        · rw [if_pos (by rw [q3]; rfl)]
          exact skip (fun _ hq => absurd q3 hq)
        · have q3' : ¬ nI (lo b) = (1000000 : Int32) := by rw [lit 1000000]; exact ine q3 (by omega) (by decide)
          rw [if_neg q3', talks8 h hB (by omega) (by omega) hh, bd1_some, show nI 0 = (0 : Int32) from rfl, bI_0']
          cases ht : talkN B hr a b with
          | false =>
            simp only [Bool.false_eq_true, if_false]
            exact skip (fun hq => by have := hq.1.2.2; rw [ht] at this; exact absurd this (by decide))
          | true =>
            simp only [if_true]
            have hq : qp (tk B hr) pst a b := ⟨⟨by omega, by omega, ht⟩, fun hp => q2 ((hx.2 a).mpr hp)⟩
            obtain ⟨b1, b2, b3, b4, b5⟩ := loss_bd hB hq.1
            rw [rdI_nI (by omega) (by decide), mb1, loss8 h hB ha hb, bd1_some, bnd_e, rdI_nI (by omega) (by decide), ma1, nI_add]
            by_cases q4 : lo a < lo b + lossN B a b
            · rw [if_pos (ilt q4 (by omega))]
              exact skip (fun _ _ => Or.inl q4)
            · rw [if_neg (inlt (by omega) (by omega)), rdI_nI (by omega) (by decide), ma1, jn_eq]
              have go : (lo b + lossN B a b < lo a ∨ (lo a = lo b + lossN B a b ∧ ho b + 1 < ho a)) → ∃ l4' tl' th' lo' ho', (wrI 12 tl (nI a) (nI (lo b + lossN B a b)) (fun t_loss_36 => rdI 12 th (nI b) (fun x_38 => wrI 12 th (nI a) (x_38 + 1) (fun t_hops_40 => fX8_laysLoss_70 (nI x) (nI hr) (nI a) A K F 1 (nI (b + 1)) t_loss_36 t_hops_40)))) = K l4' tl' th' ∧ MS lo' ho' tl' th' ∧ SW (qp (tk B hr) pst) (lossN B) t lo0 ho0 a (B 0) l4' lo' ho' := by
                intro hlt
                rw [wrI_nI (by omega) (by decide), rdI_nI (by omega) (by decide), wrI_nI (by omega) (by decide), mb2 q3, nI_inc]
                obtain ⟨r1, r2⟩ := relax hS.1 (show a < 12 by omega) (show b < 12 by omega) q1 hq b4 b5 q3 hlt
                refine ih (b + 1) F 1 _ _ _ _ (by omega) (by omega) (fun v hv => ?_) ⟨r1, Or.inr ⟨rfl, ?_⟩⟩
                · unfold upd va_up
                  by_cases e : v = a
                  · rw [if_pos e, if_pos e, if_pos e, if_pos e]; exact ⟨rfl, fun _ => rfl⟩
                  · rw [if_neg e, if_neg e, if_neg e, if_neg e]; exact hM v hv
                · rcases hS.2 with ⟨_, e2, e3, _⟩ | ⟨_, hm⟩
                  · rw [← e2, ← e3]; exact r2
                  · exact Nat.lt_trans r2 hm
              by_cases q5 : lo b + lossN B a b = lo a
              · have hfa : lo a ≠ 1000000 := by omega
                rw [if_pos (by rw [q5]), rdI_nI (by omega) (by decide), mb2 q3, rdI_nI (by omega) (by decide), ma2 hfa, nI_inc]
                by_cases q6 : ho b + 1 < ho a
                · rw [if_pos (ilt q6 (by omega))]
                  exact go (Or.inr ⟨q5.symm, q6⟩)
                · rw [if_neg (inlt (by omega) (by omega))]
                  exact skip (fun _ _ => Or.inr ⟨q5.symm, by omega⟩)
              · rw [if_neg (ine q5 (by omega) (by omega))]
                exact go (Or.inl (by omega))
theorem lays_mid {A : Nat → Int32} {B : Nat → Nat} (h : MB A 0 B) (hB : WF B) {hr t x : Nat} (hh : hr < 100000) {pst : Nat → Prop} (hx : Bits x 12 pst) {lo0 ho0 : Nat → Nat} (K : Int32 → (Nat → Int32) → (Nat → Int32) → Option ((Nat → Int32) × (Nat → Int32))) :
    ∀ k a F l4 tl th lo ho, a + k = B 0 → k < F → MS lo ho tl th → SW (qp (tk B hr) pst) (lossN B) t lo0 ho0 a 0 l4 lo ho →
    ∃ l4' tl' th' lo' ho', fX8_laysLoss_56 (nI x) (nI hr) A K F l4 (nI a) tl th = K l4' tl' th' ∧ MS lo' ho' tl' th' ∧ SW (qp (tk B hr) pst) (lossN B) t lo0 ho0 (B 0) 0 l4' lo' ho' := by
  have h12 := hB.1
  intro k
  induction k with
  | zero =>
    intro a F l4 tl th lo ho hi hF hM hS
    obtain ⟨F, rfl⟩ : ∃ m, F = m + 1 := ⟨F - 1, by omega⟩
    obtain rfl : a = B 0 := by omega
    exact ⟨l4, tl, th, lo, ho, by rw [fX8_laysLoss_56, show (0 : Int32) = nI 0 from rfl, rd_MB h (by omega) (by omega) (by decide), if_pos (ile (by omega) (by omega))], hM, hS⟩
  | succ k ih =>
    intro a F l4 tl th lo ho hi hF hM hS
    obtain ⟨F, rfl⟩ : ∃ m, F = m + 1 := ⟨F - 1, by omega⟩
    rw [fX8_laysLoss_56, show (0 : Int32) = nI 0 from rfl, rd_MB h (by omega) (by omega) (by decide), if_neg (inle (by omega) (by omega)), nI_inc]
    obtain ⟨l4', tl', th', lo', ho', g1, g2, g3⟩ := lays_in h hB hh hx (show a < B 0 by omega) (fun (w_48 : Int32) (t_loss_49 : Nat → Int32) (t_hops_50 : Nat → Int32) => fX8_laysLoss_56 (nI x) (nI hr) A K F w_48 (nI (a + 1)) t_loss_49 t_hops_50) (B 0) 0 FU l4 tl th lo ho (by omega) (FU_big (by omega)) hM hS
    rw [g1]
    refine ih (a + 1) F l4' tl' th' lo' ho' (by omega) (by omega) g2 ⟨g3.1, ?_⟩
    rcases g3.2 with ⟨e1, e2, e3, h4⟩ | h4
    · refine Or.inl ⟨e1, e2, e3, fun a' b' hh2 => ?_⟩
      by_cases e : a' < a
      · exact h4 a' b' (Or.inl e)
      · by_cases e5 : b' < B 0
        · exact h4 a' b' (Or.inr ⟨by omega, e5⟩)
        · exact fun hq => absurd (loss_bd hB hq.1).2.1 e5
    · exact Or.inr h4
theorem lays_while {A : Nat → Int32} {B : Nat → Nat} (h : MB A 0 B) (hB : WF B) {hr t x : Nat} (hh : hr < 100000) {pst : Nat → Prop} (hx : Bits x 12 pst) :
    ∀ μ F tl th lo ho, meas lo ho ≤ μ → μ + 1 < F → MS lo ho tl th → BI (qp (tk B hr) pst) (lossN B) t lo ho →
    ∃ tl' th' lo' ho', fX8_laysLoss_45 (nI x) (nI hr) A (fun (u : Nat → Int32) (v : Nat → Int32) => some (u, v)) F 1 tl th = some (tl', th') ∧ MS lo' ho' tl' th' ∧ BI (qp (tk B hr) pst) (lossN B) t lo' ho' ∧ ∀ a b, RX (qp (tk B hr) pst) (lossN B) lo' ho' a b := by
  have h12 := hB.1
  intro μ
  induction μ with
  | zero =>
    intro F tl th lo ho hm hF hM hI
    obtain ⟨F, rfl⟩ : ∃ m, F = m + 1 + 1 := ⟨F - 2, by omega⟩
    obtain ⟨l4', tl', th', lo', ho', g1, g2, g3⟩ := lays_mid (lo0 := lo) (ho0 := ho) h hB hh hx (fun (w_51 : Int32) (t_loss_52 : Nat → Int32) (t_hops_53 : Nat → Int32) => fX8_laysLoss_45 (nI x) (nI hr) A (fun (u : Nat → Int32) (v : Nat → Int32) => some (u, v)) (F + 1) w_51 t_loss_52 t_hops_53) (B 0) 0 FU 0 tl th lo ho (by omega) (FU_big (by omega)) hM ⟨hI, Or.inl ⟨rfl, rfl, rfl, fun a' b' hh2 => absurd hh2 (by omega)⟩⟩
    replace g1 : fX8_laysLoss_56 (nI x) (nI hr) A (fun (w_51 : Int32) (t_loss_52 : Nat → Int32) (t_hops_53 : Nat → Int32) => fX8_laysLoss_45 (nI x) (nI hr) A (fun (u : Nat → Int32) (v : Nat → Int32) => some (u, v)) (F + 1) w_51 t_loss_52 t_hops_53) FU 0 0 tl th = _ := g1
    rw [fX8_laysLoss_45, if_neg (show ¬ (1 : Int32) = 0 by decide), g1]
    rcases g3.2 with ⟨e1, e2, e3, h4⟩ | ⟨_, h4⟩
    · refine ⟨tl', th', lo', ho', by rw [fX8_laysLoss_45, if_pos e1], g2, g3.1, fun a b => ?_⟩
      rw [e2, e3]
      by_cases e : a < B 0
      · exact h4 a b (Or.inl e)
      · exact fun hq => absurd (loss_bd hB hq.1).1 e
    · omega
  | succ μ ih =>
    intro F tl th lo ho hm hF hM hI
    obtain ⟨F, rfl⟩ : ∃ m, F = m + 1 + 1 := ⟨F - 2, by omega⟩
    obtain ⟨l4', tl', th', lo', ho', g1, g2, g3⟩ := lays_mid (lo0 := lo) (ho0 := ho) h hB hh hx (fun (w_51 : Int32) (t_loss_52 : Nat → Int32) (t_hops_53 : Nat → Int32) => fX8_laysLoss_45 (nI x) (nI hr) A (fun (u : Nat → Int32) (v : Nat → Int32) => some (u, v)) (F + 1) w_51 t_loss_52 t_hops_53) (B 0) 0 FU 0 tl th lo ho (by omega) (FU_big (by omega)) hM ⟨hI, Or.inl ⟨rfl, rfl, rfl, fun a' b' hh2 => absurd hh2 (by omega)⟩⟩
    replace g1 : fX8_laysLoss_56 (nI x) (nI hr) A (fun (w_51 : Int32) (t_loss_52 : Nat → Int32) (t_hops_53 : Nat → Int32) => fX8_laysLoss_45 (nI x) (nI hr) A (fun (u : Nat → Int32) (v : Nat → Int32) => some (u, v)) (F + 1) w_51 t_loss_52 t_hops_53) FU 0 0 tl th = _ := g1
    rw [fX8_laysLoss_45, if_neg (show ¬ (1 : Int32) = 0 by decide), g1]
    rcases g3.2 with ⟨e1, e2, e3, h4⟩ | ⟨e1, h4⟩
    · refine ⟨tl', th', lo', ho', by rw [fX8_laysLoss_45, if_pos e1], g2, g3.1, fun a b => ?_⟩
      rw [e2, e3]
      by_cases e : a < B 0
      · exact h4 a b (Or.inl e)
      · exact fun hq => absurd (loss_bd hB hq.1).1 e
    · rw [e1]
      exact ih (F + 1) tl' th' lo' ho' (by omega) (by omega) g2 g3.1
theorem lays_init {t : Nat} (ht : t < 12) (K : (Nat → Int32) → Option ((Nat → Int32) × (Nat → Int32))) : ∀ k i F tl, i + k = 12 → k < F → (∀ v, v < i → tl v = nI (if v = t then 0 else 1000000)) → ∃ tl', fX8_laysLoss_3 (nI t) K F (nI i) tl = K tl' ∧ ∀ v, v < 12 → tl' v = nI (if v = t then 0 else 1000000) := by
  intro k
  induction k with
  | zero =>
    intro i F tl hi hF h
    obtain ⟨F, rfl⟩ : ∃ m, F = m + 1 := ⟨F - 1, by omega⟩
    obtain rfl : i = 12 := by omega
    exact ⟨tl, by rw [fX8_laysLoss_3, lit 12, if_pos (ile (by omega) (by omega))], h⟩
  | succ k ih =>
    intro i F tl hi hF h
    obtain ⟨F, rfl⟩ : ∃ m, F = m + 1 := ⟨F - 1, by omega⟩
    rw [fX8_laysLoss_3, lit 12, if_neg (inle (by omega) (by omega)), jn1, wrI_nI (by omega) (by decide), nI_inc]
    refine ih (i + 1) F _ (by omega) (by omega) (fun v hv => ?_)
    unfold upd
    by_cases e : v = i
    · rw [if_pos e, e]
      by_cases e2 : i = t
      · rw [if_pos (by rw [e2]), if_pos e2]; rfl
      · rw [if_neg (ine e2 (by omega) (by omega)), if_neg e2]; rfl
    · rw [if_neg e]; exact h v (by omega)
theorem lays8 {A : Nat → Int32} {B : Nat → Nat} (h : MB A 0 B) (hB : WF B) {hr t x : Nat} (hh : hr < 100000) {pst : Nat → Prop} (hx : Bits x 12 pst) (ht : t < B 0) (tl th : Nat → Int32) :
    ∃ tl' th', fX8_laysLoss A tl th (nI t) (nI x) (nI hr) = some (tl', th') ∧ ∀ v, v < 12 → DS (qp (tk B hr) pst) (lossN B) t v (dst (qp (tk B hr) pst) (lossN B) t v) ∧ DB (dst (qp (tk B hr) pst) (lossN B) t v) ∧ tl' v = encL (dst (qp (tk B hr) pst) (lossN B) t v) ∧ ∀ L k, dst (qp (tk B hr) pst) (lossN B) t v = some (L, k) → th' v = nI k ∧ k ≤ 11 := by
  have h12 := hB.1
  unfold fX8_laysLoss
  obtain ⟨tl1, i1, i2⟩ := lays_init (show t < 12 by omega) (fun (t_loss_7 : Nat → Int32) => wrI 12 th (nI t) 0 (fun t_hops_8 => fX8_laysLoss_45 (nI x) (nI hr) A (fun (t_loss_54 : Nat → Int32) (t_hops_55 : Nat → Int32) => some (t_loss_54, t_hops_55)) FU 1 t_loss_7 t_hops_8)) 12 0 FU tl (by omega) (FU_big (by omega)) (fun v hv => absurd hv (by omega))
  replace i1 : fX8_laysLoss_3 (nI t) (fun (t_loss_7 : Nat → Int32) => wrI 12 th (nI t) 0 (fun t_hops_8 => fX8_laysLoss_45 (nI x) (nI hr) A (fun (t_loss_54 : Nat → Int32) (t_hops_55 : Nat → Int32) => some (t_loss_54, t_hops_55)) FU 1 t_loss_7 t_hops_8)) FU 0 tl = _ := i1
  rw [i1, wrI_nI (by omega) (by decide)]
  have hM : MS (fun v => if v = t then 0 else 1000000) (fun _ => 0) tl1 (upd th t 0) := by
    intro v hv
    refine ⟨i2 v hv, fun hf => ?_⟩
    by_cases e : v = t
    · subst e; exact pk_us
    · exact absurd (if_neg e) hf
  have hI : BI (qp (tk B hr) pst) (lossN B) t (fun v => if v = t then 0 else 1000000) (fun _ => 0) := by
    refine ⟨fun v hv => ?_, if_pos rfl, rfl⟩
    by_cases e : v = t
    · subst e
      refine Or.inr ⟨?_, Nat.zero_le _, ?_⟩
      · show wl _ _ v 0 (if v = v then 0 else 1000000) v
        rw [if_pos rfl]; exact ⟨rfl, rfl⟩
      · show (if v = v then 0 else 1000000) ≤ _
        rw [if_pos rfl]; omega
    · exact Or.inl (if_neg e)
  have hm : meas (fun v => if v = t then 0 else 1000000) (fun _ => 0) ≤ 12 * 16000000 := by
    unfold meas
    refine fb_sm_bound (fun k _ => ?_)
    have aux : ∀ z : Nat, z = 0 ∨ z = 1000000 → (if z = 1000000 then 16000000 else 16 * z + 0) ≤ 16000000 := by
      intro z hz; split <;> omega
    refine aux _ ?_
    dsimp only
    by_cases e : k = t
    · exact Or.inl (if_pos e)
    · exact Or.inr (if_neg e)
  obtain ⟨tl', th', lo, ho, g1, g2, g3, g4⟩ := lays_while h hB hh hx (t := t) (12 * 16000000) FU tl1 (upd th t 0) _ _ hm (FU_big (by omega)) hM hI
  have hq : ∀ u v, qp (tk B hr) pst u v → u < 12 ∧ v < 12 := fun u v hh2 => ⟨hh2.1.1, hh2.1.2.1⟩
  have hfix := DS_fix (q := qp (tk B hr) pst) (c := lossN B) (t := t) (fin := fun v => lo v ≠ 1000000) (lo := lo) (ho := ho) hq ⟨by have := g3.2.1; show lo t ≠ _; omega, g3.2⟩ (fun v hv hf => by
      rcases BI_le g3 hv with e | ⟨w1, w2, w3⟩
      · exact absurd e hf
      · exact ⟨w1, by omega⟩) (fun u v huv hf => by
      have := g4 u v huv hf
      obtain ⟨k1, k2⟩ := hq u v huv
      have hb := loss_bd hB huv.1
      refine ⟨?_, this⟩
      show lo u ≠ 1000000
      rcases BI_le g3 k2 with e | ⟨w1, w2, w3⟩
      · exact absurd e hf
      · omega)
  refine ⟨tl', th', g1, fun v hv => ?_⟩
  obtain ⟨m1, m2⟩ := g2 v hv
  by_cases hf : lo v = 1000000
  · have hs := (hfix v hv).2 (fun h => h hf)
    rw [dst_of hs, m1, hf]
    exact ⟨hs, fun L k e => absurd e (by simp), rfl, fun L k e => absurd e (by simp)⟩
  · have hs := (hfix v hv).1 hf
    rw [dst_of hs, m1, m2 hf]
    have hb : ho v ≤ 11 ∧ lo v ≤ 1620 := by
      rcases BI_le g3 hv with e | ⟨w1, w2, w3⟩
      · exact absurd e hf
      · exact ⟨w2, w3⟩
    refine ⟨hs, fun L k e => ?_, rfl, fun L k e => ?_⟩
    · have e2 : lo v = L ∧ ho v = k := by simpa using e
      omega
    · have e2 : lo v = L ∧ ho v = k := by simpa using e
      rw [e2.2] at hb ⊢
      exact ⟨rfl, hb.1⟩
