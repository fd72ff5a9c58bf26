-- uses:
/-! the way itself -/
theorem rdA1 {β : Type} {A : Nat → Int32} {B : Nat → Nat} {k : Int32 → Option β} (h : MB A 0 B) : rdI 558 A 1 k = k (nI (B 1)) := rd_MB (j := 1) h (by decide) (by decide) (by decide)
theorem rdA0 {β : Type} {A : Nat → Int32} {B : Nat → Nat} {k : Int32 → Option β} (h : MB A 0 B) : rdI 558 A 0 k = k (nI (B 0)) := rd_MB (j := 0) h (by decide) (by decide) (by decide)
theorem rdA3 {β : Type} {A : Nat → Int32} {B : Nat → Nat} {k : Int32 → Option β} (h : MB A 0 B) : rdI 558 A 3 k = k (nI (B 3)) := rd_MB (j := 3) h (by decide) (by decide) (by decide)
def nxP (p : Nat → Nat → Prop) (D : Nat → Option (Nat × Nat)) (c : Nat → Nat → Nat) (a b : Nat) : Prop := p a b ∧ ∃ L' L h, D b = some (L', h) ∧ D a = some (L, h + 1) ∧ L = L' + c a b
noncomputable def nxw (p : Nat → Nat → Prop) (D : Nat → Option (Nat × Nat)) (c : Nat → Nat → Nat) (a : Nat) : Nat := Classical.epsilon (fun u => u < 12 ∧ nxP p D c a u ∧ ∀ k, k < u → ¬ nxP p D c a k)
def wyN (nx : Nat → Nat) : Nat → Nat → Nat
  | v, 0 => v
  | v, k + 1 => wyN nx (nx v) k
theorem wyN_snoc (nx : Nat → Nat) : ∀ k v, wyN nx v (k + 1) = nx (wyN nx v k)
  | 0, _ => rfl
  | k + 1, v => by rw [wyN, wyN_snoc nx k (nx v)]; rfl
theorem nxw_ok {p : Nat → Nat → Prop} {pst : Nat → Prop} {c : Nat → Nat → Nat} {t v L h : Nat} (hS : ∀ u, u < 12 → DS (qp p pst) c t u (dst (qp p pst) c t u)) (hp : ∀ u v, p u v → u < 12 ∧ v < 12) (hv : v < 12) (e : dst (qp p pst) c t v = some (L, h + 1)) :
    nxw p (dst (qp p pst) c t) c v < 12 ∧ nxP p (dst (qp p pst) c t) c v (nxw p (dst (qp p pst) c t) c v) ∧ ∀ u, u < nxw p (dst (qp p pst) c t) c v → ¬ nxP p (dst (qp p pst) c t) c v u := by
  obtain ⟨u, L', g1, g2, g3⟩ := dst_next hS (fun u v h => hp u v h.1) hv e
  have hu : nxP p (dst (qp p pst) c t) c v u := ⟨g1.1, L', L, h, g2, e, g3⟩
  have hdec : DecidablePred (nxP p (dst (qp p pst) c t) c v) := fun _ => Classical.propDecidable _
  have hex := fb_first (p := nxP p (dst (qp p pst) c t) c v) (n := 12) ⟨u, (hp v u g1.1).2, hu⟩
  exact Classical.epsilon_spec (p := fun u => u < 12 ∧ nxP p (dst (qp p pst) c t) c v u ∧ ∀ k, k < u → ¬ nxP p (dst (qp p pst) c t) c v k) hex
theorem nxw_d {p : Nat → Nat → Prop} {D : Nat → Option (Nat × Nat)} {c : Nat → Nat → Nat} {a b L h : Nat} (hn : nxP p D c a b) (e : D a = some (L, h + 1)) : p a b ∧ ∃ L', D b = some (L', h) ∧ L = L' + c a b := by
  obtain ⟨h1, L', L2, h2, g1, g2, g3⟩ := hn
  rw [e] at g2
  have e2 : L = L2 ∧ h + 1 = h2 + 1 := by simpa using g2
  obtain ⟨rfl, e3⟩ := e2
  obtain rfl : h = h2 := by omega
  exact ⟨h1, L', g1, g3⟩
theorem way_d {p : Nat → Nat → Prop} {pst : Nat → Prop} {c : Nat → Nat → Nat} {t : Nat} (hS : ∀ u, u < 12 → DS (qp p pst) c t u (dst (qp p pst) c t u)) (hp : ∀ u v, p u v → u < 12 ∧ v < 12) : ∀ k v L h, v < 12 → dst (qp p pst) c t v = some (L, h) → k ≤ h → ∃ L', dst (qp p pst) c t (wyN (nxw p (dst (qp p pst) c t) c) v k) = some (L', h - k) ∧ wyN (nxw p (dst (qp p pst) c t) c) v k < 12 := by
  intro k
  induction k with
  | zero => intro v L h hv e _; exact ⟨L, e, hv⟩
  | succ k ih =>
    intro v L h hv e hk
    obtain ⟨h, rfl⟩ : ∃ m, h = m + 1 := ⟨h - 1, by omega⟩
    obtain ⟨n1, n2, _⟩ := nxw_ok hS hp hv e
    obtain ⟨_, L', g1, _⟩ := nxw_d n2 e
    obtain ⟨L2, g2, g3⟩ := ih _ L' h n1 g1 (by omega)
    exact ⟨L2, by rw [wyN, g2, Nat.add_sub_add_right], g3⟩
theorem encC_add {o : Option (Nat × Nat)} {c L h : Nat} (hb : DB o) (hc : c ≤ 135) (hL : L ≤ 1755) (hh : h ≤ 11) : (encC o + nI (16 * c + 1) = nI (16 * L + (h + 1))) ↔ ∃ L', o = some (L', h) ∧ L = L' + c := by
  cases o with
  | none =>
    show nI 16777216 + _ = _ ↔ _
    rw [nI_add, nI_eq (by omega) (by omega)]
    exact ⟨fun e => by omega, fun ⟨L', e, _⟩ => absurd e (by simp)⟩
  | some d =>
    obtain ⟨L1, h1⟩ := d
    obtain ⟨b1, b2⟩ := hb L1 h1 rfl
    show nI (16 * L1 + h1) + _ = _ ↔ _
    rw [nI_add, nI_eq (by omega) (by omega)]
    constructor
    · intro e
      exact ⟨L1, by rw [show h1 = h by omega], by omega⟩
    · rintro ⟨L', e, e2⟩
      have e3 : L1 = L' ∧ h1 = h := by simpa using e
      omega
theorem onward7 {p : Nat → Nat → Prop} {pst : Nat → Prop} {c : Nat → Nat → Nat} {t n v L h : Nat} {links prices rest : Nat → Int32} (hn : n ≤ 12) (hl : LK links p) (hpr : PR prices p c) (hp : ∀ u v, p u v → u < n ∧ v < n ∧ u ≠ v ∧ p v u) (hc : ∀ u v, p u v → c u v ≤ 135) (hR : ∀ v, v < 12 → DS (qp p pst) c t v (dst (qp p pst) c t v) ∧ DB (dst (qp p pst) c t v) ∧ rest v = encC (dst (qp p pst) c t v)) (hv : v < 12) (e : dst (qp p pst) c t v = some (L, h + 1)) :
    fX6_onward (nI n) links prices rest (nI v) = some (nI (nxw p (dst (qp p pst) c t) c v)) := by
  obtain ⟨n1, n2, n3⟩ := nxw_ok (fun u hu => (hR u hu).1) (fun u v h => by have := hp u v h; omega) hv e
  have hnw := (hp v _ n2.1).2.1
  have hbv := (hR v hv).2.1 L (h + 1) e
  have loop : ∀ k i F, i + k = nxw p (dst (qp p pst) c t) c v → k < F → fX6_onward_2 (nI v) (nI n) links prices rest (some (-1)) F (nI i) = some (nI (nxw p (dst (qp p pst) c t) c v)) := by
    intro k
    induction k with
    | zero =>
      intro i F hi hF
      obtain ⟨F, rfl⟩ : ∃ m, F = m + 1 := ⟨F - 1, by omega⟩
      have hi : i = nxw p (dst (qp p pst) c t) c v := by omega
      rw [← hi] at n2 hnw ⊢
      obtain ⟨d1, L', d2, d3⟩ := nxw_d n2 e
      have hci := hc v i d1
      rw [fX6_onward_2, if_neg (inle hnw (by omega)), linked7 hl hv (by omega), bd1_some, bI_0', dB_t d1, if_pos rfl, rdI_nI (by omega) (by decide), (hR i (by omega)).2.2]
      have e3 : fX6_priceOf prices (nI v) (nI i) = some (nI (16 * c v i + 1)) := by
        unfold fX6_priceOf
        rw [show (12 * nI v + nI i : Int32) = nI (12 * v + i) by rw [lit 12, pk_mul, nI_add], rdI_nI (by omega) (by decide), hpr v i d1]
      rw [e3, bd1_some, rdI_nI hv (by decide), (hR v hv).2.2, e]
      exact if_pos ((encC_add (hR i (by omega)).2.1 hci hbv.2 (by omega)).mpr ⟨L', d2, d3⟩)
    | succ k ih =>
      intro i F hi hF
      obtain ⟨F, rfl⟩ : ∃ m, F = m + 1 := ⟨F - 1, by omega⟩
      have hno := n3 i (by omega)
      rw [fX6_onward_2, if_neg (inle (by omega) (by omega)), linked7 hl hv (by omega), bd1_some, bI_0', nI_inc]
      by_cases d1 : p v i
      · have hci := hc v i d1
        have e3 : fX6_priceOf prices (nI v) (nI i) = some (nI (16 * c v i + 1)) := by
          unfold fX6_priceOf
          rw [show (12 * nI v + nI i : Int32) = nI (12 * v + i) by rw [lit 12, pk_mul, nI_add], rdI_nI (by omega) (by decide), hpr v i d1]
        rw [dB_t d1, if_pos rfl, rdI_nI (by omega) (by decide), (hR i (by omega)).2.2, e3, bd1_some, rdI_nI hv (by decide), (hR v hv).2.2, e]
        have hne : ¬ (encC (dst (qp p pst) c t i) + nI (16 * c v i + 1) = nI (16 * L + (h + 1))) := fun e4 => by
          obtain ⟨L', d2, d3⟩ := (encC_add (hR i (by omega)).2.1 hci hbv.2 (by omega)).mp e4
          exact hno ⟨d1, L', L, h, d2, e, d3⟩
        refine Eq.trans (if_neg hne) ?_
        exact ih (i + 1) F (by omega) (by omega)
      · rw [dB_f d1]
        exact ih (i + 1) F (by omega) (by omega)
  unfold fX6_onward
  exact loop _ 0 FU (Nat.zero_add _) (FU_big (by omega))
def hopI (o : Option (Nat × Nat)) : Int32 := match o with
  | none => -1
  | some (_, h) => nI h
def lssI (o : Option (Nat × Nat)) : Int32 := match o with
  | none => -1
  | some (L, _) => nI L
def wayI (o : Option (Nat × Nat)) (k w : Nat) : Int32 := match o with
  | none => -1
  | some (_, h) => if k ≤ h then nI w else -1
theorem strF7 {rest : Nat → Int32} {o : Option (Nat × Nat)} {v : Nat} (hv : v < 12) (hb : DB o) (e : rest v = encC o) : fX6_stringsFrom rest (nI v) = some (hopI o) := by
  unfold fX6_stringsFrom
  rw [rdI_nI hv (by decide), rdI_nI hv (by decide), e]
  cases o with
  | none => exact if_pos rfl
  | some d =>
    obtain ⟨L, h⟩ := d
    obtain ⟨b1, b2⟩ := hb L h rfl
    show (if nI (16 * L + h) = 16777216 then _ else some (nI (16 * L + h) - nI (16 * L + h) / 16 * 16)) = some (nI h)
    rw [lit 16777216, if_neg (ine (by omega) (by omega) (by decide)), lit 16, pk_rem (by omega) (by decide) (by decide), show (16 * L + h) % 16 = h by omega]
theorem lossF7 {rest : Nat → Int32} {o : Option (Nat × Nat)} {v : Nat} (hv : v < 12) (hb : DB o) (e : rest v = encC o) : fX6_lossFrom rest (nI v) = some (lssI o) := by
  unfold fX6_lossFrom
  rw [rdI_nI hv (by decide), rdI_nI hv (by decide), e]
  cases o with
  | none => exact if_pos rfl
  | some d =>
    obtain ⟨L, h⟩ := d
    obtain ⟨b1, b2⟩ := hb L h rfl
    show (if nI (16 * L + h) = 16777216 then _ else some (nI (16 * L + h) / 16)) = some (nI L)
    rw [lit 16777216, if_neg (ine (by omega) (by omega) (by decide)), lit 16, pk_div (by omega) (by decide) (by decide), show (16 * L + h) / 16 = L by omega]
/-- heard: a way with not too much loss -/
def hdB (o : Option (Nat × Nat)) (m : Nat) : Bool := match o with
  | none => false
  | some (L, _) => decide (L ≤ m)
theorem heardF7 {rest : Nat → Int32} {o : Option (Nat × Nat)} {v m : Nat} (hv : v < 12) (hb : DB o) (e : rest v = encC o) (hm : m ≤ 999) : fX6_isHeardFrom rest (nI v) (nI m) = some (bI (hdB o m)) := by
  unfold fX6_isHeardFrom
  rw [lossF7 hv hb e, rdI_nI hv (by decide), e]
  cases o with
  | none => exact if_pos rfl
  | some d =>
    obtain ⟨L, h⟩ := d
    obtain ⟨b1, b2⟩ := hb L h rfl
    show (if nI (16 * L + h) = 16777216 then _ else bd1 (some (nI L)) (fun r_4 => if nI m < r_4 then some (0 : Int32) else some (1 : Int32))) = some (bI (decide (L ≤ m)))
    rw [lit 16777216, if_neg (ine (by omega) (by omega) (by decide)), bd1_some]
    by_cases q : m < L
    · rw [if_pos (ilt q (by omega)), decide_eq_false (by omega)]; rfl
    · rw [if_neg (inlt (by omega) (by omega)), decide_eq_true (by omega)]; rfl
theorem encL_le {o : Option (Nat × Nat)} {m : Nat} (hb : DB o) (hm : m ≤ 999) : (nI m < encL o) ↔ hdB o m = false := by
  cases o with
  | none =>
    show nI m < nI 1000000 ↔ false = false
    exact ⟨fun _ => rfl, fun _ => ilt (by omega) (by omega)⟩
  | some d =>
    obtain ⟨L, h⟩ := d
    obtain ⟨b1, b2⟩ := hb L h rfl
    show nI m < nI L ↔ decide (L ≤ m) = false
    rw [lt_nI (by omega) (by omega), decide_eq_false_iff_not]; omega
theorem nle_m1 {k : Nat} (hk : k < 2 ^ 31) : ¬ nI k ≤ -1 := by
  rw [Int32.le_iff_toInt_le, nI_toInt hk]
  show ¬ (k : Int) ≤ -1
  omega
theorem onWay7 {p : Nat → Nat → Prop} {pst : Nat → Prop} {c : Nat → Nat → Nat} {t n v : Nat} {links prices rest : Nat → Int32} (hn : n ≤ 12) (hl : LK links p) (hpr : PR prices p c) (hp : ∀ u v, p u v → u < n ∧ v < n ∧ u ≠ v ∧ p v u) (hc : ∀ u v, p u v → c u v ≤ 135) (hR : ∀ v, v < 12 → DS (qp p pst) c t v (dst (qp p pst) c t v) ∧ DB (dst (qp p pst) c t v) ∧ rest v = encC (dst (qp p pst) c t v)) (hv : v < 12) {k : Nat} (hk : k < 1000) :
    fX6_windowOnWay (nI n) links prices rest (nI v) (nI k) = some (wayI (dst (qp p pst) c t v) k (wyN (nxw p (dst (qp p pst) c t) c) v k)) := by
  unfold fX6_windowOnWay
  rw [strF7 hv (hR v hv).2.1 (hR v hv).2.2, bd1_some]
  cases e : dst (qp p pst) c t v with
  | none => exact if_neg (nle_m1 (by omega))
  | some d =>
    obtain ⟨L, h⟩ := d
    obtain ⟨b1, b2⟩ := (hR v hv).2.1 L h e
    show (if nI k ≤ nI h then _ else _) = some (if k ≤ h then _ else _)
    by_cases q : k ≤ h
    · rw [if_pos (ile q (by omega)), if_pos q]
      have loop : ∀ j i F u L, i + j = k → j < F → u < 12 → dst (qp p pst) c t u = some (L, h - i) → fX6_windowOnWay_16 (nI k) (nI n) links prices rest (fun (w_8 : Int32) => some w_8) F (nI u) (nI i) = some (nI (wyN (nxw p (dst (qp p pst) c t) c) u j)) := by
        intro j
        induction j with
        | zero =>
          intro i F u L hi hF hu e
          obtain ⟨F, rfl⟩ : ∃ m, F = m + 1 := ⟨F - 1, by omega⟩
          rw [fX6_windowOnWay_16, if_pos (ile (by omega) (by omega))]; rfl
        | succ j ih =>
          intro i F u L hi hF hu e
          obtain ⟨F, rfl⟩ : ∃ m, F = m + 1 := ⟨F - 1, by omega⟩
          have e' : dst (qp p pst) c t u = some (L, (h - (i + 1)) + 1) := by rw [e, show h - i = (h - (i + 1)) + 1 by omega]
          obtain ⟨n1, n2, n3⟩ := nxw_ok (fun u hu => (hR u hu).1) (fun u v h => by have := hp u v h; omega) hu e'
          obtain ⟨_, L', d2, _⟩ := nxw_d n2 e'
          rw [fX6_windowOnWay_16, if_neg (inle (by omega) (by omega)), if_neg (m1_ne (by omega)), onward7 hn hl hpr hp hc hR hu e', bd1_some, nI_inc]
          exact ih (i + 1) F _ L' (by omega) (by omega) n1 d2
      exact loop k 0 FU v L (by omega) (FU_big (by omega)) hv e
    · rw [if_neg (inle (by omega) (by omega)), if_neg q]
theorem dst_pst {p : Nat → Nat → Prop} {pst : Nat → Prop} {c : Nat → Nat → Nat} {t v L h : Nat} (hS : DS (qp p pst) c t v (dst (qp p pst) c t v)) (ht : ¬ pst t) (e : dst (qp p pst) c t v = some (L, h)) : ¬ pst v := by
  rw [e] at hS
  rcases hS with ⟨e', _⟩ | ⟨L1, h1, e', w1, _, _⟩
  · exact absurd e' (by simp)
  · cases h1 with
    | zero => rw [w1.2]; exact ht
    | succ h1 =>
      obtain ⟨u, L', g1, _⟩ := w1
      exact g1.2
theorem walks8 {A : Nat → Int32} {B : Nat → Nat} (hM : MB A 0 B) (hB : WF B) {t x v L h : Nat} {pst : Nat → Prop} (hx : Bits x 12 pst) (hpt : ¬ pst t) {tl th : Nat → Int32}
    (hR : ∀ v, v < 12 → DS (qp (tk B (B 1)) pst) (lossN B) t v (dst (qp (tk B (B 1)) pst) (lossN B) t v) ∧ DB (dst (qp (tk B (B 1)) pst) (lossN B) t v) ∧ tl v = encL (dst (qp (tk B (B 1)) pst) (lossN B) t v) ∧ ∀ L k, dst (qp (tk B (B 1)) pst) (lossN B) t v = some (L, k) → th v = nI k ∧ k ≤ 11)
    (hv : v < 12) (e : dst (qp (tk B (B 1)) pst) (lossN B) t v = some (L, h)) (way : Nat → Int32) (wl0 : Int32) :
    ∃ way', fX8_walks A tl th way wl0 (nI v) (nI x) = some (way', nI h) ∧ ∀ k, k ≤ h → way' k = nI (wyN (nxw (tk B (B 1)) (dst (qp (tk B (B 1)) pst) (lossN B) t) (lossN B)) v k) := by
  have h12 := hB.1
  have hh := hB.2.2.1
  have hx30 : x < 2 ^ 30 := Nat.lt_of_lt_of_le hx.1 (by decide)
  have hS : ∀ u, u < 12 → DS (qp (tk B (B 1)) pst) (lossN B) t u (dst (qp (tk B (B 1)) pst) (lossN B) t u) := fun u hu => (hR u hu).1
  have hp : ∀ u v, tk B (B 1) u v → u < 12 ∧ v < 12 := fun u v h => ⟨h.1, h.2.1⟩
  obtain ⟨b1, b2⟩ := (hR v hv).2.1 L h e
  have b3 := ((hR v hv).2.2.2 L h e).2
  have find : ∀ a L h' (K : Int32 → Option ((Nat → Int32) × Int32)), a < 12 → dst (qp (tk B (B 1)) pst) (lossN B) t a = some (L, h' + 1) → ∀ j i F, i + j = nxw (tk B (B 1)) (dst (qp (tk B (B 1)) pst) (lossN B) t) (lossN B) a → j < F → fX8_walks_40 (nI x) (nI a) A tl th K F (nI i) = K (nI (nxw (tk B (B 1)) (dst (qp (tk B (B 1)) pst) (lossN B) t) (lossN B) a)) := by
    intro a L h' K ha ea j
    obtain ⟨n1, n2, n3⟩ := nxw_ok hS hp ha ea
    obtain ⟨ba1, ba2⟩ := (hR a ha).2.1 L (h' + 1) ea
    have hla : tl a = nI L := by rw [(hR a ha).2.2.1, ea]; rfl
    have hha := ((hR a ha).2.2.2 L (h' + 1) ea).1
    induction j with
    | zero =>
      intro i F hi hF
      obtain ⟨F, rfl⟩ : ∃ m, F = m + 1 := ⟨F - 1, by omega⟩
      have hi : i = nxw (tk B (B 1)) (dst (qp (tk B (B 1)) pst) (lossN B) t) (lossN B) a := by omega
      rw [← hi] at n1 n2 ⊢
      obtain ⟨d1, L', d2, d3⟩ := nxw_d n2 ea
      obtain ⟨q1, q2, q3, q4, q5⟩ := loss_bd hB d1
      obtain ⟨bi1, bi2⟩ := (hR i n1).2.1 L' h' d2
      have hli : tl i = nI L' := by rw [(hR i n1).2.2.1, d2]; rfl
      have hhi := ((hR i n1).2.2.2 L' h' d2).1
      have hnp : ¬ x.testBit i = true := fun hb => dst_pst (hS i n1) hpt d2 ((hx.2 i).mp hb)
      rw [fX8_walks_40, if_neg (ine (Ne.symm q3) (by omega) (by omega)), if_neg (by rw [bit_nI hx30 (by omega)]; exact hnp), rdI_nI n1 (by decide), hli, lit 1000000, if_neg (ine (by omega) (by omega) (by decide)), rdA1 hM, talks8 hM hB ha n1 (by omega), bd1_some, d1.2.2, bI_0', if_pos rfl, rdI_nI n1 (by decide), hli, loss8 hM hB q1 q2, bd1_some, rdI_nI ha (by decide), hla, nI_add, d3, if_pos rfl, rdI_nI n1 (by decide), hhi, rdI_nI ha (by decide), hha, nI_inc, if_pos rfl]
    | succ j ih =>
      intro i F hi hF
      obtain ⟨F, rfl⟩ : ∃ m, F = m + 1 := ⟨F - 1, by omega⟩
      have hi12 : i < 12 := by omega
      have hno := n3 i (by omega)
      have hnext := ih (i + 1) F (by omega) (by omega)
      rw [fX8_walks_40, nI_inc, hnext]
      by_cases q1 : i = a
      · rw [if_pos (by rw [q1])]
      · rw [if_neg (ine q1 (by omega) (by omega))]
        by_cases q2 : x.testBit i = true
        · rw [if_pos (by rw [bit_nI hx30 (by omega)]; exact q2)]
        · rw [if_neg (by rw [bit_nI hx30 (by omega)]; exact q2), rdI_nI hi12 (by decide), (hR i hi12).2.2.1]
          cases di : dst (qp (tk B (B 1)) pst) (lossN B) t i with
          | none => exact if_pos rfl
          | some d =>
            obtain ⟨L', k'⟩ := d
            obtain ⟨bi1, bi2⟩ := (hR i hi12).2.1 L' k' di
            have hhi := ((hR i hi12).2.2.2 L' k' di).1
            have hli : tl i = nI L' := by rw [(hR i hi12).2.2.1, di]; rfl
            show (if nI L' = 1000000 then _ else _) = _
            rw [lit 1000000, if_neg (ine (by omega) (by omega) (by decide)), rdA1 hM, talks8 hM hB ha hi12 (by omega), bd1_some, bI_0']
            cases ht : talkN B (B 1) a i with
            | false => rfl
            | true =>
              have d1 : tk B (B 1) a i := ⟨ha, hi12, ht⟩
              obtain ⟨r1, r2, r3, r4, r5⟩ := loss_bd hB d1
              rw [if_pos rfl, rdI_nI hi12 (by decide), hli, loss8 hM hB r1 r2, bd1_some, rdI_nI ha (by decide), hla, nI_add]
              by_cases q5 : L' + lossN B a i = L
              · rw [if_pos (by rw [q5]), rdI_nI hi12 (by decide), hhi, rdI_nI ha (by decide), hha, nI_inc, if_neg (ine (fun e6 => hno ⟨d1, L', L, h', by rw [di, show k' = h' by omega], ea, q5.symm⟩) (by omega) (by omega))]
              · rw [if_neg (ine q5 (by omega) (by omega))]
  have outer : ∀ j k F way, k + j = h + 1 → j < F → 1 ≤ k → (∀ i, i < k → way i = nI (wyN (nxw (tk B (B 1)) (dst (qp (tk B (B 1)) pst) (lossN B) t) (lossN B)) v i)) → ∃ way', fX8_walks_19 (nI x) A tl th (nI h) (fun (t_way_33 : Nat → Int32) => some (t_way_33, nI h)) F (nI k) way = some (way', nI h) ∧ ∀ i, i ≤ h → way' i = nI (wyN (nxw (tk B (B 1)) (dst (qp (tk B (B 1)) pst) (lossN B) t) (lossN B)) v i) := by
    intro j
    induction j with
    | zero =>
      intro k F way hk hF h1 hw
      obtain ⟨F, rfl⟩ : ∃ m, F = m + 1 := ⟨F - 1, by omega⟩
      exact ⟨way, by rw [fX8_walks_19, if_pos (ilt (by omega) (by omega))], fun i hi => hw i (by omega)⟩
    | succ j ih =>
      intro k F way hk hF h1 hw
      obtain ⟨F, rfl⟩ : ∃ m, F = m + 1 := ⟨F - 1, by omega⟩
      obtain ⟨L', g1, g2⟩ := way_d hS hp (k - 1) v L h hv e (by omega)
      have g1' : dst (qp (tk B (B 1)) pst) (lossN B) t (wyN (nxw (tk B (B 1)) (dst (qp (tk B (B 1)) pst) (lossN B) t) (lossN B)) v (k - 1)) = some (L', (h - k) + 1) := by rw [g1, show h - (k - 1) = (h - k) + 1 by omega]
      rw [fX8_walks_19, if_neg (inlt (by omega) (by omega)), sub1 h1, rdI_nI (by omega) (by decide), hw (k - 1) (by omega), n0, find _ L' (h - k) _ g2 g1' _ 0 FU (Nat.zero_add _) (FU_big (by have := (nxw_ok hS hp g2 g1').1; omega)), wrI_nI (by omega) (by decide), nI_inc]
      refine ih (k + 1) F _ (by omega) (by omega) (by omega) (fun i hi => ?_)
      unfold upd
      by_cases q : i = k
      · have hsn := wyN_snoc (nxw (tk B (B 1)) (dst (qp (tk B (B 1)) pst) (lossN B) t) (lossN B)) (k - 1) v
        rw [Nat.sub_add_cancel h1] at hsn
        rw [if_pos q, q, hsn]
      · rw [if_neg q]; exact hw i (by omega)
  unfold fX8_walks
  rw [rdI_nI hv (by decide), ((hR v hv).2.2.2 L h e).1, n0, wrI_nI (by decide) (by decide)]
  exact outer h 1 FU _ (by omega) (FU_big (by omega)) (by omega) (fun i hi => by
    obtain rfl : i = 0 := by omega
    exact pk_us)
