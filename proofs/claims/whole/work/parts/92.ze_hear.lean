-- uses:
/-! who hears whom -/
theorem or0 (s : Nat) : nI s ||| 0 = nI s := by rw [n0, fa_or, Nat.or_zero]
theorem tk_hp {B : Nat → Nat} (hB : WF B) {hr : Nat} : ∀ u v, tk B hr u v → u < B 0 ∧ v < B 0 ∧ u ≠ v ∧ tk B hr v u := fun u v h => by
  obtain ⟨h1, h2, h3, _⟩ := loss_bd hB h
  exact ⟨h1, h2, h3, tk_sym hB u v h⟩
theorem tk_hc {B : Nat → Nat} (hB : WF B) {hr : Nat} : ∀ u v, tk B hr u v → lossN B u v ≤ 135 := fun u v h => (loss_bd hB h).2.2.2.2
def no_one (_ : Nat) : Prop := False
theorem bits_no : Bits 0 12 no_one := bits0 (fun _ h => h)
/-- the distances over the strings that hold -/
noncomputable def dd (B : Nat → Nat) (hr : Nat) (pst : Nat → Prop) (t v : Nat) : Option (Nat × Nat) := dst (qp (tk B hr) pst) (lossN B) t v
theorem meas7 {B : Nat → Nat} (hB : WF B) {hr t x : Nat} {pst : Nat → Prop} {links prices : Nat → Int32} (hl : LK links (tk B hr)) (hpr : PR prices (tk B hr) (lossN B)) (ht : t < B 0) (hx : Bits x 12 pst) (hpt : ¬ pst t) (rest : Nat → Int32) :
    ∃ rest', fX6_measure (nI (B 0)) links prices rest (nI t) (nI x) = some rest' ∧ ∀ v, v < 12 → DS (qp (tk B hr) pst) (lossN B) t v (dd B hr pst t v) ∧ DB (dd B hr pst t v) ∧ rest' v = encC (dd B hr pst t v) :=
  measure7 hB.1 hl hpr (tk_hp hB) (tk_hc hB) ht hx hpt rest
theorem meas7_0 {B : Nat → Nat} (hB : WF B) {hr t : Nat} {links prices : Nat → Int32} (hl : LK links (tk B hr)) (hpr : PR prices (tk B hr) (lossN B)) (ht : t < B 0) (rest : Nat → Int32) :
    ∃ rest', fX6_measure (nI (B 0)) links prices rest (nI t) 0 = some rest' ∧ ∀ v, v < 12 → DS (qp (tk B hr) no_one) (lossN B) t v (dd B hr no_one t v) ∧ DB (dd B hr no_one t v) ∧ rest' v = encC (dd B hr no_one t v) :=
  meas7 hB hl hpr ht bits_no (fun h => h) rest
theorem lay8 {A : Nat → Int32} {B : Nat → Nat} (h : MB A 0 B) (hB : WF B) {hr t x : Nat} (hh : hr < 100000) {pst : Nat → Prop} (hx : Bits x 12 pst) (ht : t < B 0) (tl th : Nat → Int32) :
    ∃ tl' th', fX8_laysLoss A tl th (nI t) (nI x) (nI hr) = some (tl', th') ∧ ∀ v, v < 12 → DS (qp (tk B hr) pst) (lossN B) t v (dd B hr pst t v) ∧ DB (dd B hr pst t v) ∧ tl' v = encL (dd B hr pst t v) ∧ ∀ L k, dd B hr pst t v = some (L, k) → th' v = nI k ∧ k ≤ 11 := lays8 h hB hh hx ht tl th
theorem lay8_0 {A : Nat → Int32} {B : Nat → Nat} (h : MB A 0 B) (hB : WF B) {hr t : Nat} (hh : hr < 100000) (ht : t < B 0) (tl th : Nat → Int32) :
    ∃ tl' th', fX8_laysLoss A tl th (nI t) 0 (nI hr) = some (tl', th') ∧ ∀ v, v < 12 → DS (qp (tk B hr) no_one) (lossN B) t v (dd B hr no_one t v) ∧ DB (dd B hr no_one t v) ∧ tl' v = encL (dd B hr no_one t v) ∧ ∀ L k, dd B hr no_one t v = some (L, k) → th' v = nI k ∧ k ≤ 11 := lay8 h hB hh bits_no ht tl th
def twB (n : Nat) (v u : Int32) : Bool := winZ n v.toInt && (winZ n u.toInt && !decide (v = u))
theorem two7w {n : Nat} (hn : n ≤ 12) (v u : Int32) : fX7_areTwoWindows (nI n) v u = some (bI (twB n v u)) := by
  unfold fX7_areTwoWindows twB
  rw [hasW_eq hn, hasW_eq hn, bd1_some, bd1_some, bI_0', bI_0']
  cases winZ n v.toInt <;> cases winZ n u.toInt <;> by_cases e : v = u <;> simp [e, bI]
theorem two8w {A : Nat → Int32} {B : Nat → Nat} (h : MB A 0 B) (hB : WF B) (v u : Int32) : fX8_areTwo A v u = some (bI (twB (B 0) v u)) := by
  unfold fX8_areTwo twB
  rw [isWin8 h hB, isWin8 h hB, bd1_some, bd1_some, bI_0', bI_0', Int32.toInt_toInt64, Int32.toInt_toInt64]
  cases winZ (B 0) v.toInt <;> cases winZ (B 0) u.toInt <;> by_cases e : v = u <;> simp [e, bI]
theorem twB_of {n : Nat} (hn : n ≤ 12) {v u : Int32} (h : twB n v u = true) : ∃ a b, a < n ∧ b < n ∧ a ≠ b ∧ v = nI a ∧ u = nI b := by
  unfold twB at h
  rw [Bool.and_eq_true, Bool.and_eq_true] at h
  obtain ⟨a, ha, rfl⟩ := winZ_of h.1
  obtain ⟨b, hb, rfl⟩ := winZ_of h.2.1
  refine ⟨a, b, ha, hb, fun e => ?_, rfl, rfl⟩
  have := h.2.2
  rw [e] at this
  simp at this
theorem heard7 {B : Nat → Nat} (hB : WF B) {hr a b x : Nat} {pst : Nat → Prop} {links prices : Nat → Int32} (hl : LK links (tk B hr)) (hpr : PR prices (tk B hr) (lossN B)) (ha : a < B 0) (hb : b < B 0) (hx : Bits x 12 pst) (hpt : ¬ pst b) (rest : Nat → Int32) :
    ∃ rest', fX7_heardPast (nI (B 3)) (nI (B 0)) links prices rest (nI a) (nI b) (nI x) = some (bI (hdB (dd B hr pst b a) (B 3)), rest') := by
  have h12 := hB.1
  have h3 := hB.2.2.2.2.1
  obtain ⟨rest', g1, g2⟩ := meas7 hB hl hpr hb hx hpt rest
  refine ⟨rest', ?_⟩
  unfold fX7_heardPast
  rw [g1, bd1_some, heardF7 (by omega) (g2 a (by omega)).2.1 (g2 a (by omega)).2.2 (by omega), bd1_some, bzI_bI]
theorem heard8 {A : Nat → Int32} {B : Nat → Nat} (h : MB A 0 B) (hB : WF B) {hr a b x : Nat} (hh : hr < 100000) {pst : Nat → Prop} (ha : a < B 0) (hb : b < B 0) (hx : Bits x 12 pst) (tl th : Nat → Int32) :
    ∃ tl' th', fX8_isHeard A tl th (nI a) (nI b) (nI x) (nI hr) = some (bI (hdB (dd B hr pst b a) (B 3)), tl', th') := by
  have h12 := hB.1
  have h3 := hB.2.2.2.2.1
  obtain ⟨tl', th', g1, g2⟩ := lay8 h hB hh hx hb tl th
  refine ⟨tl', th', ?_⟩
  unfold fX8_isHeard
  rw [g1, bd2_some, rdI_nI (by omega) (by decide), rdA3 h, (g2 a (by omega)).2.2.1]
  cases e : hdB (dd B hr pst b a) (B 3) with
  | false => exact if_pos ((encL_le (g2 a (by omega)).2.1 (by omega)).mpr e)
  | true => exact if_neg (fun h => by rw [(encL_le (g2 a (by omega)).2.1 (by omega)).mp h] at e; exact absurd e (by decide))
theorem hears_loops {A : Nat → Int32} {B : Nat → Nat} (hM : MB A 0 B) (hB : WF B) {D : Nat → Option (Nat × Nat)} {rest tl : Nat → Int32} (h7 : ∀ v, v < 12 → DB (D v) ∧ rest v = encC (D v)) (h8 : ∀ v, v < 12 → tl v = encL (D v)) {a : Nat} (ha : a < B 0) (K1 : Int32 → Option (Int32 × Int32 × (Nat → Int32) × (Nat → Int32) × (Nat → Int32))) (K2 : Int32 → Option (Int32 × Int32 × (Nat → Int32) × (Nat → Int32))) :
    ∀ k i F G s, i + k = B 0 → k < F → k < G → ∃ s', fX7_hears_45 (nI a) (nI (B 0)) (nI (B 3)) rest K1 F (nI s) (nI i) = K1 (nI s') ∧ fX8_hears_33 (nI a) A tl K2 G (nI s) (nI i) = K2 (nI s') := by
  have h12 := hB.1
  have h3 := hB.2.2.2.2.1
  intro k
  induction k with
  | zero =>
    intro i F G s hi hF hG
    obtain ⟨F, rfl⟩ : ∃ m, F = m + 1 := ⟨F - 1, by omega⟩
    obtain ⟨G, rfl⟩ : ∃ m, G = m + 1 := ⟨G - 1, by omega⟩
    refine ⟨s, ?_, ?_⟩
    · rw [fX7_hears_45, if_pos (ile (by omega) (by omega))]
    · rw [fX8_hears_33, rdA0 hM, if_pos (ile (by omega) (by omega))]
  | succ k ih =>
    intro i F G s hi hF hG
    obtain ⟨F, rfl⟩ : ∃ m, F = m + 1 := ⟨F - 1, by omega⟩
    obtain ⟨G, rfl⟩ : ∃ m, G = m + 1 := ⟨G - 1, by omega⟩
    have g7 := h7 i (by omega)
    rw [fX7_hears_45, if_neg (inle (by omega) (by omega)), fX8_hears_33, rdA0 hM, if_neg (inle (by omega) (by omega)), jn_eq, heardF7 (by omega) g7.1 g7.2 (by omega), bd1_some, bI_0', rdI_nI (by omega) (by decide), rdA3 hM, h8 i (by omega), nI_inc]
    by_cases e : i = a
    · rw [if_pos (by rw [e]), if_pos (by rw [e])]
      dsimp only
      rw [bnd_e, or0]
      exact ih (i + 1) F G s (by omega) (by omega) (by omega)
    · rw [if_neg (ine e (by omega) (by omega)), if_neg (ine e (by omega) (by omega))]
      cases hd : hdB (D i) (B 3) with
      | false =>
        rw [if_pos ((encL_le g7.1 (by omega)).mpr hd)]
        dsimp only
        rw [bnd_e, or0]
        exact ih (i + 1) F G s (by omega) (by omega) (by omega)
      | true =>
        have hnl : ¬ nI (B 3) < encL (D i) := fun h => by rw [(encL_le g7.1 (by omega)).mp h] at hd; exact absurd hd (by decide)
        rw [if_pos rfl, if_neg hnl]
        dsimp only
        rw [bnd_e, bnd_e, sh1 (by omega), fa_or]
        exact ih (i + 1) F G _ (by omega) (by omega) (by omega)
theorem st_hears : Step_hears Rel0 := by
  intro w0 w1 w2 w3 w4 w5 w6 w7 w8 w9 w10 w11 xt xn xf xp rs rz rv made im all has mt mn mf mp so ma nu y0 y1 y2 y3 th ml mh v hR
  obtain ⟨⟨B, hB, hM, hC⟩, hT, hF, hRw, hI⟩ := id hR
  obtain ⟨e0, e4, e2, e3, e5, e1, ⟨m, P, em, hL⟩, hc, hw⟩ := id hC
  dsimp only at e0 e4 e2 e3 e5 e1 em hL hc hw
  subst e0 e4 e2 e3 e5 e1 em
  have h12 := hB.1
  have hh := hB.2.2.1
  unfold fX7_hears fX8_hears
  rw [hasW_eq h12, bd1_some, isWin8 hM hB, bd1_some, Int32.toInt_toInt64, bI_0', bI_0']
  cases hv : winZ (B 0) v.toInt with
  | false => exact ⟨-2, y0, y1, y2, y3, 0, ml, mh, rfl, rfl, hR⟩
  | true =>
    obtain ⟨a, hal, rfl⟩ := winZ_of hv
    obtain ⟨l', q', t1, t2, t3⟩ := take_ok hL hB hw (show B 1 < 100000 by omega) y0 y1 y2
    obtain ⟨rest, g1, g2⟩ := meas7_0 hB t2 t3 hal y3
    obtain ⟨tl, tn, g3, g4⟩ := lay8_0 hM hB (show B 1 < 100000 by omega) hal ml mh
    rw [if_pos rfl, if_pos rfl, t1, bd3_some, g1, bd1_some, rdA1 hM, g3, bd2_some]
    obtain ⟨s, k1, k2⟩ := hears_loops hM hB (D := dd B (B 1) no_one a) (rest := rest) (tl := tl) (fun v hv => (g2 v hv).2) (fun v hv => (g4 v hv).2.2.1) hal (fun (w_16 : Int32) => some (w_16, nI (B 0), l', q', rest)) (fun (w_21 : Int32) => some (w_21, (0 : Int32), tl, tn)) (B 0) 0 FU FU 0 (by omega) (FU_big (by omega)) (FU_big (by omega))
    exact ⟨nI s, nI (B 0), l', q', rest, 0, tl, tn, k1, k2, hR⟩
theorem bitsP {k : Nat} (hk : k < 12) : Bits (2 ^ k) 12 (fun j => j = k) := bits1 hk
theorem st_needs : Step_needs Rel0 := by
  intro w0 w1 w2 w3 w4 w5 w6 w7 w8 w9 w10 w11 xt xn xf xp rs rz rv made im all has mt mn mf mp so ma nu y0 y1 y2 y3 th ml mh v u hR
  obtain ⟨⟨B, hB, hM, hC⟩, hT, hF, hRw, hI⟩ := id hR
  obtain ⟨e0, e4, e2, e3, e5, e1, ⟨m, P, em, hL⟩, hc, hw⟩ := id hC
  dsimp only at e0 e4 e2 e3 e5 e1 em hL hc hw
  subst e0 e4 e2 e3 e5 e1 em
  have h12 := hB.1
  have hh := hB.2.2.1
  unfold fX7_needs fX8_needs
  rw [two7w h12, two8w hM hB, bd1_some, bd1_some, bI_0', bI_0']
  cases hv : twB (B 0) v u with
  | false => exact ⟨-2, y0, y1, y2, y3, 0, ml, mh, rfl, rfl, hR⟩
  | true =>
    obtain ⟨a, b, ha, hb, hab, rfl, rfl⟩ := twB_of h12 hv
    obtain ⟨l', q', t1, t2, t3⟩ := take_ok hL hB hw (show B 1 < 100000 by omega) y0 y1 y2
    obtain ⟨rest, g1⟩ := heard7 hB t2 t3 ha hb bits_no (fun h => h) y3
    obtain ⟨tl, tn, g3⟩ := heard8 hM hB (show B 1 < 100000 by omega) ha hb bits_no ml mh
    replace g1 : fX7_heardPast (nI (B 3)) (nI (B 0)) l' q' y3 (nI a) (nI b) 0 = _ := g1
    replace g3 : fX8_isHeard all ml mh (nI a) (nI b) 0 (nI (B 1)) = _ := g3
    rw [if_pos rfl, if_pos rfl, t1, bd3_some, g1, bd2_some, rdA1 hM, g3, bd3_some, bI_0', bI_0']
    cases hd : hdB (dd B (B 1) no_one b a) (B 3) with
    | false => exact ⟨-1, nI (B 0), l', q', rest, 0, tl, tn, rfl, rfl, hR⟩
    | true =>
      rw [if_pos rfl, if_pos rfl]
      have L : ∀ k i F G rest tl tn, i + k = B 0 → k < F → k < G → ∃ r rest' tl' tn', fX7_needs_44 (nI a) (nI b) (nI (B 0)) (nI (B 3)) (nI (B 0)) l' q' (fun (wy_rest_19 : Nat → Int32) => some ((-1 : Int32), nI (B 0), l', q', wy_rest_19)) F (nI i) rest = some (r, nI (B 0), l', q', rest') ∧ fX8_needs_37 (nI a) (nI b) 0 all (fun (t_loss_23 : Nat → Int32) (t_hops_24 : Nat → Int32) => some ((-1 : Int32), (0 : Int32), t_loss_23, t_hops_24)) G (nI i) tl tn = some (r, 0, tl', tn') := by
        intro k
        induction k with
        | zero =>
          intro i F G rest tl tn hi hF hG
          obtain ⟨F, rfl⟩ : ∃ m, F = m + 1 := ⟨F - 1, by omega⟩
          obtain ⟨G, rfl⟩ : ∃ m, G = m + 1 := ⟨G - 1, by omega⟩
          refine ⟨-1, rest, tl, tn, ?_, ?_⟩
          · rw [fX7_needs_44, if_pos (ile (by omega) (by omega))]
          · rw [fX8_needs_37, rdA0 hM, if_pos (ile (by omega) (by omega))]
        | succ k ih =>
          intro i F G rest tl tn hi hF hG
          obtain ⟨F, rfl⟩ : ∃ m, F = m + 1 := ⟨F - 1, by omega⟩
          obtain ⟨G, rfl⟩ : ∃ m, G = m + 1 := ⟨G - 1, by omega⟩
          rw [fX7_needs_44, if_neg (inle (by omega) (by omega)), fX8_needs_37, rdA0 hM, if_neg (inle (by omega) (by omega)), nI_inc, sh1 (by omega), rdA1 hM]
          by_cases ea : i = a
          · rw [if_pos (by rw [ea]), if_pos (by rw [ea])]
            exact ih (i + 1) F G rest tl tn (by omega) (by omega) (by omega)
          · rw [if_neg (ine ea (by omega) (by omega)), if_neg (ine ea (by omega) (by omega))]
            by_cases eb : i = b
            · rw [if_pos (by rw [eb]), if_pos (by rw [eb])]
              exact ih (i + 1) F G rest tl tn (by omega) (by omega) (by omega)
            · obtain ⟨rest1, k1⟩ := heard7 hB t2 t3 ha hb (bitsP (show i < 12 by omega)) (fun h => eb h.symm) rest
              obtain ⟨tl1, tn1, k3⟩ := heard8 hM hB (show B 1 < 100000 by omega) ha hb (bitsP (show i < 12 by omega)) tl tn
              rw [if_neg (ine eb (by omega) (by omega)), if_neg (ine eb (by omega) (by omega)), k1, k3, bd2_some, bd3_some, bI_0', bI_0']
              cases hd : hdB (dd B (B 1) (fun j => j = i) b a) (B 3) with
              | false => exact ⟨nI i, rest1, tl1, tn1, rfl, rfl⟩
              | true =>
                rw [if_pos rfl, if_pos rfl]
                exact ih (i + 1) F G rest1 tl1 tn1 (by omega) (by omega) (by omega)
      obtain ⟨r, rest', tl', tn', k1, k2⟩ := L (B 0) 0 FU FU rest tl tn (by omega) (FU_big (by omega)) (FU_big (by omega))
      exact ⟨r, nI (B 0), l', q', rest', 0, tl', tn', k1, k2, hR⟩
theorem st_openHours : Step_openHours Rel0 := by
  intro w0 w1 w2 w3 w4 w5 w6 w7 w8 w9 w10 w11 xt xn xf xp rs rz rv made im all has mt mn mf mp so ma nu y0 y1 y2 y3 th ml mh v hR
  obtain ⟨⟨B, hB, hM, hC⟩, hT, hF, hRw, hI⟩ := id hR
  obtain ⟨e0, e4, e2, e3, e5, e1, ⟨m, P, em, hL⟩, hc, hw⟩ := id hC
  dsimp only at e0 e4 e2 e3 e5 e1 em hL hc hw
  subst e0 e4 e2 e3 e5 e1 em
  have h12 := hB.1
  unfold fX7_openHours fX8_openHours
  rw [hasP_eq h12, bd1_some, isPair8 hM hB, bd1_some, Int32.toInt_toInt64, bI_0', bI_0']
  cases hv : pairZ (B 0) v.toInt with
  | false => exact ⟨-2, y0, y1, y2, y3, 0, ml, mh, rfl, rfl, hR⟩
  | true =>
    obtain ⟨a, b, hab, hb, rfl⟩ := pairZ_of h12 hv
    rw [if_pos rfl, if_pos rfl]
    have L : ∀ k i F G s z0 z1 z2 z3 tl tn, i + k = 12 → k < F → k < G → ∃ s' z0' z1' z2' z3' tl' tn', fX7_openHours_19 (nI (20 * a + b)) (nI (B 0)) (nI (B 4)) (nI (B 2)) (nI (B 3)) (nI m) w8 w9 w10 w11 (fun (w_18 : Int32) (wy_windows_19 : Int32) (wy_links_20 : Nat → Int32) (wy_prices_21 : Nat → Int32) (wy_rest_22 : Nat → Int32) => some (w_18, wy_windows_19, wy_links_20, wy_prices_21, wy_rest_22)) F (nI s) (nI i) z0 z1 z2 z3 = some (nI s', z0', z1', z2', z3') ∧ fX8_openHours_21 (nI (20 * a + b)) all (fun (w_13 : Int32) (t_loss_14 : Nat → Int32) (t_hops_15 : Nat → Int32) => some (w_13, (0 : Int32), t_loss_14, t_hops_15)) G (nI s) (nI i) tl tn = some (nI s', 0, tl', tn') := by
      intro k
      induction k with
      | zero =>
        intro i F G s z0 z1 z2 z3 tl tn hi hF hG
        obtain ⟨F, rfl⟩ : ∃ m, F = m + 1 := ⟨F - 1, by omega⟩
        obtain ⟨G, rfl⟩ : ∃ m, G = m + 1 := ⟨G - 1, by omega⟩
        refine ⟨s, z0, z1, z2, z3, tl, tn, ?_, ?_⟩
        · rw [fX7_openHours_19, lit 12, if_pos (ile (by omega) (by omega))]
        · rw [fX8_openHours_21, lit 12, if_pos (ile (by omega) (by omega))]
      | succ k ih =>
        intro i F G s z0 z1 z2 z3 tl tn hi hF hG
        obtain ⟨F, rfl⟩ : ∃ m, F = m + 1 := ⟨F - 1, by omega⟩
        obtain ⟨G, rfl⟩ : ∃ m, G = m + 1 := ⟨G - 1, by omega⟩
        obtain ⟨l', q', t1, t2, t3⟩ := take_ok hL hB hw (show i < 100000 by omega) z0 z1 z2
        obtain ⟨rest1, k1⟩ := heard7 hB t2 t3 (show a < B 0 by omega) hb bits_no (fun h => h) z3
        obtain ⟨tl1, tn1, k3⟩ := heard8 hM hB (show i < 100000 by omega) (show a < B 0 by omega) hb bits_no tl tn
        replace k1 : fX7_heardPast (nI (B 3)) (nI (B 0)) l' q' z3 (nI a) (nI b) 0 = _ := k1
        replace k3 : fX8_isHeard all tl tn (nI a) (nI b) 0 (nI i) = _ := k3
        rw [fX7_openHours_19, lit 12, if_neg (inle (by omega) (by omega)), fX8_openHours_21, lit 12, if_neg (inle (by omega) (by omega)), t1, bd3_some, les_nI (by omega), bd1_some, gre_nI (by omega), bd1_some, show (20 * a + b) / 20 = a by omega, show (20 * a + b) % 20 = b by omega, k1, bd2_some, rem20 (by omega) (by omega), div20 (by omega) (by omega), k3, bd3_some, bI_0', jn_eq, bI_0', nI_inc]
        cases hd : hdB (dd B i no_one b a) (B 3) with
        | false =>
          dsimp only
          rw [if_neg (by decide), if_neg (by decide), bnd_e, or0]
          exact ih (i + 1) F G s _ _ _ _ _ _ (by omega) (by omega) (by omega)
        | true =>
          dsimp only
          rw [if_pos rfl, if_pos rfl, bnd_e, bnd_e, sh1 (by omega), fa_or]
          exact ih (i + 1) F G _ _ _ _ _ _ _ (by omega) (by omega) (by omega)
    obtain ⟨s', z0', z1', z2', z3', tl', tn', k1, k2⟩ := L 12 0 FU FU 0 y0 y1 y2 y3 ml mh (by omega) (FU_big (by omega)) (FU_big (by omega))
    exact ⟨nI s', z0', z1', z2', z3', 0, tl', tn', k1, k2, hR⟩
theorem st_overhears : Step_overhears Rel0 := by
  intro w0 w1 w2 w3 w4 w5 w6 w7 w8 w9 w10 w11 xt xn xf xp rs rz rv made im all has mt mn mf mp so ma nu y0 y1 y2 y3 th ml mh mw mwl v u hR
  obtain ⟨⟨B, hB, hM, hC⟩, hT, hF, hRw, hI⟩ := id hR
  obtain ⟨e0, e4, e2, e3, e5, e1, ⟨m, P, em, hL⟩, hc, hw⟩ := id hC
  dsimp only at e0 e4 e2 e3 e5 e1 em hL hc hw
  subst e0 e4 e2 e3 e5 e1 em
  have h12 := hB.1
  have hh := hB.2.2.1
  unfold fX7_overhears fX8_overhears
  rw [two7w h12, two8w hM hB, bd1_some, bd1_some, bI_0', bI_0']
  cases hv : twB (B 0) v u with
  | false => exact ⟨-2, y0, y1, y2, y3, 0, ml, mh, mw, mwl, rfl, rfl, hR⟩
  | true =>
    obtain ⟨a, b, ha, hb, hab, rfl, rfl⟩ := twB_of h12 hv
    obtain ⟨l', q', t1, t2, t3⟩ := take_ok hL hB hw (show B 1 < 100000 by omega) y0 y1 y2
    obtain ⟨rest, g1, g2⟩ := meas7_0 hB t2 t3 hb y3
    obtain ⟨tl, tn, g3, g4⟩ := lay8_0 hM hB (show B 1 < 100000 by omega) hb ml mh
    rw [if_pos rfl, if_pos rfl, t1, bd3_some, g1, bd1_some, rdA1 hM, g3, bd2_some, rdI_nI (by omega) (by decide), (g4 a (by omega)).2.2.1]
    cases hd : dd B (B 1) no_one b a with
    | none =>
      refine ⟨0, nI (B 0), l', q', rest, 0, tl, tn, mw, mwl, ?_, if_pos rfl, hR⟩
      obtain ⟨F, hFU⟩ : ∃ m, FU = m + 1 := ⟨FU - 1, by have := FU_ne; omega⟩
      rw [hFU, fX7_overhears_44, strF7 (by omega) (g2 a (by omega)).2.1 (g2 a (by omega)).2.2, hd, bd1_some]
      exact if_pos (by decide)
    | some d =>
      obtain ⟨L, h⟩ := d
      obtain ⟨b1, b2⟩ := (g2 a (by omega)).2.1 L h hd
      have b3 := ((g4 a (by omega)).2.2.2 L h hd).2
      have hne : ¬ encL (some (L, h)) = 1000000 := by
        show ¬ nI L = 1000000
        rw [lit 1000000]; exact ine (by omega) (by omega) (by decide)
      obtain ⟨way, p1, p2⟩ := walks8 hM hB bits_no (fun h => h) g4 (show a < 12 by omega) hd mw mwl
      replace p1 : fX8_walks all tl tn mw mwl (nI a) 0 = _ := p1
      rw [if_neg hne, p1, bd2_some]
      have hS : ∀ u, u < 12 → DS (qp (tk B (B 1)) no_one) (lossN B) b u (dst (qp (tk B (B 1)) no_one) (lossN B) b u) := fun u hu => (g2 u hu).1
      have hp : ∀ u v, tk B (B 1) u v → u < 12 ∧ v < 12 := fun u v h => ⟨h.1, h.2.1⟩
      have Lp : ∀ k i F G s, i + k = max h i → i ≥ 1 → i < 100 → k < F → k < G → ∃ s', fX7_overhears_44 (nI a) (nI (B 0)) l' q' rest (fun (w_16 : Int32) => some (w_16, nI (B 0), l', q', rest)) F (nI s) (nI i) = some (nI s', nI (B 0), l', q', rest) ∧ fX8_overhears_53 way (nI h) (fun (w_19 : Int32) => some (w_19, (0 : Int32), tl, tn, way, nI h)) G (nI s) (nI i) = some (nI s', 0, tl, tn, way, nI h) := by
        intro k
        induction k with
        | zero =>
          intro i F G s hi h1 hi2 hF hG
          obtain ⟨F, rfl⟩ : ∃ m, F = m + 1 := ⟨F - 1, by omega⟩
          obtain ⟨G, rfl⟩ : ∃ m, G = m + 1 := ⟨G - 1, by omega⟩
          refine ⟨s, ?_, ?_⟩
          · rw [fX7_overhears_44, strF7 (by omega) (g2 a (by omega)).2.1 (g2 a (by omega)).2.2, hd, bd1_some]
            exact if_pos (ile (by omega) (by omega))
          · rw [fX8_overhears_53, if_pos (ile (by omega) (by omega))]
        | succ k ih =>
          intro i F G s hi h1 hi2 hF hG
          obtain ⟨F, rfl⟩ : ∃ m, F = m + 1 := ⟨F - 1, by omega⟩
          obtain ⟨G, rfl⟩ : ∃ m, G = m + 1 := ⟨G - 1, by omega⟩
          obtain ⟨L2, z1, z2⟩ := way_d hS hp i a L h (by omega) hd (by omega)
          have hwn : fX6_windowOnWay (nI (B 0)) l' q' rest (nI a) (nI i) = some (nI (wyN (nxw (tk B (B 1)) (dst (qp (tk B (B 1)) no_one) (lossN B) b) (lossN B)) a i)) := by
            rw [onWay7 h12 t2 t3 (tk_hp hB) (tk_hc hB) g2 (by omega) (by omega), show dst (qp (tk B (B 1)) no_one) (lossN B) b a = some (L, h) from hd]
            show some (if i ≤ h then _ else _) = _
            rw [if_pos (by omega)]
          rw [fX7_overhears_44, strF7 (by omega) (g2 a (by omega)).2.1 (g2 a (by omega)).2.2, hd, bd1_some, hwn, bd1_some, bnd_e, sh1 (by omega), fa_or, nI_inc, fX8_overhears_53, if_neg (inle (by omega) (by omega)), rdI_nI (by omega) (by decide), p2 i (by omega), bnd_e, sh1 (by omega), fa_or, nI_inc]
          obtain ⟨s', k1, k2⟩ := ih (i + 1) F G _ (by omega) (by omega) (by omega) (by omega) (by omega)
          exact ⟨s', (if_neg (inle (by omega) (by omega))).trans k1, k2⟩
      obtain ⟨s', k1, k2⟩ := Lp (h - 1) 1 FU FU 0 (by omega) (by omega) (by omega) (FU_big (by omega)) (FU_big (by omega))
      exact ⟨nI s', nI (B 0), l', q', rest, 0, tl, tn, way, nI h, k1, k2, hR⟩
