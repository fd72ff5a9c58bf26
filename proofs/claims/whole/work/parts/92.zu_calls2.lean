-- uses:
/-! calls: the routes, both loops, the step -/
theorem way_pack {B : Nat → Nat} {t f L h : Nat} (hS : ∀ u, u < 12 → DS (qp (tk B (B 1)) no_one) (lossN B) t u (dst (qp (tk B (B 1)) no_one) (lossN B) t u)) (hf : f < 12) (e : dst (qp (tk B (B 1)) no_one) (lossN B) t f = some (L, h)) :
    ∃ ω : Nat → Nat, (∀ k, ω k = wyN (nxw (tk B (B 1)) (dst (qp (tk B (B 1)) no_one) (lossN B) t) (lossN B)) f k) ∧ (∀ k, k ≤ h → ω k < 12) ∧ (∀ k, k < h → tk B (B 1) (ω k) (ω (k + 1))) ∧ ∀ i j, i < j → j < h → 20 * min (ω i) (ω (i + 1)) + max (ω i) (ω (i + 1)) ≠ 20 * min (ω j) (ω (j + 1)) + max (ω j) (ω (j + 1)) := by
  have hp : ∀ u v, tk B (B 1) u v → u < 12 ∧ v < 12 := fun u v h => ⟨h.1, h.2.1⟩
  have hw := way_d hS hp
  refine ⟨fun k => wyN (nxw (tk B (B 1)) (dst (qp (tk B (B 1)) no_one) (lossN B) t) (lossN B)) f k, fun _ => rfl, fun k hk => ?_, fun k hk => ?_, fun i j hij hj he => ?_⟩
  · obtain ⟨_, _, h2⟩ := hw k f L h hf e hk
    exact h2
  · obtain ⟨L', h1, h2⟩ := hw k f L h hf e (by omega)
    have h1' : dst (qp (tk B (B 1)) no_one) (lossN B) t (wyN (nxw (tk B (B 1)) (dst (qp (tk B (B 1)) no_one) (lossN B) t) (lossN B)) f k) = some (L', (h - k - 1) + 1) := by rw [h1, Nat.sub_add_cancel (show 1 ≤ h - k by omega)]
    obtain ⟨n1, n2, _⟩ := nxw_ok hS hp h2 h1'
    show tk B (B 1) (wyN _ f k) (wyN _ f (k + 1))
    rw [wyN_snoc]
    exact n2.1
  · obtain ⟨La, a1, a2⟩ := hw i f L h hf e (by omega)
    obtain ⟨Lb, b1, b2⟩ := hw j f L h hf e (by omega)
    obtain ⟨Lc, c1, c2⟩ := hw (j + 1) f L h hf e (by omega)
    obtain ⟨Ld, d1, d2⟩ := hw (i + 1) f L h hf e (by omega)
    dsimp only at he
    generalize wyN (nxw (tk B (B 1)) (dst (qp (tk B (B 1)) no_one) (lossN B) t) (lossN B)) f i = x1 at *
    generalize wyN (nxw (tk B (B 1)) (dst (qp (tk B (B 1)) no_one) (lossN B) t) (lossN B)) f j = x2 at *
    generalize wyN (nxw (tk B (B 1)) (dst (qp (tk B (B 1)) no_one) (lossN B) t) (lossN B)) f (j + 1) = x3 at *
    generalize wyN (nxw (tk B (B 1)) (dst (qp (tk B (B 1)) no_one) (lossN B) t) (lossN B)) f (i + 1) = x4 at *
    have hcase : x1 = x2 ∨ x1 = x3 := by clear a1 b1 c1 d1 hS hw; omega
    rcases hcase with q | q
    · rw [q, b1] at a1
      have : h - j = h - i := by have e2 : Lb = La ∧ h - j = h - i := by simpa using a1
                                 exact e2.2
      omega
    · rw [q, c1] at a1
      have : h - (j + 1) = h - i := by have e2 : Lc = La ∧ h - (j + 1) = h - i := by simpa using a1
                                       exact e2.2
      omega
theorem tk_tied {B : Nat → Nat} (hB : WF B) {hr a b : Nat} (h : tk B hr a b) : min a b < max a b ∧ max a b < B 0 ∧ tied B (min a b) (max a b) = true := by
  obtain ⟨h1, h2, h3, _⟩ := loss_bd hB h
  have h4 : tied B a b = true := by have := h.2.2; unfold talkN at this; rw [Bool.and_eq_true] at this; exact this.1
  refine ⟨by omega, by omega, ?_⟩
  by_cases q : a < b
  · rw [Nat.min_eq_left (by omega), Nat.max_eq_right (by omega)]; exact h4
  · rw [Nat.min_eq_right (by omega), Nat.max_eq_left (by omega), tied_sym hB h.2.1 h.1]; exact h4
theorem route7 {m : Nat} {P : Nat → Nat} {pairs knots links prices rest : Nat → Int32} {B : Nat → Nat} (hL : CL m P pairs knots B) (hB : WF B) (hl : LK links (tk B (B 1))) (hpr : PR prices (tk B (B 1)) (lossN B)) {t f L h : Nat} (hR : ∀ v, v < 12 → DS (qp (tk B (B 1)) no_one) (lossN B) t v (dd B (B 1) no_one t v) ∧ DB (dd B (B 1) no_one t v) ∧ rest v = encC (dd B (B 1) no_one t v)) (hf : f < 12) (e : dd B (B 1) no_one t f = some (L, h)) (hh : h ≤ 11) {ω : Nat → Nat} (hω : ∀ k, ω k = wyN (nxw (tk B (B 1)) (dst (qp (tk B (B 1)) no_one) (lossN B) t) (lossN B)) f k) (hω2 : ∀ k, k < h → tk B (B 1) (ω k) (ω (k + 1))) (route : Nat → Int32) :
    ∃ route', fX5_layRoute route (nI m) pairs (nI (B 0)) links prices rest (nI f) = some (nI h, route') ∧ RT (fun k => ixP m P (20 * min (ω k) (ω (k + 1)) + max (ω k) (ω (k + 1)))) h route' := by
  have h12 := hB.1
  have h21 := hL.1
  unfold fX5_layRoute
  rw [strF7 hf (hR f hf).2.1 (hR f hf).2.2, e, bd1_some]
  have e1 : (if (12 : Int32) < hopI (some (L, h)) then 12 else hopI (some (L, h))) = nI h := if_neg (by rw [lit 12]; exact inlt (by omega) (by omega))
  rw [bnd_e, e1]
  have on : ∀ k, k ≤ h → fX6_windowOnWay (nI (B 0)) links prices rest (nI f) (nI k) = some (nI (ω k)) := fun k hk => by
    rw [onWay7 h12 hl hpr (tk_hp hB) (tk_hc hB) hR hf (by omega), show dst (qp (tk B (B 1)) no_one) (lossN B) t f = some (L, h) from e, ← hω k]
    show some (if k ≤ h then _ else _) = _
    rw [if_pos hk]
  have loop : ∀ r k F route, k + r = h → r < F → (∀ j, j < k → route j = nI (2 ^ ixP m P (20 * min (ω j) (ω (j + 1)) + max (ω j) (ω (j + 1))))) → ∃ route', fX5_layRoute_15 (nI f) (nI h) (nI m) pairs (nI (B 0)) links prices rest (fun (t_route_15 : Nat → Int32) => some (nI h, t_route_15)) F (nI k) route = some (nI h, route') ∧ RT (fun k => ixP m P (20 * min (ω k) (ω (k + 1)) + max (ω k) (ω (k + 1)))) h route' := by
    intro r
    induction r with
    | zero =>
      intro k F route hk hF hr
      obtain ⟨F, rfl⟩ : ∃ m, F = m + 1 := ⟨F - 1, by omega⟩
      obtain rfl : k = h := by omega
      exact ⟨route, by rw [fX5_layRoute_15, if_pos (ile (by omega) (by omega))], hr⟩
    | succ r ih =>
      intro k F route hk hF hr
      obtain ⟨F, rfl⟩ : ∃ m, F = m + 1 := ⟨F - 1, by omega⟩
      have htk := hω2 k (by omega)
      obtain ⟨g1, g2, g3⟩ := tk_tied hB htk
      obtain ⟨i1, i2, i3⟩ := ix_ok hL hB g1 g2 g3
      have w1 := htk.1
      have w2 := htk.2.1
      rw [fX5_layRoute_15, if_neg (inle (by omega) (by omega)), on k (by omega), bd1_some, nI_inc, on (k + 1) (by omega), bd1_some, pairOf7 (by omega) (by omega), bd1_some, i3, bd1_some, sh1 (by omega), wrI_nI (by omega) (by decide)]
      refine ih (k + 1) F _ (by omega) (by omega) (fun j hj => ?_)
      unfold upd
      by_cases q : j = k
      · rw [if_pos q, q]
      · rw [if_neg q]; exact hr j (by omega)
  exact loop h 0 FU route (by omega) (FU_big (by omega)) (fun j hj => absurd hj (by omega))
theorem hd_of {o : Option (Nat × Nat)} {m : Nat} (h : hdB o m = true) : ∃ L k, o = some (L, k) := by
  cases o with
  | none => exact absurd h (by simp [hdB])
  | some d => exact ⟨d.1, d.2, rfl⟩
theorem bd5_some {α β γ δ ε θ : Type} (a : α) (b : β) (c : γ) (d : δ) (e : ε) (k : α → β → γ → δ → ε → Option θ) : bd5 (some (a, b, c, d, e)) k = k a b c d e := rfl
theorem calls_loops {A ma : Nat → Int32} {m : Nat} {P p : Nat → Nat} {pairs knots links prices : Nat → Int32} {B : Nat → Nat} {f nu : Nat → Int64} {k0 c : Nat} (hM : MB A 0 B) (hL : CL m P pairs knots B) (hB : WF B) (hl : LK links (tk B (B 1))) (hpr : PR prices (tk B (B 1)) (lossN B)) (hk : k0 < 4) (hc : c ≤ 40) (em : ma k0 = nI c) (hp : ∀ j, j < c → p j / 20 < p j % 20 ∧ p j % 20 < B 0 ∧ f j = lN (p j) ∧ (f j).toInt32 = nI (p j)) (hf : ∀ j, j < c → f j = nu (40 * k0 + j))
    (K2 : Int32 → Int32 → Int32 → (Nat → Int32) → (Nat → Int32) → (Nat → Int32) → Int32 → (Nat → Int32) → (Nat → Int32) → Option (Int32 × Int32 × (Nat → Int32) × (Nat → Int32) × (Nat → Int32) × Int32 × (Nat → Int32) × (Nat → Int32))) :
    ∀ r i F G taken begins route pl en wa rest tl tn way wl isT mb T, i + r = c → r < F → r < G → CT T taken → MT m P T isT → NS T ≤ 11 * i → en ≤ 500 → (∀ j, j < i → begins j = mb j) → (∀ j, i ≤ j → j < 40 → begins j = -1) →
    ∃ taken' begins' route' pl' en' wa' rest' tl' tn' way' wl' isT' mb', fX5_placeCalls_34 (nI (B 3)) (nI m) pairs (nI (B 0)) links prices f (nI c) (fun (t_taken_31 : Nat → Int32) (t_begins_32 : Nat → Int32) (t_route_33 : Nat → Int32) (t_placed_34 : Int32) (t_ended_35 : Int32) (t_waited_36 : Int32) (p2_rest_37 : Nat → Int32) => some (t_taken_31, t_begins_32, t_route_33, t_placed_34, t_ended_35, t_waited_36, p2_rest_37)) F (nI i) taken begins route (nI pl) (nI en) (nI wa) rest = some (taken', begins', route', nI pl', nI en', nI wa', rest') ∧
      fX8_calls_102 (nI k0) A ma nu K2 G (nI pl) (nI en) (nI wa) (nI i) tl tn way wl isT mb = K2 (nI pl') (nI en') (nI wa') tl' tn' way' wl' isT' mb' ∧ (∀ j, j < c → begins' j = mb' j) ∧ ∀ j, c ≤ j → j < 40 → begins' j = -1 := by
  have h12 := hB.1
  have h21 := hL.1
  have hh := hB.2.2.1
  have h3 := hB.2.2.2.2.1
  have hPinj : ∀ i j, i < m → j < m → 12 * (P i / 20) + P i % 20 = 12 * (P j / 20) + P j % 20 → i = j := by
    intro i j hi hj he
    have a1 := hL.2.1.1 i hi
    have a2 := hL.2.1.1 j hj
    rcases Nat.lt_trichotomy i j with q | q | q
    · have := hL.2.1.2.1 i j q hj; omega
    · exact q
    · have := hL.2.1.2.1 j i q hi; omega
  intro r
  induction r with
  | zero =>
    intro i F G taken begins route pl en wa rest tl tn way wl isT mb T hi hF hG hCT hMT hN hen hb1 hb2
    obtain ⟨F, rfl⟩ : ∃ m, F = m + 1 := ⟨F - 1, by omega⟩
    obtain ⟨G, rfl⟩ : ∃ m, G = m + 1 := ⟨G - 1, by omega⟩
    obtain rfl : i = c := by omega
    exact ⟨taken, begins, route, pl, en, wa, rest, tl, tn, way, wl, isT, mb, by rw [fX5_placeCalls_34, if_pos (ile (by omega) (by omega))], by rw [fX8_calls_102, rdI_nI hk (by decide), em, if_pos (ile (by omega) (by omega))], hb1, hb2⟩
  | succ r ih =>
    intro i F G taken begins route pl en wa rest tl tn way wl isT mb T hi hF hG hCT hMT hN hen hb1 hb2
    obtain ⟨F, rfl⟩ : ∃ m, F = m + 1 := ⟨F - 1, by omega⟩
    obtain ⟨G, rfl⟩ : ∃ m, G = m + 1 := ⟨G - 1, by omega⟩
    obtain ⟨q1, q2, q3, q4⟩ := hp i (by omega)
    have q5 : (nu (40 * k0 + i)).toInt32 = nI (p i) := by rw [← hf i (by omega)]; exact q4
    have d1 : nI (p i) / 20 = nI (p i / 20) := by rw [lit 20, pk_div (by omega) (by decide) (by decide)]
    have d2 : nI (p i) - nI (p i / 20) * 20 = nI (p i % 20) := by rw [← d1, lit 20, pk_rem (by omega) (by decide) (by decide)]
    obtain ⟨rest1, g1, g2⟩ := meas7_0 hB hl hpr q2 rest
    obtain ⟨tl1, tn1, g3, g4⟩ := lay8_0 hM hB (show B 1 < 100000 by omega) q2 tl tn
    have gh8 : fX8_isHeard A tl tn (nI (p i / 20)) (nI (p i % 20)) 0 (nI (B 1)) = some (bI (hdB (dd B (B 1) no_one (p i % 20) (p i / 20)) (B 3)), tl1, tn1) := by
      unfold fX8_isHeard
      rw [g3, bd2_some, rdI_nI (by omega) (by decide), rdA3 hM, (g4 (p i / 20) (by omega)).2.2.1]
      cases e : hdB (dd B (B 1) no_one (p i % 20) (p i / 20)) (B 3) with
      | false => exact if_pos ((encL_le (g4 _ (by omega)).2.1 (by omega)).mpr e)
      | true => exact if_neg (fun h => by rw [(encL_le (g4 _ (by omega)).2.1 (by omega)).mp h] at e; exact absurd e (by decide))
    rw [fX5_placeCalls_34, if_neg (inle (by omega) (by omega)), numAt7 hc (by omega), bd1_some, bnd_e, q4, gre_nI (by omega), bd1_some, g1, bd1_some, les_nI (by omega), bd1_some, heardF7 (by omega) (g2 _ (by omega)).2.1 (g2 _ (by omega)).2.2 (by omega), bd1_some, bI_0', bd1_some]
    rw [fX8_calls_102, rdI_nI hk (by decide), em, if_neg (inle (by omega) (by omega)), row_at (c := 0) hk, rdL_nI (by omega) (by decide), bnd_e, q5, wrI_nI (by omega) (by decide), rdA1 hM, d1, d2, gh8, bd3_some, bI_0']
    cases hd : hdB (dd B (B 1) no_one (p i % 20) (p i / 20)) (B 3) with
    | false =>
      simp only [Bool.false_eq_true, if_false]
      rw [nI_inc]
      refine ih (i + 1) F G taken begins route pl en wa rest1 tl1 tn1 way wl isT (upd mb i (-1)) T (by omega) (by omega) (by omega) hCT hMT (by omega) hen (fun j hj => ?_) (fun j h1 h2 => hb2 j (by omega) h2)
      unfold upd
      by_cases q : j = i
      · rw [if_pos q, q]; exact hb2 i (Nat.le_refl _) (by omega)
      · rw [if_neg q]; exact hb1 j (by omega)
    | true =>
      simp only [if_true]
      obtain ⟨L, h, hdd⟩ := hd_of hd
      have hh11 : h ≤ 11 := ((g4 (p i / 20) (by omega)).2.2.2 L h hdd).2
      obtain ⟨ω, o1, o2, o3, o4⟩ := way_pack (fun u hu => (g2 u hu).1) (show p i / 20 < 12 by omega) hdd
      obtain ⟨route1, r1, r2⟩ := route7 hL hB hl hpr g2 (show p i / 20 < 12 by omega) hdd hh11 o1 o3 route
      obtain ⟨way1, v1, v2⟩ := walks8 hM hB bits_no (fun h => h) g4 (show p i / 20 < 12 by omega) hdd way wl
      replace v1 : fX8_walks A tl1 tn1 way wl (nI (p i / 20)) 0 = _ := v1
      have hix : ∀ k, k < h → ixP m P (20 * min (ω k) (ω (k + 1)) + max (ω k) (ω (k + 1))) < m ∧ P (ixP m P (20 * min (ω k) (ω (k + 1)) + max (ω k) (ω (k + 1)))) = 20 * min (ω k) (ω (k + 1)) + max (ω k) (ω (k + 1)) := fun k hk => by
        obtain ⟨z1, z2, z3⟩ := tk_tied hB (o3 k hk)
        obtain ⟨i1, i2, _⟩ := ix_ok hL hB z1 z2 z3
        exact ⟨i1, i2⟩
      have hW : wyR m P (fun k => ixP m P (20 * min (ω k) (ω (k + 1)) + max (ω k) (ω (k + 1)))) ω h way1 := ⟨fun k hk => ⟨by rw [v2 k hk, o1 k], o2 k hk⟩, hix⟩
      have hρ : ∀ k, k < h → (fun k => ixP m P (20 * min (ω k) (ω (k + 1)) + max (ω k) (ω (k + 1)))) k < 21 := fun k hk => Nat.lt_of_lt_of_le (hix k hk).1 h21
      have hinj : ∀ i j, i < j → j < h → (fun k => ixP m P (20 * min (ω k) (ω (k + 1)) + max (ω k) (ω (k + 1)))) i ≠ (fun k => ixP m P (20 * min (ω k) (ω (k + 1)) + max (ω k) (ω (k + 1)))) j := fun a b hab hb he => by
        have e1 := (hix a (by omega)).2
        have e2 := (hix b hb).2
        have he' : ixP m P (20 * min (ω a) (ω (a + 1)) + max (ω a) (ω (a + 1))) = ixP m P (20 * min (ω b) (ω (b + 1)) + max (ω b) (ω (b + 1))) := he
        rw [he', e2] at e1
        exact o4 a b hab hb e1.symm
      generalize hρe : (fun k => ixP m P (20 * min (ω k) (ω (k + 1)) + max (ω k) (ω (k + 1)))) = ρ at hW hρ hinj r2
      obtain ⟨t, t1, t2, t3⟩ := free_at (T := T) (ρ := ρ) (h := h) (n := 11 * i) hρ hinj hh11 (by omega) hN
      obtain ⟨taken1, s1, s2⟩ := place7 (pl := pl) (en := en) (wa := wa) hCT r2 hρ hh11 (show t ≤ 440 by omega) t2 t3 (by omega)
      have hN1 : NS (TU T ρ t h) ≤ 11 * (i + 1) := by
        have := NS_TU (T := T) (ρ := ρ) (t := t) h (fun j hj => ⟨hρ j hj, by omega⟩)
        omega
      rw [r1, bd2_some, s1, bd5_some, wrI_nI (by omega) (by decide), v1, bd2_some, begin8 hW hMT hh11 (by omega) t2 t3]
      obtain ⟨isT1, m1, m2⟩ := mark8 (T := T) hW hPinj hh11 (show t ≤ 440 by omega) (fun (t_isTaken_48 : Nat → Int32) => wrI 40 (upd mb i (-1)) (nI i) (nI t) (fun t_begins_49 => bnd (nI wa + nI t) (fun y_51 => if (nI t + nI h) ≤ nI en then fX8_calls_102 (nI k0) A ma nu K2 G (nI pl + 1) (nI en) y_51 (nI i + 1) tl1 tn1 way1 (nI h) t_isTaken_48 t_begins_49 else bnd (nI t + nI h) (fun y_53 => fX8_calls_102 (nI k0) A ma nu K2 G (nI pl + 1) y_53 y_51 (nI i + 1) tl1 tn1 way1 (nI h) t_isTaken_48 t_begins_49)))) h 0 FU isT (by omega) (FU_big (by omega)) hMT
      replace m1 : fX8_calls_194 (nI t) way1 (nI h) (fun (t_isTaken_48 : Nat → Int32) => wrI 40 (upd mb i (-1)) (nI i) (nI t) (fun t_begins_49 => bnd (nI wa + nI t) (fun y_51 => if (nI t + nI h) ≤ nI en then fX8_calls_102 (nI k0) A ma nu K2 G (nI pl + 1) (nI en) y_51 (nI i + 1) tl1 tn1 way1 (nI h) t_isTaken_48 t_begins_49 else bnd (nI t + nI h) (fun y_53 => fX8_calls_102 (nI k0) A ma nu K2 G (nI pl + 1) y_53 y_51 (nI i + 1) tl1 tn1 way1 (nI h) t_isTaken_48 t_begins_49)))) FU 0 isT = _ := m1
      rw [m1, wrI_nI (by omega) (by decide), bnd_e, bnd_e, nI_add, nI_add, nI_inc, nI_inc]
      have hb1' : ∀ j, j < i + 1 → upd begins i (nI t) j = upd (upd mb i (-1)) i (nI t) j := fun j hj => by
        unfold upd
        by_cases q : j = i
        · rw [if_pos q, if_pos q]
        · rw [if_neg q, if_neg q, if_neg q]; exact hb1 j (by omega)
      have hb2' : ∀ j, i + 1 ≤ j → j < 40 → upd begins i (nI t) j = -1 := fun j h1 h2 => by
        unfold upd
        rw [if_neg (by omega)]; exact hb2 j (by omega) h2
      have nxt := ih (i + 1) F G taken1 (upd begins i (nI t)) route1 (pl + 1) (max en (t + h)) (wa + t) rest1 tl1 tn1 way1 (nI h) isT1 (upd (upd mb i (-1)) i (nI t)) (TU T ρ t h) (by omega) (by omega) (by omega) s2 m2 hN1 (by omega) hb1' hb2'
      by_cases q : t + h ≤ en
      · rw [if_pos (ile q (by omega))]
        rw [Nat.max_eq_left q] at nxt ⊢
        exact nxt
      · rw [if_neg (inle (by omega) (by omega))]
        rw [Nat.max_eq_right (by omega)] at nxt ⊢
        exact nxt
theorem taken_init (K : (Nat → Int32) → Option (Int32 × Int32 × (Nat → Int32) × (Nat → Int32) × (Nat → Int32) × Int32 × (Nat → Int32) × (Nat → Int32))) : ∀ r i F isT, i + r = 73728 → r < F → (∀ j, j < i → isT j = 0) → ∃ isT', fX8_calls_72 K F (nI i) isT = K isT' ∧ ∀ j, j < 73728 → isT' j = 0 := by
  intro r
  induction r with
  | zero =>
    intro i F isT hi hF h
    obtain ⟨F, rfl⟩ : ∃ m, F = m + 1 := ⟨F - 1, by omega⟩
    obtain rfl : i = 73728 := by omega
    exact ⟨isT, by rw [fX8_calls_72, lit 73728, if_pos (ile (by omega) (by omega))], h⟩
  | succ r ih =>
    intro i F isT hi hF h
    obtain ⟨F, rfl⟩ : ∃ m, F = m + 1 := ⟨F - 1, by omega⟩
    rw [fX8_calls_72, lit 73728, if_neg (inle (by omega) (by omega)), wrI_nI (by omega) (by decide), nI_inc]
    refine ih (i + 1) F _ (by omega) (by omega) (fun j hj => ?_)
    unfold upd
    by_cases q : j = i
    · rw [if_pos q]; rfl
    · rw [if_neg q]; exact h j (by omega)
theorem whatc2 (v : Int32) : (∃ k, k ≤ 2 ∧ v = nI k) ∨ (∃ k, k < 40 ∧ v = nI (10 + k)) ∨ ((v < 0 ∨ (¬ v < 0 ∧ ¬ v ≤ 2)) ∧ (v < 10 ∨ 50 ≤ v) ∧ fX8_within v.toInt64 0 2 = some 0 ∧ fX8_within v.toInt64 10 49 = some 0) := by
  have i0 : (0 : Int64).toInt = 0 := rfl
  have i1 : (2 : Int64).toInt = 2 := rfl
  have i10 : (10 : Int64).toInt = 10 := rfl
  have i21 : (49 : Int64).toInt = 49 := rfl
  have z0 : (0 : Int32).toInt = 0 := rfl
  have z1 : (2 : Int32).toInt = 2 := rfl
  have z10 : (10 : Int32).toInt = 10 := rfl
  have z22 : (50 : Int32).toInt = 50 := rfl
  by_cases h0 : 0 ≤ v.toInt ∧ v.toInt ≤ 2
  · refine Or.inl ⟨v.toInt.toNat, by omega, ?_⟩
    apply Int32.toInt_inj.mp
    rw [nI_toInt (by omega)]
    omega
  · by_cases h2 : 10 ≤ v.toInt ∧ v.toInt < 50
    · refine Or.inr (Or.inl ⟨(v.toInt - 10).toNat, by omega, ?_⟩)
      apply Int32.toInt_inj.mp
      rw [nI_toInt (by omega)]
      omega
    · refine Or.inr (Or.inr ⟨?_, ?_, ?_, ?_⟩)
      · rw [Int32.lt_iff_toInt_lt, Int32.le_iff_toInt_le, z0, z1]; omega
      · rw [Int32.lt_iff_toInt_lt, Int32.le_iff_toInt_le, z10, z22]; omega
      · rw [within_eq, Int32.toInt_toInt64, i0, i1, decide_eq_false h0]; rfl
      · rw [within_eq, Int32.toInt_toInt64, i10, i21, decide_eq_false (by omega)]; rfl
theorem st_calls : Step_calls Rel0 := by
  intro w0 w1 w2 w3 w4 w5 w6 w7 w8 w9 w10 w11 xt xn xf xp rs rz rv made im all has mt mn mf mp so ma nu y0 y1 y2 y3 s0 s1 s2 s3 s4 s5 th ml mh mw mwl mis mbe v u i ei hR
  obtain ⟨⟨B, hB, hM, hC⟩, hT, hF, hRw, hI⟩ := id hR
  obtain ⟨e0, e4, e2, e3, e5, e1, ⟨m, P, em, hL⟩, hc, hw⟩ := id hC
  dsimp only at e0 e4 e2 e3 e5 e1 em hL hc hw
  subst e0 e4 e2 e3 e5 e1 em
  have h12 := hB.1
  have h21 := hL.1
  have hh := hB.2.2.1
  unfold fX7_calls fX8_calls
  rw [jn2]
  rcases row_cases v with ⟨h1, h2⟩ | ⟨k, hk, rfl, h1, h2⟩
  · exact ⟨-2, y0, y1, y2, y3, s0, s1, s2, s3, s4, s5, 0, ml, mh, mw, mwl, mis, mbe, by rw [h1]; rfl, by rw [h2]; rfl, hR⟩
  · rw [rix_nI hk] at ei
    subst ei
    rw [h1, h2, bd1_some, bd1_some, if_neg (show ¬ (1 : Int32) = 0 by decide), if_neg (show ¬ (1 : Int32) = 0 by decide), jn_eq, jn_eq]
    -- what is asked
    have bad : (u < 0 ∨ (¬ u < 0 ∧ ¬ u ≤ 2)) ∧ (u < 10 ∨ 50 ≤ u) ∧ fX8_within u.toInt64 0 2 = some 0 ∧ fX8_within u.toInt64 10 49 = some 0 ∨ ((∀ {β : Type} (c0 c1 : β), (if u < 0 then (if (if u < 10 then (0 : Int32) else if 50 ≤ u then 0 else 1) = 0 then c1 else c0) else if u ≤ 2 then c0 else (if (if u < 10 then (0 : Int32) else if 50 ≤ u then 0 else 1) = 0 then c1 else c0)) = c0) ∧ (∀ {β : Type} (c0 c1 : Option β), bd1 (fX8_within u.toInt64 0 2) (fun r_4 => jn (β := β) c0 (fun k_6 => if r_4 = 0 then bd1 (fX8_within u.toInt64 10 49) (fun r_72 => if r_72 = 0 then c1 else k_6) else k_6)) = c0) ∧ ((∃ k, k ≤ 2 ∧ u = nI k) ∨ ∃ k, k < 40 ∧ u = nI (10 + k))) := by
      rcases whatc2 u with ⟨k, hk2, hx⟩ | ⟨k, hk2, hx⟩ | hbad
      · refine Or.inr ⟨fun c0 c1 => ?_, fun c0 c1 => ?_, Or.inl ⟨k, hk2, hx⟩⟩
        · rw [if_neg (by rw [hx]; exact nI_pos (by omega)), if_pos (by rw [hx]; exact ile (b := 2) hk2 (by decide))]
        · rw [within_eq, hx, Int32.toInt_toInt64, nI_toInt (by omega), bd1_some, jn_eq, show (0 : Int64).toInt = 0 from rfl, show (2 : Int64).toInt = 2 from rfl, decide_eq_true (by omega)]; rfl
      · refine Or.inr ⟨fun c0 c1 => ?_, fun c0 c1 => ?_, Or.inr ⟨k, hk2, hx⟩⟩
        · rw [if_neg (by rw [hx]; exact nI_pos (by omega)), if_neg (show ¬ u ≤ 2 by rw [hx]; exact inle (b := 2) (by omega) (by omega)), if_neg (show ¬ u < 10 by rw [hx]; exact inlt (b := 10) (by omega) (by omega)), if_neg (show ¬ 50 ≤ u by rw [hx]; exact inle (a := 50) (by omega) (by omega)), if_neg (show ¬ (1 : Int32) = 0 by decide)]
        · rw [within_eq, within_eq, hx, Int32.toInt_toInt64, nI_toInt (by omega), bd1_some, jn_eq, bd1_some, show (0 : Int64).toInt = 0 from rfl, show (2 : Int64).toInt = 2 from rfl, show (10 : Int64).toInt = 10 from rfl, show (49 : Int64).toInt = 49 from rfl, decide_eq_false (by omega), decide_eq_true (by omega)]; rfl
      · exact Or.inl hbad
    rcases bad with ⟨x1, x2, x3, x4⟩ | ⟨go7, go8, hwhat⟩
    · have hz : (if u < 10 then (0 : Int32) else if 50 ≤ u then 0 else 1) = 0 := by
        rcases x2 with h | h
        · rw [if_pos h]
        · by_cases h' : u < 10
          · rw [if_pos h']
          · rw [if_neg h', if_pos h]
      refine ⟨-2, y0, y1, y2, y3, s0, s1, s2, s3, s4, s5, 0, ml, mh, mw, mwl, mis, mbe, ?_, by rw [x3, bd1_some, jn_eq, if_pos rfl, x4]; rfl, hR⟩
      rcases x1 with g1 | ⟨g1, g2⟩
      · rw [if_pos g1, if_pos hz]
      · rw [if_neg g1, if_neg g2, if_pos hz]
    · rw [go7, go8, rdI_nI hk (by decide)]
      rcases hRw i hk with ⟨z1, z2⟩ | ⟨c, q, z1, z2, z3, z4, z5, z6, z7⟩
      · refine ⟨-6, y0, y1, y2, y3, s0, s1, s2, s3, s4, s5, 0, ml, mh, mw, mwl, mis, mbe, ?_, by rw [z2]; rfl, hR⟩
        unfold fX7_pairsRefusal
        rw [refusal7 hk, z1]; rfl
      · rw [z3, z6, if_neg (m1_q z2)]
        rcases pairs_cases hM hB z1 hk z4 z7 with ⟨p1, p2⟩ | ⟨p1, p2, p, hp⟩
        · rw [p1, p2]
          exact ⟨-3, y0, y1, y2, y3, s0, s1, s2, s3, s4, s5, 0, ml, mh, mw, mwl, mis, mbe, rfl, rfl, hR⟩
        · obtain ⟨l', q', t1, t2, t3⟩ := take_ok hL hB hw (show B 1 < 100000 by omega) y0 y1 y2
          rw [p1, p2, bd1_some, bd1_some, if_pos rfl, if_neg (show ¬ (1 : Int32) = 0 by decide), t1, bd3_some, ckI_nI hk (by decide)]
          unfold fX5_placeCalls
          obtain ⟨tk0, f1, f2, _⟩ := fillI (show 492 < 2 ^ 31 by decide) s0 0
          obtain ⟨bg0, f3, f4, _⟩ := fillI (show 40 < 2 ^ 31 by decide) s1 (-1)
          rw [f1, bd1_some, f3, bd1_some]
          obtain ⟨is0, j1, j2⟩ := taken_init (fun (t_isTaken_16 : Nat → Int32) => fX8_calls_102 (nI i) all ma nu (fun (w_54 : Int32) (w_55 : Int32) (w_56 : Int32) (t_loss_57 : Nat → Int32) (t_hops_58 : Nat → Int32) (t_way_59 : Nat → Int32) (t_wayLong_60 : Int32) (t_isTaken_61 : Nat → Int32) (t_begins_62 : Nat → Int32) => if u = 0 then some (w_54, (0 : Int32), t_loss_57, t_hops_58, t_way_59, t_wayLong_60, t_isTaken_61, t_begins_62) else if u = 1 then some (w_55, (0 : Int32), t_loss_57, t_hops_58, t_way_59, t_wayLong_60, t_isTaken_61, t_begins_62) else if u = 2 then some (w_56, (0 : Int32), t_loss_57, t_hops_58, t_way_59, t_wayLong_60, t_isTaken_61, t_begins_62) else rdI 4 ma (nI i) (fun x_66 => if x_66 ≤ (u - 10) then some ((-1 : Int32), (0 : Int32), t_loss_57, t_hops_58, t_way_59, t_wayLong_60, t_isTaken_61, t_begins_62) else rdI 40 t_begins_62 (u - 10) (fun x_69 => some (x_69, (0 : Int32), t_loss_57, t_hops_58, t_way_59, t_wayLong_60, t_isTaken_61, t_begins_62)))) FU 0 0 0 0 ml mh mw mwl t_isTaken_16 mbe) 73728 0 FU mis (by omega) (FU_big (by omega)) (fun j hj => absurd hj (by omega))
          have hNS0 : NS (fun _ _ => false) ≤ 11 * 0 := by
            exact Nat.le_of_eq ((fb_ct_zero (p := slT (fun _ _ => false)) (n := 10752)).mpr (fun _ _ => rfl))
          obtain ⟨taken', begins', route', pl', en', wa', rest', tl', tn', way', wl', isT', mb', c1, c2, c3, c4⟩ := calls_loops (f := rv i) (nu := nu) hM hL hB t2 t3 hk z1 z4 hp z7 (fun (w_54 : Int32) (w_55 : Int32) (w_56 : Int32) (t_loss_57 : Nat → Int32) (t_hops_58 : Nat → Int32) (t_way_59 : Nat → Int32) (t_wayLong_60 : Int32) (t_isTaken_61 : Nat → Int32) (t_begins_62 : Nat → Int32) => if u = 0 then some (w_54, (0 : Int32), t_loss_57, t_hops_58, t_way_59, t_wayLong_60, t_isTaken_61, t_begins_62) else if u = 1 then some (w_55, (0 : Int32), t_loss_57, t_hops_58, t_way_59, t_wayLong_60, t_isTaken_61, t_begins_62) else if u = 2 then some (w_56, (0 : Int32), t_loss_57, t_hops_58, t_way_59, t_wayLong_60, t_isTaken_61, t_begins_62) else rdI 4 ma (nI i) (fun x_66 => if x_66 ≤ (u - 10) then some ((-1 : Int32), (0 : Int32), t_loss_57, t_hops_58, t_way_59, t_wayLong_60, t_isTaken_61, t_begins_62) else rdI 40 t_begins_62 (u - 10) (fun x_69 => some (x_69, (0 : Int32), t_loss_57, t_hops_58, t_way_59, t_wayLong_60, t_isTaken_61, t_begins_62)))) c 0 FU FU tk0 bg0 s2 0 0 0 y3 ml mh mw mwl is0 mbe (fun _ _ => false) (by omega) (FU_big (by omega)) (FU_big (by omega)) (fun τ hτ => ⟨0, f2 τ hτ, bits0 (fun k hk => Bool.false_ne_true hk)⟩) (fun a τ ha hτ => by
            have := hL.2.1.1 a ha
            rw [j2 _ (by omega)]; rfl) hNS0 (by omega) (fun j hj => absurd hj (by omega)) (fun j _ hj => f4 j hj)
          have c2' := j1.trans c2
          rw [show fX5_placeCalls_34 (nI (B 3)) (nI m) w10 (nI (B 0)) l' q' (rv i) (nI c) (fun (t_taken_31 : Nat → Int32) (t_begins_32 : Nat → Int32) (t_route_33 : Nat → Int32) (t_placed_34 : Int32) (t_ended_35 : Int32) (t_waited_36 : Int32) (p2_rest_37 : Nat → Int32) => some (t_taken_31, t_begins_32, t_route_33, t_placed_34, t_ended_35, t_waited_36, p2_rest_37)) FU 0 tk0 bg0 s2 0 0 0 y3 = _ from c1, bd7_some]
          rcases hwhat with ⟨k, hk2, hx⟩ | ⟨k, hk2, hx⟩
          · have hk3 : k = 0 ∨ k = 1 ∨ k = 2 := by omega
            rcases hk3 with rfl | rfl | rfl
            · exact ⟨nI pl', nI (B 0), l', q', rest', taken', begins', route', nI pl', nI en', nI wa', 0, tl', tn', way', wl', isT', mb', by rw [if_pos (show u = 0 from hx)], c2'.trans (if_pos (show u = 0 from hx)), hR⟩
            · refine ⟨nI en', nI (B 0), l', q', rest', taken', begins', route', nI pl', nI en', nI wa', 0, tl', tn', way', wl', isT', mb', ?_, c2'.trans ?_, hR⟩
              · rw [if_neg (show ¬ u = 0 by rw [hx]; decide), if_pos (show u = 1 from hx)]
              · rw [if_neg (show ¬ u = 0 by rw [hx]; decide), if_pos (show u = 1 from hx)]
            · refine ⟨nI wa', nI (B 0), l', q', rest', taken', begins', route', nI pl', nI en', nI wa', 0, tl', tn', way', wl', isT', mb', ?_, c2'.trans ?_, hR⟩
              · rw [if_neg (show ¬ u = 0 by rw [hx]; decide), if_neg (show ¬ u = 1 by rw [hx]; decide), if_pos (show u = 2 from hx)]
              · rw [if_neg (show ¬ u = 0 by rw [hx]; decide), if_neg (show ¬ u = 1 by rw [hx]; decide), if_pos (show u = 2 from hx)]
          · have n0' : ¬ u = 0 := by rw [hx]; exact ine (b := 0) (by omega) (by omega) (by decide)
            have n1' : ¬ u = 1 := by rw [hx]; exact ine (b := 1) (by omega) (by omega) (by decide)
            have n2' : ¬ u = 2 := by rw [hx]; exact ine (b := 2) (by omega) (by omega) (by decide)
            have hs : u - 10 = nI k := by rw [hx, lit 10, pk_sub (by omega), show 10 + k - 10 = k by omega]
            refine ⟨begins' k, nI (B 0), l', q', rest', taken', begins', route', nI pl', nI en', nI wa', 0, tl', tn', way', wl', isT', mb', ?_, c2'.trans ?_, hR⟩
            · rw [if_neg n0', if_neg n1', if_neg n2', hs]
              unfold fX5_beginOf
              rw [if_neg (nI_pos (by omega)), lit 40, if_neg (inle (by omega) (by omega)), rdI_nI (by omega) (by decide)]; rfl
            · rw [if_neg n0', if_neg n1', if_neg n2', hs, rdI_nI hk (by decide), z4]
              by_cases qk : c ≤ k
              · rw [if_pos (ile qk (by omega)), c4 k qk hk2]
              · rw [if_neg (inle (by omega) (by omega)), rdI_nI (by omega) (by decide), c3 k (by omega)]
