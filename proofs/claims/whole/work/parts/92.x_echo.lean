-- uses: a_lib b_court c_leaf8 d_loop8 e_list f_why g_leaf h_rel i_state j_gen k_list l_cut m_fill m_img n_rows o_rows2 p_pairs q_gust r_gust s_more t_links u_reach v_stay w_brace
/-! echoes -/
def wk (p : Nat → Nat → Prop) (w : Nat) : Nat → Nat → Prop
  | 0, v => v = w
  | d + 1, v => ∃ u, wk p w d u ∧ p u v
def sd (p : Nat → Nat → Prop) (w d v : Nat) : Prop := ∃ e, e ≤ d ∧ wk p w e v
def lay (p : Nat → Nat → Prop) (w d v : Nat) : Prop := sd p w d v ∧ ∀ e, e < d → ¬ sd p w e v
theorem sd_mono {p : Nat → Nat → Prop} {w d e v : Nat} (h : sd p w d v) (hd : d ≤ e) : sd p w e v := by
  obtain ⟨f, h1, h2⟩ := h; exact ⟨f, by omega, h2⟩
theorem lay_wk {p : Nat → Nat → Prop} {w d v : Nat} (h : lay p w d v) : wk p w d v := by
  obtain ⟨⟨e, h1, h2⟩, h3⟩ := h
  by_cases q : e = d
  · subst q; exact h2
  · exact absurd ⟨e, Nat.le_refl e, h2⟩ (h3 e (by omega))
theorem lay_succ {p : Nat → Nat → Prop} {w d v : Nat} : lay p w (d + 1) v ↔ (∃ u, lay p w d u ∧ p u v) ∧ ¬ sd p w d v := by
  constructor
  · intro h
    have h1 := lay_wk h
    refine ⟨?_, h.2 d (by omega)⟩
    obtain ⟨u, h2, h3⟩ := h1
    refine ⟨u, ⟨⟨d, Nat.le_refl d, h2⟩, fun e he hs => ?_⟩, h3⟩
    obtain ⟨f, h4, h5⟩ := hs
    exact h.2 (f + 1) (by omega) ⟨f + 1, Nat.le_refl _, u, h5, h3⟩
  · rintro ⟨⟨u, h1, h2⟩, h3⟩
    refine ⟨⟨d + 1, Nat.le_refl _, u, lay_wk h1, h2⟩, fun e he hs => h3 (sd_mono hs (by omega))⟩
theorem sd_succ {p : Nat → Nat → Prop} {w d v : Nat} : sd p w (d + 1) v ↔ sd p w d v ∨ lay p w (d + 1) v := by
  constructor
  · intro h
    by_cases q : sd p w d v
    · exact Or.inl q
    · exact Or.inr ⟨h, fun e he hs => q (sd_mono hs (by omega))⟩
  · rintro (h | h)
    · exact sd_mono h (by omega)
    · exact h.1
theorem lay_fun {p : Nat → Nat → Prop} {w d e v : Nat} (h : lay p w d v) (h2 : lay p w e v) : d = e := by
  rcases Nat.lt_trichotomy d e with q | q | q
  · exact absurd h.1 (h2.2 d q)
  · exact q
  · exact absurd h2.1 (h.2 e q)
theorem sd_lay {p : Nat → Nat → Prop} {w v : Nat} : ∀ d, sd p w d v → ∃ e, e ≤ d ∧ lay p w e v
  | 0, h => ⟨0, Nat.le_refl 0, h, fun e he => absurd he (by omega)⟩
  | d + 1, h => by
    rcases sd_succ.mp h with h1 | h1
    · obtain ⟨e, h2, h3⟩ := sd_lay d h1; exact ⟨e, by omega, h3⟩
    · exact ⟨d + 1, Nat.le_refl _, h1⟩
theorem lay_stop {p : Nat → Nat → Prop} {w d : Nat} (h : ∀ v, ¬ lay p w d v) : ∀ k v, ¬ lay p w (d + k) v
  | 0, v => h v
  | k + 1, v => fun hl => by
    obtain ⟨⟨u, h1, _⟩, _⟩ := lay_succ.mp (show lay p w (d + k + 1) v from hl)
    exact lay_stop h k u h1
/-- the breath at which a window hears the word -/
def EV (p : Nat → Nat → Prop) (w n v : Nat) (x : Int32) : Prop := (∃ d, d < n ∧ lay p w d v ∧ x = nI d) ∨ ((∀ d, d < n → ¬ lay p w d v) ∧ x = -1)
theorem EV_uniq {p : Nat → Nat → Prop} {w n v : Nat} {x y : Int32} (h : EV p w n v x) (h2 : EV p w n v y) : x = y := by
  rcases h with ⟨d, h1, h3, rfl⟩ | ⟨h1, rfl⟩
  · rcases h2 with ⟨e, h4, h5, rfl⟩ | ⟨h4, rfl⟩
    · rw [lay_fun h3 h5]
    · exact absurd h3 (h4 d h1)
  · rcases h2 with ⟨e, h4, h5, rfl⟩ | ⟨h4, rfl⟩
    · exact absurd h5 (h1 e h4)
    · rfl
theorem spread_in {n x d : Nat} {q : Nat → Prop} (hn : n ≤ 12) (hx : Bits x 12 q) (hq : ∀ v, q v → v < n) (K : (Nat → Int32) → Option (Nat → Int32)) : ∀ k i F br, i + k = n → k < F → ∃ br', fX6_spread_33 (nI x) (nI d) (nI n) K F (nI i) br = K br' ∧ (∀ v, q v → i ≤ v → br' v = nI d) ∧ (∀ v, ¬ (q v ∧ i ≤ v) → br' v = br v) := by
  intro k
  induction k with
  | zero =>
    intro i F br hi hF
    obtain ⟨F, rfl⟩ : ∃ m, F = m + 1 := ⟨F - 1, by omega⟩
    refine ⟨br, by rw [fX6_spread_33, if_pos (ile (by omega) (by omega))], fun v h1 h2 => by have := hq v h1; omega, fun v _ => rfl⟩
  | succ k ih =>
    intro i F br hi hF
    obtain ⟨F, rfl⟩ : ∃ m, F = m + 1 := ⟨F - 1, by omega⟩
    have : Decidable (q i) := Classical.propDecidable _
    rw [fX6_spread_33, if_neg (inle (by omega) (by omega)), bit_if hx (by omega) (by omega), wrI_nI (by omega) (by decide), nI_inc]
    by_cases hqi : q i
    · rw [if_pos hqi]
      obtain ⟨br', h1, h2, h3⟩ := ih (i + 1) F (upd br i (nI d)) (by omega) (by omega)
      refine ⟨br', h1, fun v g1 g2 => ?_, fun v g1 => ?_⟩
      · by_cases e : v = i
        · subst e; rw [h3 v (by omega)]; exact pk_us
        · exact h2 v g1 (by omega)
      · rw [h3 v (fun h => g1 ⟨h.1, by omega⟩)]
        unfold upd
        rw [if_neg (fun e => g1 ⟨by rw [e]; exact hqi, by omega⟩)]
    · rw [if_neg hqi]
      obtain ⟨br', h1, h2, h3⟩ := ih (i + 1) F br (by omega) (by omega)
      refine ⟨br', h1, fun v g1 g2 => ?_, fun v g1 => ?_⟩
      · exact h2 v g1 (by
          by_cases e : v = i
          · subst e; exact absurd g1 hqi
          · omega)
      · exact h3 v (fun h => g1 ⟨h.1, by omega⟩)
theorem spread_loop {links : Nat → Int32} {p : Nat → Nat → Prop} (h : LK links p) {n w : Nat} (hn : n ≤ 12) (hp : ∀ u v, p u v → v < n) (hw : w < n) (K : (Nat → Int32) → Option (Nat → Int32)) : ∀ k d F s W br, d + k = n → k < F → Bits s 12 (sd p w d) → Bits W 12 (lay p w d) → (∀ v, v < 12 → EV p w d v (br v)) →
    ∃ br', fX6_spread_17 (nI n) links K F (nI s) (nI W) (nI d) br = K br' ∧ ∀ v, v < 12 → EV p w n v (br' v) := by
  have hlt : ∀ d v, lay p w d v → v < n := by
    intro d v hl
    cases d with
    | zero => have := lay_wk hl; have e : v = w := this; omega
    | succ d => obtain ⟨u, _, h2⟩ := lay_wk hl; exact hp u v h2
  intro k
  induction k with
  | zero =>
    intro d F s W br hi hF hs hW he
    obtain ⟨F, rfl⟩ : ∃ m, F = m + 1 := ⟨F - 1, by omega⟩
    obtain rfl : d = n := by omega
    exact ⟨br, by rw [fX6_spread_17, if_pos (ile (by omega) (by omega))], he⟩
  | succ k ih =>
    intro d F s W br hi hF hs hW he
    obtain ⟨F, rfl⟩ : ∃ m, F = m + 1 := ⟨F - 1, by omega⟩
    have hW12 := hW.1
    rw [fX6_spread_17, if_neg (inle (by omega) (by omega))]
    by_cases e : W = 0
    · refine ⟨br, by rw [if_pos (by rw [e]; rfl)], fun v hv => ?_⟩
      have hst := lay_stop (bits_empty hW e)
      rcases he v hv with ⟨c, h1, h2, h3⟩ | ⟨h1, h2⟩
      · exact Or.inl ⟨c, by omega, h2, h3⟩
      · refine Or.inr ⟨fun c hc hl => ?_, h2⟩
        by_cases q : c < d
        · exact h1 c q hl
        · have := hst (c - d) v
          rw [show d + (c - d) = c by omega] at this
          exact this hl
    · rw [if_neg (by rw [n0]; exact ine e (by omega) (by decide)), n0]
      obtain ⟨br', g1, g2, g3⟩ := spread_in (d := d) hn hW (hlt d) (fun (t_breaths_10 : Nat → Int32) => bd1 (fX6_linksOf (nI n) links (nI W)) (fun r_11 => bnd (r_11 &&& (nI s ^^^ (-1))) (fun y_13 => bnd (nI s ||| y_13) (fun y_14 => fX6_spread_17 (nI n) links K F y_14 y_13 (nI d + 1) t_breaths_10)))) n 0 FU br (by omega) (FU_big (by omega))
      obtain ⟨y, g4, g5⟩ := linksOf7 h hn hW (hlt d)
      rw [g1, g4, bd1_some, bnd_e, bnd_e, not_nI, fa_and, fa_or, nI_inc]
      have b1 := g5.andnot hs (by omega)
      have b2 : Bits (y &&& (s ^^^ (2 ^ 32 - 1))) 12 (lay p w (d + 1)) := b1.congr (fun v => lay_succ.symm)
      refine ih (d + 1) F _ _ br' (by omega) (by omega) ((hs.or b2).congr (fun v => sd_succ.symm)) b2 (fun v hv => ?_)
      by_cases q : lay p w d v
      · exact Or.inl ⟨d, by omega, q, g2 v q (Nat.zero_le v)⟩
      · rw [g3 v (fun h => q h.1)]
        rcases he v hv with ⟨c, h1, h2, h3⟩ | ⟨h1, h2⟩
        · exact Or.inl ⟨c, by omega, h2, h3⟩
        · refine Or.inr ⟨fun c hc hl => ?_, h2⟩
          by_cases q2 : c = d
          · subst q2; exact q hl
          · exact h1 c (by omega) hl
theorem spread7 {links : Nat → Int32} {p : Nat → Nat → Prop} (h : LK links p) {n w : Nat} (hn : n ≤ 12) (hp : ∀ u v, p u v → v < n) (hw : w < n) (br : Nat → Int32) : ∃ br', fX6_spread (nI n) links br (nI w) = some br' ∧ ∀ v, v < 12 → EV p w n v (br' v) := by
  unfold fX6_spread
  obtain ⟨f', f1, f2, f3⟩ := fillI (show 12 < 2 ^ 31 by decide) br (-1)
  rw [f1, bd1_some, bnd_e, sh1 (by omega)]
  have b := bits1 (show w < 12 by omega)
  exact spread_loop h hn hp hw (fun x => some x) n 0 FU _ _ f' (by omega) (FU_big (by omega)) (b.congr (fun v => ⟨fun e => ⟨0, Nat.le_refl 0, e⟩, fun ⟨e, h1, h2⟩ => by
    obtain rfl : e = 0 := by omega
    exact h2⟩)) (b.congr (fun v => ⟨fun e => ⟨⟨0, Nat.le_refl 0, e⟩, fun c hc => absurd hc (by omega)⟩, fun hl => lay_wk hl⟩)) (fun v hv => Or.inr ⟨fun d hd => absurd hd (by omega), f2 v hv⟩)
theorem ec8_init {w : Nat} (hw : w < 12) (K : (Nat → Int32) → Option (Nat → Int32)) : ∀ k i F ec, i + k = 12 → k < F → (∀ v, v < i → ec v = if v = w then 0 else -1) → ∃ ec', fX8_laysEchoes_2 (nI w) K F (nI i) ec = K ec' ∧ ∀ v, v < 12 → ec' v = if v = w then 0 else -1 := by
  intro k
  induction k with
  | zero =>
    intro i F ec hi hF h
    obtain ⟨F, rfl⟩ : ∃ m, F = m + 1 := ⟨F - 1, by omega⟩
    obtain rfl : i = 12 := by omega
    exact ⟨ec, by rw [fX8_laysEchoes_2, if_pos (by decide)], h⟩
  | succ k ih =>
    intro i F ec hi hF h
    obtain ⟨F, rfl⟩ : ∃ m, F = m + 1 := ⟨F - 1, by omega⟩
    rw [fX8_laysEchoes_2, lit 12, if_neg (inle (by omega) (by omega)), jn1, wrI_nI (by omega) (by decide), nI_inc]
    refine ih (i + 1) F _ (by omega) (by omega) (fun v hv => ?_)
    unfold upd
    by_cases q : v = i
    · rw [if_pos q]
      by_cases q2 : i = w
      · rw [if_pos (by rw [q2]), if_pos (by omega)]
      · rw [if_neg (ine q2 (by omega) (by omega)), if_neg (by omega)]
    · rw [if_neg q]; exact h v (by omega)
/-- within a breath: windows below i have told theirs -/
def EM (p : Nat → Nat → Prop) (w d : Nat) (T : Nat → Prop) (v : Nat) (x : Int32) : Prop := (∃ e, e < d ∧ lay p w e v ∧ x = nI e) ∨ ((∀ e, e < d → ¬ lay p w e v) ∧ T v ∧ x = nI d) ∨ ((∀ e, e < d → ¬ lay p w e v) ∧ ¬ T v ∧ x = -1)
theorem ec8_in {A : Nat → Int32} {B : Nat → Nat} (h : MB A 0 B) (hB : WF B) {p : Nat → Nat → Prop} {w d x : Nat} {q T : Nat → Prop} (hd : d < 12) (hx : Bits x 12 q) (K : (Nat → Int32) → Option (Nat → Int32)) : ∀ k i F ec, i + k = B 0 → k < F → (∀ v, v < 12 → EM p w d (fun v => T v ∨ (q v ∧ v < i)) v (ec v)) → ∃ ec', fX8_laysEchoes_79 (nI d) (nI x) A K F (nI i) ec = K ec' ∧ ∀ v, v < 12 → EM p w d (fun v => T v ∨ (q v ∧ v < B 0)) v (ec' v) := by
  have h12 := hB.1
  have hx30 : x < 2 ^ 30 := Nat.lt_of_lt_of_le hx.1 (by decide)
  intro k
  induction k with
  | zero =>
    intro i F ec hi hF he
    obtain ⟨F, rfl⟩ : ∃ m, F = m + 1 := ⟨F - 1, by omega⟩
    obtain rfl : i = B 0 := by omega
    exact ⟨ec, by rw [fX8_laysEchoes_79, n0, rd_MB h (by omega) (by omega) (by decide), if_pos (ile (by omega) (by omega))], he⟩
  | succ k ih =>
    intro i F ec hi hF he
    obtain ⟨F, rfl⟩ : ∃ m, F = m + 1 := ⟨F - 1, by omega⟩
    rw [fX8_laysEchoes_79, n0, rd_MB h (by omega) (by omega) (by decide), if_neg (inle (by omega) (by omega))]
    have other : ∀ v, v < 12 → (v ≠ i ∨ ¬ q i) → EM p w d (fun v => T v ∨ (q v ∧ v < i)) v (ec v) → EM p w d (fun v => T v ∨ (q v ∧ v < i + 1)) v (ec v) := by
      intro v hv hvi hE
      have e : (T v ∨ (q v ∧ v < i)) ↔ (T v ∨ (q v ∧ v < i + 1)) := by
        constructor
        · rintro (h | h)
          · exact Or.inl h
          · exact Or.inr ⟨h.1, by omega⟩
        · rintro (h | h)
          · exact Or.inl h
          · refine Or.inr ⟨h.1, ?_⟩
            rcases hvi with g | g
            · omega
            · by_cases e : v = i
              · subst e; exact absurd h.1 g
              · omega
      rcases hE with h1 | ⟨h1, h2, h3⟩ | ⟨h1, h2, h3⟩
      · exact Or.inl h1
      · exact Or.inr (Or.inl ⟨h1, e.mp h2, h3⟩)
      · exact Or.inr (Or.inr ⟨h1, fun h => h2 (e.mpr h), h3⟩)
    by_cases hb : x.testBit i = true
    · have hqi := (hx.2 i).mp hb
      rw [if_pos (by rw [bit_nI hx30 (by omega)]; exact hb), rdI_nI (by omega) (by decide), nI_inc]
      by_cases hm : ec i = -1
      · rw [if_pos hm, wrI_nI (by omega) (by decide)]
        refine ih (i + 1) F _ (by omega) (by omega) (fun v hv => ?_)
        by_cases e : v = i
        · subst e
          rw [show upd ec v (nI d) v = nI d from pk_us]
          rcases he v hv with ⟨c, h1, h2, h3⟩ | ⟨h1, h2, h3⟩ | ⟨h1, h2, h3⟩
          · rw [hm] at h3; exact absurd h3.symm (m1_ne (by omega))
          · rw [hm] at h3; exact absurd h3.symm (m1_ne (by omega))
          · exact Or.inr (Or.inl ⟨h1, Or.inr ⟨hqi, by omega⟩, rfl⟩)
        · have : upd ec i (nI d) v = ec v := by unfold upd; rw [if_neg e]
          rw [this]
          exact other v hv (Or.inl e) (he v hv)
      · rw [if_neg hm]
        refine ih (i + 1) F ec (by omega) (by omega) (fun v hv => ?_)
        by_cases e : v = i
        · subst e
          rcases he v hv with h1 | ⟨h1, h2, h3⟩ | ⟨h1, h2, h3⟩
          · exact Or.inl h1
          · exact Or.inr (Or.inl ⟨h1, Or.inr ⟨hqi, by omega⟩, h3⟩)
          · exact absurd h3 hm
        · exact other v hv (Or.inl e) (he v hv)
    · have hqi : ¬ q i := fun hq => hb ((hx.2 i).mpr hq)
      rw [if_neg (by rw [bit_nI hx30 (by omega)]; exact hb), nI_inc]
      exact ih (i + 1) F ec (by omega) (by omega) (fun v hv => other v hv (Or.inr hqi) (he v hv))
theorem ec8_mid {A : Nat → Int32} {B : Nat → Nat} (h : MB A 0 B) (hB : WF B) {w d : Nat} (hd : d < 12) (hd1 : 1 ≤ d) (K : (Nat → Int32) → Option (Nat → Int32)) : ∀ k i F ec, i + k = B 0 → k < F → (∀ v, v < 12 → EM (tk B (B 1)) w d (fun v => ∃ u, u < i ∧ lay (tk B (B 1)) w (d - 1) u ∧ tk B (B 1) u v) v (ec v)) → ∃ ec', fX8_laysEchoes_44 (nI d) A K F (nI i) ec = K ec' ∧ ∀ v, v < 12 → EM (tk B (B 1)) w d (fun v => ∃ u, u < B 0 ∧ lay (tk B (B 1)) w (d - 1) u ∧ tk B (B 1) u v) v (ec' v) := by
  have h12 := hB.1
  intro k
  induction k with
  | zero =>
    intro i F ec hi hF he
    obtain ⟨F, rfl⟩ : ∃ m, F = m + 1 := ⟨F - 1, by omega⟩
    obtain rfl : i = B 0 := by omega
    exact ⟨ec, by rw [fX8_laysEchoes_44, n0, rd_MB h (by omega) (by omega) (by decide), if_pos (ile (by omega) (by omega))], he⟩
  | succ k ih =>
    intro i F ec hi hF he
    obtain ⟨F, rfl⟩ : ∃ m, F = m + 1 := ⟨F - 1, by omega⟩
    rw [fX8_laysEchoes_44, show (0 : Int32) = nI 0 from rfl, rd_MB h (by omega) (by omega) (by decide), if_neg (inle (by omega) (by omega)), rdI_nI (by omega) (by decide), sub1 hd1, nI_inc]
    have hlay : ec i = nI (d - 1) ↔ lay (tk B (B 1)) w (d - 1) i := by
      constructor
      · intro e
        rcases he i (by omega) with ⟨c, h1, h2, h3⟩ | ⟨h1, h2, h3⟩ | ⟨h1, h2, h3⟩
        · rw [h3] at e
          have := (nI_eq (by omega) (by omega)).mp e
          subst this; exact h2
        · rw [h3] at e
          have := (nI_eq (by omega) (by omega)).mp e
          omega
        · rw [h3] at e; exact absurd e.symm (m1_ne (by omega))
      · intro hl
        rcases he i (by omega) with ⟨c, h1, h2, h3⟩ | ⟨h1, h2, h3⟩ | ⟨h1, h2, h3⟩
        · rw [h3, lay_fun h2 hl]
        · exact absurd hl (h1 (d - 1) (by omega))
        · exact absurd hl (h1 (d - 1) (by omega))
    have conv : ∀ (T T' : Nat → Prop) v x, (T v ↔ T' v) → EM (tk B (B 1)) w d T v x → EM (tk B (B 1)) w d T' v x := by
      intro T T' v x e hE
      rcases hE with h1 | ⟨h1, h2, h3⟩ | ⟨h1, h2, h3⟩
      · exact Or.inl h1
      · exact Or.inr (Or.inl ⟨h1, e.mp h2, h3⟩)
      · exact Or.inr (Or.inr ⟨h1, fun h => h2 (e.mpr h), h3⟩)
    by_cases hl : lay (tk B (B 1)) w (d - 1) i
    · rw [if_pos (hlay.mpr hl)]
      obtain ⟨x, x1, x2⟩ := leads8 h hB (show i < 12 by omega)
      rw [x1, bd1_some]
      obtain ⟨ec', g1, g2⟩ := ec8_in (p := tk B (B 1)) (w := w) h hB hd x2 (fun (t_echoes_28 : Nat → Int32) => fX8_laysEchoes_44 (nI d) A K F (nI (i + 1)) t_echoes_28) (T := fun v => ∃ u, u < i ∧ lay (tk B (B 1)) w (d - 1) u ∧ tk B (B 1) u v) (B 0) 0 FU ec (by omega) (FU_big (by omega)) (fun v hv => conv _ _ v _ ⟨fun h => Or.inl h, fun h => by
        rcases h with h | h
        · exact h
        · omega⟩ (he v hv))
      rw [g1]
      refine ih (i + 1) F ec' (by omega) (by omega) (fun v hv => conv _ _ v _ ⟨?_, ?_⟩ (g2 v hv))
      · rintro (⟨u, a, b, c⟩ | ⟨a, b⟩)
        · exact ⟨u, by omega, b, c⟩
        · exact ⟨i, by omega, hl, a⟩
      · rintro ⟨u, a, b, c⟩
        by_cases e : u = i
        · subst e; exact Or.inr ⟨c, tk_lt hB _ _ c⟩
        · exact Or.inl ⟨u, by omega, b, c⟩
    · rw [if_neg (fun e => hl (hlay.mp e))]
      refine ih (i + 1) F ec (by omega) (by omega) (fun v hv => conv _ _ v _ ⟨?_, ?_⟩ (he v hv))
      · rintro ⟨u, a, b, c⟩; exact ⟨u, by omega, b, c⟩
      · rintro ⟨u, a, b, c⟩
        by_cases e : u = i
        · subst e; exact absurd b hl
        · exact ⟨u, by omega, b, c⟩
theorem ec8_out {A : Nat → Int32} {B : Nat → Nat} (h : MB A 0 B) (hB : WF B) {w : Nat} (hw : w < B 0) (K : (Nat → Int32) → Option (Nat → Int32)) : ∀ k d F ec, d + k = B 0 → 1 ≤ d → k < F → (∀ v, v < 12 → EV (tk B (B 1)) w d v (ec v)) → ∃ ec', fX8_laysEchoes_32 A K F (nI d) ec = K ec' ∧ ∀ v, v < 12 → EV (tk B (B 1)) w (B 0) v (ec' v) := by
  have h12 := hB.1
  have hlt : ∀ d v, lay (tk B (B 1)) w d v → v < B 0 := by
    intro d v hl
    cases d with
    | zero => have := lay_wk hl; have e : v = w := this; omega
    | succ d => obtain ⟨u, _, h2⟩ := lay_wk hl; exact tk_lt hB u v h2
  intro k
  induction k with
  | zero =>
    intro d F ec hi hd1 hF he
    obtain ⟨F, rfl⟩ : ∃ m, F = m + 1 := ⟨F - 1, by omega⟩
    obtain rfl : d = B 0 := by omega
    exact ⟨ec, by rw [fX8_laysEchoes_32, n0, rd_MB h (by omega) (by omega) (by decide), if_pos (ile (by omega) (by omega))], he⟩
  | succ k ih =>
    intro d F ec hi hd1 hF he
    obtain ⟨F, rfl⟩ : ∃ m, F = m + 1 := ⟨F - 1, by omega⟩
    rw [fX8_laysEchoes_32, show (0 : Int32) = nI 0 from rfl, rd_MB h (by omega) (by omega) (by decide), if_neg (inle (by omega) (by omega)), nI_inc]
    obtain ⟨ec', g1, g2⟩ := ec8_mid (w := w) h hB (show d < 12 by omega) hd1 (fun (t_echoes_29 : Nat → Int32) => fX8_laysEchoes_32 A K F (nI (d + 1)) t_echoes_29) (B 0) 0 FU ec (by omega) (FU_big (by omega)) (fun v hv => by
      rcases he v hv with ⟨c, h1, h2, h3⟩ | ⟨h1, h2⟩
      · exact Or.inl ⟨c, h1, h2, h3⟩
      · exact Or.inr (Or.inr ⟨h1, fun ⟨u, hu, _⟩ => by omega, h2⟩))
    rw [g1]
    refine ih (d + 1) F ec' (by omega) (by omega) (by omega) (fun v hv => ?_)
    have hls := lay_succ (p := tk B (B 1)) (w := w) (d := d - 1) (v := v)
    rw [show d - 1 + 1 = d by omega] at hls
    have nsd : (∀ e, e < d → ¬ lay (tk B (B 1)) w e v) ↔ ¬ sd (tk B (B 1)) w (d - 1) v := by
      constructor
      · intro h1 h2
        obtain ⟨e, h3, h4⟩ := sd_lay (d - 1) h2
        exact h1 e (by omega) h4
      · intro h1 e he hl
        exact h1 (sd_mono hl.1 (by omega))
    rcases g2 v hv with ⟨c, h1, h2, h3⟩ | ⟨h1, ⟨u, _, h2, h2'⟩, h3⟩ | ⟨h1, h2, h3⟩
    · exact Or.inl ⟨c, by omega, h2, h3⟩
    · exact Or.inl ⟨d, by omega, hls.mpr ⟨⟨u, h2, h2'⟩, nsd.mp h1⟩, h3⟩
    · refine Or.inr ⟨fun c hc hl => ?_, h3⟩
      by_cases q : c = d
      · subst q
        obtain ⟨⟨u, g3, g4⟩, _⟩ := hls.mp hl
        exact h2 ⟨u, hlt _ _ g3, g3, g4⟩
      · exact h1 c (by omega) hl
theorem echo8 {A : Nat → Int32} {B : Nat → Nat} (h : MB A 0 B) (hB : WF B) {w : Nat} (hw : w < B 0) (ec : Nat → Int32) : ∃ ec', fX8_laysEchoes A ec (nI w) = some ec' ∧ ∀ v, v < 12 → EV (tk B (B 1)) w (B 0) v (ec' v) := by
  have h12 := hB.1
  unfold fX8_laysEchoes
  obtain ⟨e1, g1, g2⟩ := ec8_init (show w < 12 by omega) (fun (t_echoes_7 : Nat → Int32) => fX8_laysEchoes_32 A (fun (t_echoes_30 : Nat → Int32) => some t_echoes_30) FU 1 t_echoes_7) 12 0 FU ec rfl (FU_big (by decide)) (fun v hv => absurd hv (by omega))
  obtain ⟨e2, g3, g4⟩ := ec8_out h hB hw (fun (t_echoes_30 : Nat → Int32) => some t_echoes_30) (B 0 - 1) 1 FU e1 (by omega) (by omega) (FU_big (by omega)) (fun v hv => by
    rw [g2 v hv]
    by_cases q : v = w
    · rw [if_pos q]
      exact Or.inl ⟨0, by omega, ⟨⟨0, Nat.le_refl 0, q⟩, fun e he => absurd he (by omega)⟩, rfl⟩
    · rw [if_neg q]
      refine Or.inr ⟨fun d hd hl => ?_, rfl⟩
      obtain rfl : d = 0 := by omega
      exact q (lay_wk hl))
  exact ⟨e2, g1.trans g3, g4⟩
theorem st_echo : Step_echo Rel0 := by
  intro w0 w1 w2 w3 w4 w5 w6 w7 w8 w9 w10 w11 xt xn xf xp rs rz rv made im all has mt mn mf mp so ma nu y0 y1 y2 y3 th ec v u hR
  obtain ⟨⟨B, hB, hM, hC⟩, hT, hF, hRw, hI⟩ := id hR
  obtain ⟨e0, e4, e2, e3, e5, e1, ⟨m, P, em, hL⟩, hc, hw⟩ := id hC
  dsimp only at e0 e4 e2 e3 e5 e1 em hL hc hw
  subst e0 e4 e2 e3 e5 e1 em
  have h12 := hB.1
  have hh := hB.2.2.1
  unfold fX7_echo fX8_echo
  rw [hasW_eq h12, bd1_some, isWin8 hM hB, bd1_some, Int32.toInt_toInt64, bI_0', bI_0', hasW_eq h12, bd1_some, isWin8 hM hB, bd1_some, Int32.toInt_toInt64, bI_0', bI_0']
  cases hv : winZ (B 0) v.toInt with
  | false => exact ⟨-2, y0, y1, y2, y3, 0, ec, rfl, rfl, hR⟩
  | true =>
    cases hu : winZ (B 0) u.toInt with
    | false => exact ⟨-2, y0, y1, y2, y3, 0, ec, rfl, rfl, hR⟩
    | true =>
      obtain ⟨w, hwl, rfl⟩ := winZ_of hv
      obtain ⟨z, hzl, rfl⟩ := winZ_of hu
      simp only [if_true]
      obtain ⟨l', q', t1, t2, t3⟩ := take_ok hL hB hw (show B 1 < 100000 by omega) y0 y1 y2
      obtain ⟨br', b1, b2⟩ := spread7 t2 h12 (tk_lt hB) hwl y3
      obtain ⟨ec', c1, c2⟩ := echo8 hM hB hwl ec
      rw [t1, bd3_some, b1, bd1_some, rdI_nI (by omega) (by decide), c1, bd1_some, rdI_nI (by omega) (by decide), EV_uniq (b2 z (by omega)) (c2 z (by omega))]
      exact ⟨_, _, _, _, _, 0, ec', rfl, rfl, hR⟩
