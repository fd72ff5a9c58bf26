-- uses:
/-! calls: which strings are taken when -/
noncomputable def ixP (m : Nat) (P : Nat → Nat) (v : Nat) : Nat := Classical.epsilon (fun j => j < m ∧ P j = v)
theorem ix_ok {m : Nat} {P : Nat → Nat} {pairs knots : Nat → Int32} {B : Nat → Nat} (h : CL m P pairs knots B) (hB : WF B) {a b : Nat} (hab : a < b) (hb : b < B 0) (ht : tied B a b = true) : ixP m P (20 * a + b) < m ∧ P (ixP m P (20 * a + b)) = 20 * a + b ∧ fX1_indexOf (nI m) pairs (nI (20 * a + b)) = some (nI (ixP m P (20 * a + b))) := by
  rcases idx7_pair h hB hab hb with ⟨_, j, h1, h2, h3⟩ | ⟨h1, _⟩
  · have hs := Classical.epsilon_spec (p := fun j => j < m ∧ P j = 20 * a + b) ⟨j, h1, h2⟩
    refine ⟨hs.1, hs.2, ?_⟩
    have e : ixP m P (20 * a + b) = j := by
      have hs1 : ixP m P (20 * a + b) < m := hs.1
      have hs2 : P (ixP m P (20 * a + b)) = 20 * a + b := hs.2
      rcases Nat.lt_trichotomy (ixP m P (20 * a + b)) j with q | q | q
      · have := h.2.1.2.1 _ j q h1; omega
      · exact q
      · have := h.2.1.2.1 j _ q hs1; omega
    rw [e]; exact h3
  · rw [ht] at h1; exact absurd h1 (by decide)
/-- a taken slot as a number -/
def slT (T : Nat → Nat → Bool) (s : Nat) : Bool := T (s / 512) (s % 512)
def NS (T : Nat → Nat → Bool) : Nat := fb_ct (slT T) 10752
def TU (T : Nat → Nat → Bool) (ρ : Nat → Nat) (t : Nat) : Nat → Nat → Nat → Bool
  | 0 => T
  | k + 1 => fun i τ => if i = ρ k ∧ τ = t + k then true else TU T ρ t k i τ
theorem NS_TU {T : Nat → Nat → Bool} {ρ : Nat → Nat} {t : Nat} : ∀ k, (∀ j, j < k → ρ j < 21 ∧ t + j < 512) → NS (TU T ρ t k) ≤ NS T + k
  | 0, _ => by
    show NS T ≤ NS T + 0
    exact Nat.le_add_right _ 0
  | k + 1, h => by
    have ih := NS_TU (T := T) k (fun j hj => h j (by omega))
    obtain ⟨h1, h2⟩ := h k (by omega)
    have hu := fb_ct_upd (slT (TU T ρ t k)) true (i := 512 * ρ k + (t + k)) (n := 10752) (by omega)
    have hc : NS (TU T ρ t (k + 1)) = fb_ct (fun s => if s = 512 * ρ k + (t + k) then true else slT (TU T ρ t k) s) 10752 := by
      unfold NS
      refine fb_ct_cong (fun s _ => ?_)
      show (if s / 512 = ρ k ∧ s % 512 = t + k then true else TU T ρ t k (s / 512) (s % 512)) = _
      by_cases q : s = 512 * ρ k + (t + k)
      · rw [if_pos q, if_pos (by omega)]
      · rw [if_neg q, if_neg (by omega)]; rfl
    unfold NS at ih hc ⊢
    have h0 : (if (true = true) then 1 else 0) = 1 := if_pos rfl
    rw [hc]
    rw [h0] at hu
    omega
def frT (T : Nat → Nat → Bool) (ρ : Nat → Nat) (h β : Nat) : Bool := !anyF (fun k => T (ρ k) (β + k)) 0 h
theorem frT_f {T : Nat → Nat → Bool} {ρ : Nat → Nat} {h β : Nat} (e : frT T ρ h β = false) : ∃ k, k < h ∧ T (ρ k) (β + k) = true := by
  have : anyF (fun k => T (ρ k) (β + k)) 0 h = true := by
    unfold frT at e
    simpa using e
  rw [anyF_iff] at this
  obtain ⟨k, _, h2, h3⟩ := this
  exact ⟨k, by omega, h3⟩
/-- somewhere it is free -/
theorem free_at {T : Nat → Nat → Bool} {ρ : Nat → Nat} {h n : Nat} (hρ : ∀ k, k < h → ρ k < 21) (hinj : ∀ i j, i < j → j < h → ρ i ≠ ρ j) (hh : h ≤ 11) (hn : n ≤ 440) (hN : NS T ≤ n) : ∃ t, t ≤ n ∧ frT T ρ h t = true ∧ ∀ β, β < t → frT T ρ h β = false := by
  have hex : ∃ i, i < n + 1 ∧ frT T ρ h i = true := by
    by_cases q : ∃ i, i < n + 1 ∧ frT T ρ h i = true
    · exact q
    · exfalso
      have hall : ∀ β, β < n + 1 → ∃ k, k < h ∧ T (ρ k) (β + k) = true := fun β hβ => frT_f (by
        cases e : frT T ρ h β with
        | false => rfl
        | true => exact absurd ⟨β, hβ, e⟩ q)
      have hch : ∀ β, ∃ k, β < n + 1 → k < h ∧ T (ρ k) (β + k) = true := fun β => by
        by_cases hβ : β < n + 1
        · obtain ⟨k, hk⟩ := hall β hβ; exact ⟨k, fun _ => hk⟩
        · exact ⟨0, fun hh => absurd hh hβ⟩
      obtain ⟨κ, hκ⟩ := Classical.axiomOfChoice hch
      have := inj_le (m := 10752) (p := fun _ => true) (f := fun β => 512 * ρ (κ β) + (β + κ β)) (n + 1) (slT T) (fun β hβ _ => by
        obtain ⟨k1, k2⟩ := hκ β hβ
        have k3 := hρ _ k1
        refine ⟨by omega, ?_⟩
        show T ((512 * ρ (κ β) + (β + κ β)) / 512) ((512 * ρ (κ β) + (β + κ β)) % 512) = true
        rw [show (512 * ρ (κ β) + (β + κ β)) / 512 = ρ (κ β) by omega, show (512 * ρ (κ β) + (β + κ β)) % 512 = β + κ β by omega]
        exact k2) (fun β γ hβγ hγ _ _ e => by
        obtain ⟨k1, k2⟩ := hκ β (by omega)
        obtain ⟨j1, j2⟩ := hκ γ hγ
        have e1 : ρ (κ β) = ρ (κ γ) := by omega
        have e2 : κ β = κ γ := by
          rcases Nat.lt_trichotomy (κ β) (κ γ) with q1 | q1 | q1
          · exact absurd e1 (hinj _ _ q1 j1)
          · exact q1
          · exact absurd e1.symm (hinj _ _ q1 k1)
        omega)
      rw [fb_ct_all.mpr (fun _ _ => rfl)] at this
      unfold NS at hN
      omega
  obtain ⟨t, t1, t2, t3⟩ := fb_first (p := fun i => frT T ρ h i = true) hex
  exact ⟨t, by omega, t2, fun β hβ => by
    cases e : frT T ρ h β with
    | false => rfl
    | true => exact absurd e (t3 β hβ)⟩
/-- the two tables of what is taken -/
def CT (T : Nat → Nat → Bool) (taken : Nat → Int32) : Prop := ∀ τ, τ < 492 → ∃ x, taken τ = nI x ∧ Bits x 21 (fun i => T i τ = true)
def MT (m : Nat) (P : Nat → Nat) (T : Nat → Nat → Bool) (isT : Nat → Int32) : Prop := ∀ i τ, i < m → τ < 512 → isT (512 * (12 * (P i / 20) + P i % 20) + τ) = bI (T i τ)
def RT (ρ : Nat → Nat) (h : Nat) (route : Nat → Int32) : Prop := ∀ k, k < h → route k = nI (2 ^ ρ k)
theorem isFree7 {T : Nat → Nat → Bool} {ρ : Nat → Nat} {h β : Nat} {taken route : Nat → Int32} (hT : CT T taken) (hR : RT ρ h route) (hρ : ∀ k, k < h → ρ k < 21) (hh : h ≤ 11) (hβ : β + h ≤ 492) : fX5_isFree taken route (nI β) (nI h) = some (bI (frT T ρ h β)) := by
  have loop : ∀ r k F, k + r = h → r < F → fX5_isFree_2 (nI β) (nI h) taken route (some 1) F (nI k) = some (bI (!anyF (fun k => T (ρ k) (β + k)) k r)) := by
    intro r
    induction r with
    | zero =>
      intro k F hk hF
      obtain ⟨F, rfl⟩ : ∃ m, F = m + 1 := ⟨F - 1, by omega⟩
      rw [fX5_isFree_2, if_pos (ile (by omega) (by omega))]; rfl
    | succ r ih =>
      intro k F hk hF
      obtain ⟨F, rfl⟩ : ∃ m, F = m + 1 := ⟨F - 1, by omega⟩
      obtain ⟨x, x1, x2⟩ := hT (β + k) (by omega)
      have hx := x2.1
      have hle : x &&& 2 ^ ρ k ≤ x := Nat.and_le_left
      rw [fX5_isFree_2, if_neg (inle (by omega) (by omega)), nI_add, rdI_nI (by omega) (by decide), x1, rdI_nI (by omega) (by decide), hR k (by omega), fa_and, nI_inc, ih _ _ (by omega) (by omega), anyF]
      by_cases q : T (ρ k) (β + k) = true
      · have hb : ¬ nI (x &&& 2 ^ ρ k) = 0 := fun e => by
          have e2 := (nI_zero (by omega)).mp e
          rw [fb_bit_nat, (x2.2 (ρ k)).mpr q] at e2
          exact absurd e2 (by decide)
        rw [if_neg hb, q]; rfl
      · have hb : nI (x &&& 2 ^ ρ k) = 0 := (nI_zero (by omega)).mpr ((fb_bit_nat x (ρ k)).mpr (by
          cases e : x.testBit (ρ k) with
          | false => rfl
          | true => exact absurd ((x2.2 _).mp e) q))
        have q' : T (ρ k) (β + k) = false := by simpa using q
        rw [if_pos hb, q', Bool.false_or]
  unfold fX5_isFree frT
  exact loop h 0 FU (by omega) (FU_big (by omega))
theorem mark7 {T : Nat → Nat → Bool} {ρ : Nat → Nat} {h t : Nat} {route : Nat → Int32} (hR : RT ρ h route) (hρ : ∀ k, k < h → ρ k < 21) (hh : h ≤ 11) (ht : t + h ≤ 492) (K : (Nat → Int32) → Option (Int32 × (Nat → Int32) × Int32 × Int32 × Int32)) : ∀ r k F taken, k + r = h → r < F → CT (TU T ρ t k) taken → ∃ taken', fX5_placeCall_22 (nI h) (nI t) route K F (nI k) taken = K taken' ∧ CT (TU T ρ t h) taken' := by
  intro r
  induction r with
  | zero =>
    intro k F taken hk hF hC
    obtain ⟨F, rfl⟩ : ∃ m, F = m + 1 := ⟨F - 1, by omega⟩
    obtain rfl : k = h := by omega
    exact ⟨taken, by rw [fX5_placeCall_22, if_pos (ile (by omega) (by omega))], hC⟩
  | succ r ih =>
    intro k F taken hk hF hC
    obtain ⟨F, rfl⟩ : ∃ m, F = m + 1 := ⟨F - 1, by omega⟩
    obtain ⟨x, x1, x2⟩ := hC (t + k) (by omega)
    rw [fX5_placeCall_22, if_neg (inle (by omega) (by omega)), nI_add, rdI_nI (by omega) (by decide), x1, rdI_nI (by omega) (by decide), hR k (by omega), fa_or, wrI_nI (by omega) (by decide), nI_inc]
    refine ih (k + 1) F _ (by omega) (by omega) (fun τ hτ => ?_)
    unfold upd
    by_cases q : τ = t + k
    · subst q
      rw [if_pos rfl]
      refine ⟨_, rfl, (x2.or (bits1 (hρ k (by omega)))).congr (fun i => ?_)⟩
      show (TU T ρ t k i (t + k) = true ∨ i = ρ k) ↔ (if i = ρ k ∧ t + k = t + k then true else TU T ρ t k i (t + k)) = true
      by_cases q2 : i = ρ k
      · rw [if_pos ⟨q2, rfl⟩]; exact ⟨fun _ => rfl, fun _ => Or.inr q2⟩
      · rw [if_neg (fun h => q2 h.1)]; exact ⟨fun h => h.resolve_right q2, fun h => Or.inl h⟩
    · rw [if_neg q]
      obtain ⟨y, y1, y2⟩ := hC τ hτ
      refine ⟨y, y1, y2.congr (fun i => ?_)⟩
      show _ ↔ (if i = ρ k ∧ τ = t + k then true else TU T ρ t k i τ) = true
      rw [if_neg (fun h => q h.2)]
theorem place7 {T : Nat → Nat → Bool} {ρ : Nat → Nat} {h t pl en wa : Nat} {taken route : Nat → Int32} (hT : CT T taken) (hR : RT ρ h route) (hρ : ∀ k, k < h → ρ k < 21) (hh : h ≤ 11) (ht : t ≤ 440) (h1 : frT T ρ h t = true) (h2 : ∀ β, β < t → frT T ρ h β = false) (hen : en ≤ 1000) : ∃ taken', fX5_placeCall taken route (nI pl) (nI en) (nI wa) (nI h) = some (nI t, taken', nI (pl + 1), nI (max en (t + h)), nI (wa + t)) ∧ CT (TU T ρ t h) taken' := by
  have loop : ∀ r β F, β + r = t → r < F → ∃ taken', fX5_placeCall_2 (nI h) taken route (nI pl) (nI en) (nI wa) (some ((-1 : Int32), taken, nI pl, nI en, nI wa)) F (nI β) = some (nI t, taken', nI (pl + 1), nI (max en (t + h)), nI (wa + t)) ∧ CT (TU T ρ t h) taken' := by
    intro r
    induction r with
    | zero =>
      intro β F hβ hF
      obtain ⟨F, rfl⟩ : ∃ m, F = m + 1 := ⟨F - 1, by omega⟩
      obtain rfl : β = t := by omega
      obtain ⟨taken', k1, k2⟩ := mark7 (T := T) hR hρ hh (show β + h ≤ 492 by omega) (fun (t_taken_12 : Nat → Int32) => bnd (nI pl + 1) (fun y_13 => bnd (nI wa + nI β) (fun y_14 => bnd (if nI en < nI (β + h) then nI (β + h) else nI en) (fun y_15 => some (nI β, t_taken_12, y_13, y_15, y_14))))) h 0 FU taken (by omega) (FU_big (by omega)) hT
      replace k1 : fX5_placeCall_22 (nI h) (nI β) route (fun (t_taken_12 : Nat → Int32) => bnd (nI pl + 1) (fun y_13 => bnd (nI wa + nI β) (fun y_14 => bnd (if nI en < nI (β + h) then nI (β + h) else nI en) (fun y_15 => some (nI β, t_taken_12, y_13, y_15, y_14))))) FU 0 taken = _ := k1
      refine ⟨taken', ?_, k2⟩
      rw [fX5_placeCall_2, nI_add, lit 492, if_neg (inlt (by omega) (by omega)), isFree7 hT hR hρ hh (by omega), bd1_some, h1, if_neg (show ¬ bI true = 0 by decide)]
      rw [k1]
      simp only [bnd_e]
      rw [nI_inc, nI_add]
      by_cases q : en < β + h
      · rw [if_pos (ilt q (by omega)), Nat.max_eq_right (by omega)]
      · rw [if_neg (inlt (by omega) (by omega)), Nat.max_eq_left (by omega)]
    | succ r ih =>
      intro β F hβ hF
      obtain ⟨F, rfl⟩ : ∃ m, F = m + 1 := ⟨F - 1, by omega⟩
      rw [fX5_placeCall_2, nI_add, lit 492, if_neg (inlt (by omega) (by omega)), isFree7 hT hR hρ hh (by omega), bd1_some, h2 β (by omega), if_pos (show bI false = 0 by decide), nI_inc]
      exact ih (β + 1) F (by omega) (by omega)
  unfold fX5_placeCall
  exact loop t 0 FU (by omega) (FU_big (by omega))
theorem takenAt8 {a b τ : Nat} (ha : a < 12) (hb : b < 12) : fX8_takenAt (nI a) (nI b) (nI τ) = some (nI (512 * (12 * min a b + max a b) + τ)) := by
  unfold fX8_takenAt
  rw [jn1, jn1]
  by_cases q : b ≤ a
  · rw [if_pos (ile q (by omega)), if_pos (ile q (by omega)), Nat.min_eq_right q, Nat.max_eq_left q, lit 12, lit 512, pk_mul, nI_add, pk_mul, nI_add]
  · rw [if_neg (inle (by omega) (by omega)), if_neg (inle (by omega) (by omega)), Nat.min_eq_left (by omega), Nat.max_eq_right (by omega), lit 12, lit 512, pk_mul, nI_add, pk_mul, nI_add]
/-- the way as the model has it, the strings as the class has them -/
def wyR (m : Nat) (P : Nat → Nat) (ρ ω : Nat → Nat) (h : Nat) (way : Nat → Int32) : Prop := (∀ k, k ≤ h → way k = nI (ω k) ∧ ω k < 12) ∧ ∀ k, k < h → ρ k < m ∧ P (ρ k) = 20 * min (ω k) (ω (k + 1)) + max (ω k) (ω (k + 1))
theorem wyR_ix {m : Nat} {P ρ ω : Nat → Nat} {h : Nat} {way : Nat → Int32} (hW : wyR m P ρ ω h way) {k : Nat} (hk : k < h) : 12 * (P (ρ k) / 20) + P (ρ k) % 20 = 12 * min (ω k) (ω (k + 1)) + max (ω k) (ω (k + 1)) ∧ 12 * min (ω k) (ω (k + 1)) + max (ω k) (ω (k + 1)) < 144 := by
  have h1 := (hW.1 k (by omega)).2
  have h2 := (hW.1 (k + 1) (by omega)).2
  have h3 := (hW.2 k hk).2
  omega
theorem canBegin8 {m : Nat} {P ρ ω : Nat → Nat} {T : Nat → Nat → Bool} {h β : Nat} {way isT : Nat → Int32} (hW : wyR m P ρ ω h way) (hT : MT m P T isT) (hh : h ≤ 11) (hβ : β + h ≤ 500) : fX8_canBegin way (nI h) isT (nI β) = some (bI (frT T ρ h β)) := by
  have loop : ∀ r k F, k + r = h → r < F → fX8_canBegin_2 (nI β) way (nI h) isT (some 1) F (nI k) = some (bI (!anyF (fun k => T (ρ k) (β + k)) k r)) := by
    intro r
    induction r with
    | zero =>
      intro k F hk hF
      obtain ⟨F, rfl⟩ : ∃ m, F = m + 1 := ⟨F - 1, by omega⟩
      rw [fX8_canBegin_2, if_pos (ile (by omega) (by omega))]; rfl
    | succ r ih =>
      intro k F hk hF
      obtain ⟨F, rfl⟩ : ∃ m, F = m + 1 := ⟨F - 1, by omega⟩
      obtain ⟨i1, i2⟩ := wyR_ix hW (show k < h by omega)
      have t1 := hT (ρ k) (β + k) (hW.2 k (by omega)).1 (by omega)
      rw [i1] at t1
      rw [fX8_canBegin_2, if_neg (inle (by omega) (by omega)), rdI_nI (by omega) (by decide), nI_inc, rdI_nI (by omega) (by decide), (hW.1 k (by omega)).1, (hW.1 (k + 1) (by omega)).1, nI_add, takenAt8 (hW.1 k (by omega)).2 (hW.1 (k + 1) (by omega)).2, bd1_some, rdI_nI (by omega) (by decide), t1, bI_0', ih _ _ (by omega) (by omega), anyF]
      cases T (ρ k) (β + k) <;> rfl
  unfold fX8_canBegin frT
  exact loop h 0 FU (by omega) (FU_big (by omega))
theorem begin8 {m : Nat} {P ρ ω : Nat → Nat} {T : Nat → Nat → Bool} {h t : Nat} {way isT : Nat → Int32} (hW : wyR m P ρ ω h way) (hT : MT m P T isT) (hh : h ≤ 11) (ht : t ≤ 440) (h1 : frT T ρ h t = true) (h2 : ∀ β, β < t → frT T ρ h β = false) (K : Int32 → Option (Int32 × Int32 × (Nat → Int32) × (Nat → Int32) × (Nat → Int32) × Int32 × (Nat → Int32) × (Nat → Int32))) : fX8_calls_176 way (nI h) isT K FU 0 = K (nI t) := by
  have loop : ∀ r β F, β + r = t → r < F → fX8_calls_176 way (nI h) isT K F (nI β) = K (nI t) := by
    intro r
    induction r with
    | zero =>
      intro β F hβ hF
      obtain ⟨F, rfl⟩ : ∃ m, F = m + 1 := ⟨F - 1, by omega⟩
      obtain rfl : β = t := by omega
      rw [fX8_calls_176, canBegin8 hW hT hh (by omega), bd1_some, h1, if_neg (show ¬ bI true = 0 by decide)]
    | succ r ih =>
      intro β F hβ hF
      obtain ⟨F, rfl⟩ : ∃ m, F = m + 1 := ⟨F - 1, by omega⟩
      rw [fX8_calls_176, canBegin8 hW hT hh (by omega), bd1_some, h2 β (by omega), if_pos (show bI false = 0 by decide), nI_inc]
      exact ih (β + 1) F (by omega) (by omega)
  exact loop t 0 FU (by omega) (FU_big (by omega))
theorem mark8 {m : Nat} {P ρ ω : Nat → Nat} {T : Nat → Nat → Bool} {h t : Nat} {way : Nat → Int32} (hW : wyR m P ρ ω h way) (hP : ∀ i j, i < m → j < m → 12 * (P i / 20) + P i % 20 = 12 * (P j / 20) + P j % 20 → i = j) (hh : h ≤ 11) (ht : t ≤ 440) (K : (Nat → Int32) → Option (Int32 × Int32 × (Nat → Int32) × (Nat → Int32) × (Nat → Int32) × Int32 × (Nat → Int32) × (Nat → Int32))) :
    ∀ r k F isT, k + r = h → r < F → MT m P (TU T ρ t k) isT → ∃ isT', fX8_calls_194 (nI t) way (nI h) K F (nI k) isT = K isT' ∧ MT m P (TU T ρ t h) isT' := by
  intro r
  induction r with
  | zero =>
    intro k F isT hk hF hT
    obtain ⟨F, rfl⟩ : ∃ m, F = m + 1 := ⟨F - 1, by omega⟩
    obtain rfl : k = h := by omega
    exact ⟨isT, by rw [fX8_calls_194, if_pos (ile (by omega) (by omega))], hT⟩
  | succ r ih =>
    intro k F isT hk hF hT
    obtain ⟨F, rfl⟩ : ∃ m, F = m + 1 := ⟨F - 1, by omega⟩
    obtain ⟨i1, i2⟩ := wyR_ix hW (show k < h by omega)
    have hρm := (hW.2 k (by omega)).1
    rw [fX8_calls_194, if_neg (inle (by omega) (by omega)), rdI_nI (by omega) (by decide), nI_inc, rdI_nI (by omega) (by decide), (hW.1 k (by omega)).1, (hW.1 (k + 1) (by omega)).1, nI_add, takenAt8 (hW.1 k (by omega)).2 (hW.1 (k + 1) (by omega)).2, bd1_some, wrI_nI (by omega) (by decide)]
    refine ih (k + 1) F _ (by omega) (by omega) (fun i τ hi hτ => ?_)
    show upd isT _ _ _ = bI (if i = ρ k ∧ τ = t + k then true else TU T ρ t k i τ)
    unfold upd
    by_cases q : i = ρ k ∧ τ = t + k
    · rw [if_pos q, if_pos (by rw [q.1, q.2, i1])]; rfl
    · rw [if_neg q, if_neg (fun e => q ?_)]
      · exact hT i τ hi hτ
      · rw [← i1] at e
        have e1 : 12 * (P i / 20) + P i % 20 = 12 * (P (ρ k) / 20) + P (ρ k) % 20 := by omega
        have e2 := hP i (ρ k) hi hρm e1
        subst e2
        exact ⟨rfl, by omega⟩
