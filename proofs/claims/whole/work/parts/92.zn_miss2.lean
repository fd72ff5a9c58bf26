-- uses:
/-! the strings that are missing: the model, and the step -/
theorem bd7_some {α β γ δ ε ζ η θ : Type} (a : α) (b : β) (c : γ) (d : δ) (e : ε) (f : ζ) (g : η) (k : α → β → γ → δ → ε → ζ → η → Option θ) : bd7 (some (a, b, c, d, e, f, g)) k = k a b c d e f g := rfl
def smap {X Y : Type} (φ : X → Y) (r : Unit ⊕ X) : Unit ⊕ Y := match r with
  | .inl _ => .inl ()
  | .inr x => .inr (φ x)
theorem forF_map {X Y : Type} (φ : X → Y) {f : Unit → Nat → Unit ⊕ X} : ∀ k i, forF (fun s j => smap φ (f s j)) i k () = smap φ (forF f i k ())
  | 0, _ => rfl
  | k + 1, i => by
    rw [forF, forF]
    cases f () i with
    | inl s => exact forF_map φ k (i + 1)
    | inr x => rfl
theorem forF2_map {X Y : Type} (φ : X → Y) {n : Nat} {f : Unit → Nat → Nat → Unit ⊕ X} : ∀ k i, forF2 n (fun s a b => smap φ (f s a b)) i k () = smap φ (forF2 n f i k ())
  | 0, _ => rfl
  | k + 1, i => by
    rw [forF2, forF2, forF_map φ (f := fun s b => f s i b)]
    cases forF (fun s b => f s i b) (i + 1) (n - (i + 1)) () with
    | inl s => exact forF2_map φ k (i + 1)
    | inr x => rfl
def jout (A td : Nat → Int32) (r : Unit ⊕ (Nat → Int32)) : Option (Int32 × (Nat → Int32) × (Nat → Int32)) := match r with
  | .inl _ => some (0, A, td)
  | .inr x => some (1, A, x)
def jF (B : Nat → Nat) (g : Nat → Nat → Unit ⊕ (Nat → Int32)) (k : Nat) (_ : Unit) (a b : Nat) : Unit ⊕ (Nat → Int32) := if canB B a b then smap (fun td1 => upd td1 k (nI (20 * a + b))) (g a b) else .inl ()
theorem joinsL {A : Nat → Int32} {B : Nat → Nat} (h : MB A 0 B) (hB : WF B) {F0 : (Nat → Int32) → (Nat → Int32) → Int32 → Int32 → Int32 → Int32 → Option (Int32 × (Nat → Int32) × (Nat → Int32))} {k : Nat} (hk : k < 2) {v2 v3 v4 : Int32} (td : Nat → Int32) {g : Nat → Nat → Unit ⊕ (Nat → Int32)}
    (hF : ∀ a b A1, a < b → b < B 0 → canB B a b = true → MB A1 0 (setB B a b 1) → F0 A1 td (nI (k + 1)) v2 v3 v4 = jout A1 td (g a b)) :
    fX8_joins_28 F0 (nI k) v2 v3 v4 (fun (t_all_28 : Nat → Int32) (t_tied_29 : Nat → Int32) => some ((0 : Int32), t_all_28, t_tied_29)) FU 0 A td = jout A td (forF2 (B 0) (jF B g k) 0 (B 0) ()) := by
  have h12 := hB.1
  rcases loop2x (n := B 0) (f := jF B g k) (fun (_ : Unit) (_ : Unit) => True) (fun (x : Nat → Int32) r => r = some ((1 : Int32), A, x))
    (fun F _ a => fX8_joins_28 F0 (nI k) v2 v3 v4 (fun (t_all_28 : Nat → Int32) (t_tied_29 : Nat → Int32) => some ((0 : Int32), t_all_28, t_tied_29)) F (nI a) A td)
    (fun F G _ a b => fX8_joins_45 F0 (nI k) v2 v3 v4 (nI a) (fun (t_all_26 : Nat → Int32) (t_tied_27 : Nat → Int32) => fX8_joins_28 F0 (nI k) v2 v3 v4 (fun (t_all_28 : Nat → Int32) (t_tied_29 : Nat → Int32) => some ((0 : Int32), t_all_28, t_tied_29)) F (nI (a + 1)) t_all_26 t_tied_27) G (nI b) A td)
    (fun _ => some ((0 : Int32), A, td)) (FU_big (by omega))
    (fun F s t e => by rw [fX8_joins_28, rdA0 h, if_pos (ile (by omega) (by omega))])
    (fun F s t a ha e => by rw [fX8_joins_28, rdA0 h, if_neg (inle ha (by omega)), bnd_e, nI_inc])
    (fun F G s t a ha e => by rw [fX8_joins_45, rdA0 h, if_pos (ile (by omega) (by omega))])
    (fun F G s t a b hab hb e => by
      have hr8 := refN_le B a b
      rw [fX8_joins_45, rdA0 h, if_neg (inle hb (by omega)), ref8 h hB (by decide) (by decide) (by omega) (by omega), bd1_some, slackNow8 h hB (by omega) (by omega), bd1_some, nI_inc, nI_inc]
      unfold jF
      cases hcan : canB B a b with
      | false =>
        refine Or.inl ⟨(), (), rfl, trivial, ?_⟩
        by_cases hr : refN B a b = 0
        · have hs : slackN B (B 1) a b = true := by
            unfold canB at hcan
            rw [decide_eq_true hr] at hcan
            simpa using hcan
          rw [hr, if_pos (show nI 0 = 0 from rfl), hs, if_neg (show ¬ bI true = 0 by decide)]
        · rw [if_neg (by rw [n0]; exact ine hr (by omega) (by decide))]
      | true =>
        obtain ⟨hr, hsl⟩ := canB_iff.mp hcan
        obtain ⟨htie, hx⟩ := ref0 hr
        obtain ⟨A1, s1, s2, s3⟩ := sets8 (a := a) (b := b) (v := 1) h (show 186 ≤ 558 by decide) (by decide) (by omega) (by omega)
        have hz : B (42 + 12 * a + b) = 0 := by have := htie; unfold tied at this; simpa using this
        have hsy := hB.2.2.2.2.2.2.2.2.2.1 a b (by omega) (by omega)
        have hbk : fX8_sets 558 A1 (nI a) (nI b) 0 = some A := back (x := 0) (show a < 12 by omega) (show b < 12 by omega) (by rw [MB_at h (by omega), hz]; rfl) (by rw [MB_at h (by omega), ← hsy.2.1, hz]; rfl) s1
        replace s1 : fX8_sets 558 A (nI a) (nI b) 1 = some A1 := s1
        rw [hr, if_pos (show nI 0 = 0 from rfl), hsl, if_pos (show bI false = 0 by decide), s1, bd1_some, hF a b A1 hab hb hcan s2]
        cases hg : g a b with
        | inl _ =>
          refine Or.inl ⟨(), (), rfl, trivial, ?_⟩
          show bd3 (some ((0 : Int32), A1, td)) _ = _
          rw [bd3_some, hbk, bd1_some, if_pos rfl]
        | inr td1 =>
          refine Or.inr ⟨upd td1 k (nI (20 * a + b)), rfl, ?_⟩
          show bd3 (some ((1 : Int32), A1, td1)) _ = _
          rw [bd3_some, hbk, bd1_some, if_neg (show ¬ (1 : Int32) = 0 by decide), wrI_nI hk (by decide), lit 20, pk_mul, nI_add])
    (B 0) 0 () () FU (by omega) (FU_big (by omega)) trivial with ⟨s', t', h1, _, h4⟩ | ⟨x, h1, h2⟩
  · rw [h1]; exact h4
  · rw [h1]; exact h2
theorem joins0 {A : Nat → Int32} {B : Nat → Nat} (h : MB A 0 B) (hB : WF B) {f t : Nat} (hf : f < B 0) (ht : t < B 0) (d k : Nat) (td : Nat → Int32) : fX8_joins (d + 1) A td (nI k) (nI k) (nI f) (nI t) = some (bI (dB (Reach (tk B (B 1)) f t)), A, td) := by
  have h12 := hB.1
  obtain ⟨x, x1, x2⟩ := part8 h hB hf
  rw [fX8_joins]
  unfold fX8_joins_b
  rw [if_pos rfl, x1, bd1_some]
  by_cases q : Reach (tk B (B 1)) f t
  · rw [dB_t q, if_pos (by rw [bit_nI (Nat.lt_of_lt_of_le x2.1 (by decide)) (by omega)]; exact (x2.2 t).mpr q)]; rfl
  · rw [dB_f q, if_neg (by rw [bit_nI (Nat.lt_of_lt_of_le x2.1 (by decide)) (by omega)]; exact fun e => q ((x2.2 t).mp e))]; rfl
theorem joins1 {A : Nat → Int32} {B : Nat → Nat} (h : MB A 0 B) (hB : WF B) {f t : Nat} (hf : f < B 0) (ht : t < B 0) (d k : Nat) (hk : k < 2) (td : Nat → Int32) : fX8_joins (d + 2) A td (nI k) (nI (k + 1)) (nI f) (nI t) = jout A td (smap (fun y => upd td k (nI y)) (js B f t)) := by
  have h12 := hB.1
  rw [fX8_joins]
  unfold fX8_joins_b
  rw [if_neg (ine (by omega) (by omega) (by omega)), joinsL h hB hk td (g := fun a b => if dB (Reach (ins (tk B (B 1)) a b) f t) then .inr td else .inl ()) (fun a b A1 hab hb hcan hM1 => by
    obtain ⟨hr, hsl⟩ := canB_iff.mp hcan
    obtain ⟨htie, hx⟩ := ref0 hr
    have hB' := WF_set hB hab hb (show 1 ≤ 10 by omega) (Or.inr (Or.inr hx))
    have e0 : setB B a b 1 0 = B 0 := setB_lo B (by omega)
    have e1 : setB B a b 1 1 = B 1 := setB_lo B (by omega)
    have htk : tk (setB B a b 1) (setB B a b 1 1) = ins (tk B (B 1)) a b := by rw [e1]; exact tk_ins (v := 0) hB (by omega) (by omega) hsl
    rw [joins0 hM1 hB' (by rw [e0]; exact hf) (by rw [e0]; exact ht), htk]
    cases dB (Reach (ins (tk B (B 1)) a b) f t) <;> rfl)]
  congr 1
  unfold js
  rw [← forF2_map]
  refine forF2_congr _ _ _ (fun a b s _ _ _ => ?_)
  unfold jF jsF
  dsimp only
  cases canB B a b <;> cases dB (Reach (ins (tk B (B 1)) a b) f t) <;> rfl
theorem joins2 {A : Nat → Int32} {B : Nat → Nat} (h : MB A 0 B) (hB : WF B) {f t : Nat} (hf : f < B 0) (ht : t < B 0) (d : Nat) (td : Nat → Int32) : fX8_joins (d + 3) A td (nI 0) (nI 2) (nI f) (nI t) = jout A td (smap (fun (y : Nat × Nat) => upd (upd td 1 (nI y.2)) 0 (nI y.1)) (j2 B f t)) := by
  have h12 := hB.1
  rw [fX8_joins]
  unfold fX8_joins_b
  rw [if_neg (by decide), joinsL h hB (show 0 < 2 by decide) td (g := fun a b => smap (fun y => upd td 1 (nI y)) (js (setB B a b 1) f t)) (fun a b A1 hab hb hcan hM1 => by
    obtain ⟨hr, hsl⟩ := canB_iff.mp hcan
    obtain ⟨htie, hx⟩ := ref0 hr
    have hB' := WF_set hB hab hb (show 1 ≤ 10 by omega) (Or.inr (Or.inr hx))
    have e0 : setB B a b 1 0 = B 0 := setB_lo B (by omega)
    exact joins1 hM1 hB' (by rw [e0]; exact hf) (by rw [e0]; exact ht) d 1 (by decide) td)]
  congr 1
  unfold j2
  rw [← forF2_map]
  refine forF2_congr _ _ _ (fun a b s _ _ _ => ?_)
  unfold jF j2F
  dsimp only
  cases canB B a b
  · rfl
  · cases js (setB B a b 1) f t <;> rfl
theorem st_missing : Step_missing Rel0 := by
  intro w0 w1 w2 w3 w4 w5 w6 w7 w8 w9 w10 w11 xt xn xf xp rs rz rv made im all has mt mn mf mp so ma nu y0 y1 y2 p0 p1 p2 th td v u x hR
  obtain ⟨⟨B, hB, hM, hC⟩, hT, hF, hRw, hI⟩ := id hR
  obtain ⟨e0, e4, e2, e3, e5, e1, ⟨m, P, em, hL⟩, hc, hw⟩ := id hC
  dsimp only at e0 e4 e2 e3 e5 e1 em hL hc hw
  subst e0 e4 e2 e3 e5 e1 em
  have h12 := hB.1
  have hh := hB.2.2.1
  unfold fX7_missing fX8_missing
  rw [two7w h12, two8w hM hB, bd1_some, bd1_some, bI_0', bI_0']
  cases hv : twB (B 0) v u with
  | false => exact ⟨-2, nI m, w10, w11, y0, y1, y2, p0, p1, p2, 0, all, td, rfl, rfl, hR⟩
  | true =>
    obtain ⟨f, t, hf, ht, hft, rfl, rfl⟩ := twB_of h12 hv
    rw [if_pos rfl, if_pos rfl, show (2 : Int64) = lN 2 from rfl]
    rcases within_rng x (show 2 < 2 ^ 31 by decide) with ⟨h1, h2⟩ | ⟨h1, h2, h3⟩ | ⟨k, hk, rfl, r1, r2, r3⟩
    · rw [if_pos h1, h2]
      exact ⟨-2, nI m, w10, w11, y0, y1, y2, p0, p1, p2, 0, all, td, rfl, rfl, hR⟩
    · rw [if_neg h1, if_neg (show ¬ x ≤ 2 from h2), h3]
      exact ⟨-2, nI m, w10, w11, y0, y1, y2, p0, p1, p2, 0, all, td, rfl, rfl, hR⟩
    · obtain ⟨l', q', t1, t2, t3⟩ := take_ok hL hB hw (show B 1 < 100000 by omega) y0 y1 y2
      obtain ⟨x1, a1, a2⟩ := reach7 t2 h12 (tk_lt hB) hf
      obtain ⟨x2, b1, b2⟩ := reach7 t2 h12 (tk_lt hB) ht
      rw [if_neg r1, if_pos (show nI k ≤ 2 from r2), r3, bd1_some, if_neg (show ¬ (1 : Int32) = 0 by decide), t1, bd3_some]
      have hx30 : x1 < 2 ^ 30 := Nat.lt_of_lt_of_le a2.1 (by decide)
      have hk3 : k = 0 ∨ k = 1 ∨ k = 2 := by omega
      obtain ⟨F, hFU⟩ : ∃ n, FU = n + 4 := ⟨FU - 4, by have := FU_big (n := 4) (by decide); omega⟩
      have j0 := joins0 hM hB hf ht 15 0 td
      have j1 := joins1 hM hB hf ht 14 0 (by decide) td
      have j2' := joins2 hM hB hf ht 13 td
      replace j0 : fX8_joins 16 all td 0 0 (nI f) (nI t) = _ := j0
      replace j1 : fX8_joins 16 all td 0 (nI 1) (nI f) (nI t) = _ := j1
      replace j2' : fX8_joins 16 all td 0 (nI 2) (nI f) (nI t) = _ := j2'
      have m0 : ∀ (c : Option (Int32 × Int32 × (Nat → Int32) × (Nat → Int32))), fX8_missing_32 (nI f) (nI t) (nI k) 0 (fun (t_all_17 : Nat → Int32) (t_tied_18 : Nat → Int32) => some ((-1 : Int32), (0 : Int32), t_all_17, t_tied_18)) FU 0 all td = bd3 (fX8_joins 16 all td 0 0 (nI f) (nI t)) (fun r_10 t_all_8 t_tied_9 => if r_10 = 0 then fX8_missing_32 (nI f) (nI t) (nI k) 0 (fun (t_all_17 : Nat → Int32) (t_tied_18 : Nat → Int32) => some ((-1 : Int32), (0 : Int32), t_all_17, t_tied_18)) (F + 3) (nI 1) t_all_8 t_tied_9 else if nI k = 0 then some ((0 : Int32), (0 : Int32), t_all_8, t_tied_9) else if 0 < nI k then some ((-1 : Int32), (0 : Int32), t_all_8, t_tied_9) else rdI 2 t_tied_9 (nI k - 1) (fun x_15 => some (x_15, (0 : Int32), t_all_8, t_tied_9))) := by
        intro _
        rw [hFU, fX8_missing_32, if_neg (by decide)]; rfl
      have m1 : fX8_missing_32 (nI f) (nI t) (nI k) 0 (fun (t_all_17 : Nat → Int32) (t_tied_18 : Nat → Int32) => some ((-1 : Int32), (0 : Int32), t_all_17, t_tied_18)) (F + 3) (nI 1) all td = bd3 (fX8_joins 16 all td 0 (nI 1) (nI f) (nI t)) (fun r_10 t_all_8 t_tied_9 => if r_10 = 0 then fX8_missing_32 (nI f) (nI t) (nI k) 0 (fun (t_all_17 : Nat → Int32) (t_tied_18 : Nat → Int32) => some ((-1 : Int32), (0 : Int32), t_all_17, t_tied_18)) (F + 2) (nI 2) t_all_8 t_tied_9 else if nI k = 0 then some (nI 1, (0 : Int32), t_all_8, t_tied_9) else if nI 1 < nI k then some ((-1 : Int32), (0 : Int32), t_all_8, t_tied_9) else rdI 2 t_tied_9 (nI k - 1) (fun x_15 => some (x_15, (0 : Int32), t_all_8, t_tied_9))) := by
        rw [fX8_missing_32, if_neg (by decide)]; rfl
      have m2 : fX8_missing_32 (nI f) (nI t) (nI k) 0 (fun (t_all_17 : Nat → Int32) (t_tied_18 : Nat → Int32) => some ((-1 : Int32), (0 : Int32), t_all_17, t_tied_18)) (F + 2) (nI 2) all td = bd3 (fX8_joins 16 all td 0 (nI 2) (nI f) (nI t)) (fun r_10 t_all_8 t_tied_9 => if r_10 = 0 then fX8_missing_32 (nI f) (nI t) (nI k) 0 (fun (t_all_17 : Nat → Int32) (t_tied_18 : Nat → Int32) => some ((-1 : Int32), (0 : Int32), t_all_17, t_tied_18)) (F + 1) (nI 3) t_all_8 t_tied_9 else if nI k = 0 then some (nI 2, (0 : Int32), t_all_8, t_tied_9) else if nI 2 < nI k then some ((-1 : Int32), (0 : Int32), t_all_8, t_tied_9) else rdI 2 t_tied_9 (nI k - 1) (fun x_15 => some (x_15, (0 : Int32), t_all_8, t_tied_9))) := by
        rw [fX8_missing_32, if_neg (by decide)]; rfl
      rw [m0 none, j0, bd3_some]
      unfold fX2_seek
      rw [a1, bd1_some, bit0_nI hx30 (by omega), b1, bd1_some]
      by_cases hre : Reach (tk B (B 1)) f t
      · rw [if_pos ((a2.2 t).mpr hre), bd7_some, dB_t hre, if_neg (show ¬ bI true = 0 by decide)]
        clear m0 m1 m2 j0 j1 j2' r1 r2 r3
        rcases hk3 with rfl | rfl | rfl
        · exact ⟨0, nI m, w10, w11, nI (B 0), l', q', 0, -1, -1, 0, all, td, rfl, rfl, hR⟩
        · exact ⟨-1, nI m, w10, w11, nI (B 0), l', q', 0, -1, -1, 0, all, td, rfl, rfl, hR⟩
        · exact ⟨-1, nI m, w10, w11, nI (B 0), l', q', 0, -1, -1, 0, all, td, rfl, rfl, hR⟩
      · rw [if_neg (fun e => hre ((a2.2 t).mp e)), first7 hL hB hc hw a2 b2 hre, bd1_some, dB_f hre, if_pos (show bI false = 0 by decide), m1, j1]
        cases hjs : js B f t with
        | inr y =>
          have hy : y < 240 := by
            refine forF2_pair (n := B 0) (f := jsF B f t) (Q := fun y => y < 240) (B 0) 0 y (fun a b hab hb z hz => ?_) hjs
            unfold jsF at hz
            split at hz
            · have : 20 * a + b = z := by simpa using hz
              omega
            · exact absurd hz (by simp)
          show ∃ r, _
          rw [if_neg (show ¬ fnd (.inr y) = -1 from m1_ne (by omega)), bd7_some]
          show ∃ r, _
          rw [show jout all td (smap (fun y => upd td 0 (nI y)) (.inr y)) = some ((1 : Int32), all, upd td 0 (nI y)) from rfl, bd3_some, if_neg (show ¬ (1 : Int32) = 0 by decide)]
          clear m0 m1 m2 j0 j1 j2' r1 r2 r3
          rcases hk3 with rfl | rfl | rfl
          · exact ⟨1, nI m, w10, w11, nI (B 0), l', q', 1, nI y, -1, 0, all, upd td 0 (nI y), rfl, rfl, hR⟩
          · exact ⟨nI y, nI m, w10, w11, nI (B 0), l', q', 1, nI y, -1, 0, all, upd td 0 (nI y), rfl, rfl, hR⟩
          · exact ⟨-1, nI m, w10, w11, nI (B 0), l', q', 1, nI y, -1, 0, all, upd td 0 (nI y), rfl, rfl, hR⟩
        | inl _ =>
          obtain ⟨P', pr', kn', l3, g1, g2⟩ := two7 hL hB hc hw t2 hf ht hre hjs
          rw [if_pos (show fnd (.inl _) = -1 from rfl)]
          rw [show fnd (.inl _) = -1 from rfl, g1]
          rw [show jout all td (smap (fun y => upd td 0 (nI y)) (.inl _)) = some ((0 : Int32), all, td) from rfl, bd3_some, if_pos rfl, m2, j2']
          have hR' : Rel0 (nI (B 0), nI (B 4), nI (B 2), nI (B 3), nI (B 5), nI (B 1), nI m, w7, w8, w9, pr', kn') xt xn xf xp rs rz rv made im all has mt mn mf mp so ma nu := ⟨⟨B, hB, hM, rfl, rfl, rfl, rfl, rfl, rfl, ⟨m, P', rfl, g2⟩, hc, hw⟩, hT, hF, hRw, hI⟩
          cases hj2 : j2 B f t with
          | inl _ =>
            rw [show jout all td (smap (fun (y : Nat × Nat) => upd (upd td 1 (nI y.2)) 0 (nI y.1)) (.inl _)) = some ((0 : Int32), all, td) from rfl, bd3_some, if_pos rfl, fX8_missing_32, if_pos (by decide)]
            show ∃ r, _
            rw [bd7_some, bd7_some]
            clear m0 m1 m2 j0 j1 j2' r1 r2 r3
            rcases hk3 with rfl | rfl | rfl
            · exact ⟨-1, nI m, pr', kn', nI (B 0), l3, q', -1, -1, -1, 0, all, td, rfl, rfl, hR'⟩
            · exact ⟨-1, nI m, pr', kn', nI (B 0), l3, q', -1, -1, -1, 0, all, td, rfl, rfl, hR'⟩
            · exact ⟨-1, nI m, pr', kn', nI (B 0), l3, q', -1, -1, -1, 0, all, td, rfl, rfl, hR'⟩
          | inr y =>
            obtain ⟨ya, yb⟩ := y
            rw [show jout all td (smap (fun (y : Nat × Nat) => upd (upd td 1 (nI y.2)) 0 (nI y.1)) (.inr (ya, yb))) = some ((1 : Int32), all, upd (upd td 1 (nI yb)) 0 (nI ya)) from rfl, bd3_some, if_neg (show ¬ (1 : Int32) = 0 by decide)]
            show ∃ r, _
            rw [bd7_some, bd7_some]
            clear m0 m1 m2 j0 j1 j2' r1 r2 r3
            rcases hk3 with rfl | rfl | rfl
            · exact ⟨2, nI m, pr', kn', nI (B 0), l3, q', 2, nI ya, nI yb, 0, all, upd (upd td 1 (nI yb)) 0 (nI ya), rfl, rfl, hR'⟩
            · exact ⟨nI ya, nI m, pr', kn', nI (B 0), l3, q', 2, nI ya, nI yb, 0, all, upd (upd td 1 (nI yb)) 0 (nI ya), rfl, rfl, hR'⟩
            · exact ⟨nI yb, nI m, pr', kn', nI (B 0), l3, q', 2, nI ya, nI yb, 0, all, upd (upd td 1 (nI yb)) 0 (nI ya), rfl, rfl, hR'⟩
