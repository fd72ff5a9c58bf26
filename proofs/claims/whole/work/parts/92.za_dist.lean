-- uses:
/-! ways and their losses -/
def wl (q : Nat → Nat → Prop) (c : Nat → Nat → Nat) (t : Nat) : Nat → Nat → Nat → Prop
  | 0, L, v => L = 0 ∧ v = t
  | h + 1, L, v => ∃ u L', q v u ∧ wl q c t h L' u ∧ L = L' + c v u
/-- the least way from v: its loss and its strings -/
def DS (q : Nat → Nat → Prop) (c : Nat → Nat → Nat) (t v : Nat) (o : Option (Nat × Nat)) : Prop :=
  (o = none ∧ ∀ h L, ¬ wl q c t h L v) ∨ ∃ L h, o = some (L, h) ∧ wl q c t h L v ∧ h ≤ 12 ∧ ∀ h' L', wl q c t h' L' v → L < L' ∨ (L = L' ∧ h ≤ h')
theorem DS_uniq {q : Nat → Nat → Prop} {c : Nat → Nat → Nat} {t v : Nat} {o o' : Option (Nat × Nat)} (h : DS q c t v o) (h' : DS q c t v o') : o = o' := by
  rcases h with ⟨e, h⟩ | ⟨L, k, e, h1, h2, h3⟩
  · rcases h' with ⟨e', _⟩ | ⟨L', k', e', g1, _, _⟩
    · rw [e, e']
    · exact absurd g1 (h k' L')
  · rcases h' with ⟨e', g⟩ | ⟨L', k', e', g1, g2, g3⟩
    · exact absurd h1 (g k L)
    · have a1 := h3 k' L' g1
      have a2 := g3 k L h1
      have b1 : L = L' := by omega
      have b2 : k = k' := by omega
      rw [e, e', b1, b2]
noncomputable def dst (q : Nat → Nat → Prop) (c : Nat → Nat → Nat) (t v : Nat) : Option (Nat × Nat) := Classical.epsilon (DS q c t v)
theorem dst_of {q : Nat → Nat → Prop} {c : Nat → Nat → Nat} {t v : Nat} {o : Option (Nat × Nat)} (h : DS q c t v o) : dst q c t v = o := DS_uniq (Classical.epsilon_spec (p := DS q c t v) ⟨o, h⟩) h
theorem DS_fix {q : Nat → Nat → Prop} {c : Nat → Nat → Nat} {t : Nat} {fin : Nat → Prop} {lo ho : Nat → Nat} (hq : ∀ u v, q u v → u < 12 ∧ v < 12) (h0 : fin t ∧ lo t = 0 ∧ ho t = 0) (h1 : ∀ v, v < 12 → fin v → wl q c t (ho v) (lo v) v ∧ ho v ≤ 12) (h2 : ∀ u v, q u v → fin v → fin u ∧ (lo u < lo v + c u v ∨ (lo u = lo v + c u v ∧ ho u ≤ ho v + 1))) : ∀ v, v < 12 → (fin v → DS q c t v (some (lo v, ho v))) ∧ (¬ fin v → DS q c t v none) := by
  have low : ∀ h L v, wl q c t h L v → fin v ∧ (lo v < L ∨ (lo v = L ∧ ho v ≤ h)) := by
    intro h
    induction h with
    | zero =>
      intro L v hw
      obtain ⟨e1, e2⟩ := hw
      subst e1 e2
      exact ⟨h0.1, by omega⟩
    | succ h ih =>
      intro L v hw
      obtain ⟨u, L', g1, g2, g3⟩ := hw
      obtain ⟨i1, i2⟩ := ih L' u g2
      obtain ⟨i3, i4⟩ := h2 v u g1 i1
      exact ⟨i3, by omega⟩
  intro v hv
  refine ⟨fun hf => Or.inr ⟨lo v, ho v, rfl, (h1 v hv hf).1, (h1 v hv hf).2, fun h' L' hw => (low h' L' v hw).2⟩, fun hf => Or.inl ⟨rfl, fun h L hw => hf (low h L v hw).1⟩⟩
/-- the next window on the way -/
theorem dst_next {q : Nat → Nat → Prop} {c : Nat → Nat → Nat} {t v L h : Nat} (hS : ∀ u, u < 12 → DS q c t u (dst q c t u)) (hq : ∀ u v, q u v → u < 12 ∧ v < 12) (hv : v < 12) (e : dst q c t v = some (L, h + 1)) : ∃ u L', q v u ∧ dst q c t u = some (L', h) ∧ L = L' + c v u := by
  have hd := hS v hv
  rw [e] at hd
  rcases hd with ⟨e', _⟩ | ⟨L1, h1, e', w1, w2, w3⟩
  · exact absurd e' (by simp)
  · have e2 : L = L1 ∧ h + 1 = h1 := by simpa using e'
    obtain ⟨rfl, rfl⟩ := e2
    obtain ⟨u, L', g1, g2, g3⟩ := w1
    refine ⟨u, L', g1, ?_, g3⟩
    rcases hS u (hq v u g1).2 with ⟨_, hno⟩ | ⟨L2, h2, e3, x1, x2, x3⟩
    · exact absurd g2 (hno h L')
    · have a1 := x3 h L' g2
      have a2 := w3 (h2 + 1) (L2 + c v u) ⟨u, L2, g1, x1, rfl⟩
      have b1 : L2 = L' := by omega
      have b2 : h2 = h := by omega
      rw [e3, b1, b2]
theorem dst_0 {q : Nat → Nat → Prop} {c : Nat → Nat → Nat} {t v L : Nat} (hS : DS q c t v (dst q c t v)) (e : dst q c t v = some (L, 0)) : v = t ∧ L = 0 := by
  rw [e] at hS
  rcases hS with ⟨e', _⟩ | ⟨L1, h1, e', w1, w2, w3⟩
  · exact absurd e' (by simp)
  · have e2 : L = L1 ∧ 0 = h1 := by simpa using e'
    obtain ⟨rfl, rfl⟩ := e2
    exact ⟨w1.2, w1.1⟩
theorem dst_t {q : Nat → Nat → Prop} {c : Nat → Nat → Nat} {t : Nat} (hS : DS q c t t (dst q c t t)) : dst q c t t = some (0, 0) := by
  have w0 : wl q c t 0 0 t := ⟨rfl, rfl⟩
  rcases hS with ⟨_, hno⟩ | ⟨L1, h1, e', w1, w2, w3⟩
  · exact absurd w0 (hno 0 0)
  · have := w3 0 0 w0
    rw [e', show L1 = 0 by omega, show h1 = 0 by omega]
/-- without the windows of a set -/
def qp (p : Nat → Nat → Prop) (pst : Nat → Prop) (u v : Nat) : Prop := p u v ∧ ¬ pst u
def encC (o : Option (Nat × Nat)) : Int32 := match o with
  | none => nI 16777216
  | some (L, h) => nI (16 * L + h)
def encL (o : Option (Nat × Nat)) : Int32 := match o with
  | none => nI 1000000
  | some (L, _) => nI L
/-- what holds of a finite way -/
def DB (o : Option (Nat × Nat)) : Prop := ∀ L h, o = some (L, h) → h ≤ 12 ∧ L ≤ 1755
