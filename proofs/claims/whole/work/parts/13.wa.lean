theorem calJ7_fill_53178 : CalS yJ7_fill_53178 cJ7_fill_53178 4 none 2 := ⟨⟨kw_4_3, kw_4_2, by decide +kernel⟩, kw_4_1⟩
set_option maxHeartbeats 8000000 in
set_option maxRecDepth 100000 in
theorem ctJ7_fill_53178 (l : Launch) (G : GT) (p0_n : Nat) (p0_q : Nat) (p0_f : Nat → Int32) (v1 : Int32) (o_p0_f : Nat → Int32) (hf : fJ7_fill_53178 p0_n p0_f v1 = some o_p0_f) : WrV l yJ7_fill_53178 (Cond.code yJ7_fill_53178 cJ7_fill_53178 4 none) { frames := 0, cells := 0, slots := 0, locals := 0 } G [.ref p0_q, .int v1] [arI G p0_q p0_n p0_f] [arI G p0_q p0_n o_p0_f] := by
  intro sz
  refine Met.ofW (cc := cJ7_fill_53178) (maxL := 4) (ret := none) (by decide) rfl ?_
  intro p e s m args below meth c s₁ B hml hv
  obtain ⟨hargs, hsz, hP, hD0, hK⟩ := hv
  subst hsz
  obtain ⟨hx, hb, hr, hw, hown, hlk⟩ := fwB B
  refine fw_enter hargs (Nat.le_of_ble_eq_true rfl) (fun ls hl => ?_)
  have hl : lv_has ls 4 [(0, .ref p0_q), (1, .int v1)] := hl
  refine fw_Q (P := fun Q => ∃ A : Nat → Prop, va_D A [arI G p0_q p0_n p0_f] ∧ va_S A s.heap s.heap [] ∧ (∀ q, s.heap.size ≤ q → A q) ∧ ∀ (n_p0_f : Nat → Int32) (H : Heap) (locs : List Loc) (pc : Nat) (ls : Array Slot), some n_p0_f = some o_p0_f → va_P G.1 vwCl [arI G p0_q p0_n n_p0_f] H → va_S A s.heap H locs → decode cJ7_fill_53178 pc = .ok (.return_, 1) → W p l e ({ frames := 0, cells := 0, slots := 0, locals := 0 } : Room) s m args below meth c H locs 0 0 Q (F0 m pc ls [])) ⟨va_A [arI G p0_q p0_n p0_f] s.heap.size, hD0.self (sz := s.heap.size), va_S.rf, fun q h => Or.inr h, ?_⟩ ?_
  · intro n_p0_f H locs pc ls h hP hS hd
    cases h
    exact retWV hx hb hr hlk hS hP hd
  rintro Q ⟨A, hD, hS, hA, hRet⟩
  change W p l e ({ frames := 0, cells := 0, slots := 0, locals := 0 } : Room) s m args below meth c _ _ 0 0 Q _
  have L5 : ∀ (l3 : Int32) (K : (Nat → Int32) → Option (Nat → Int32)) (n : Nat) (l2 : Int32) (p0_f : Nat → Int32) (H : Heap) (locs : List Loc) (ls : Array Slot), va_P G.1 vwCl [arI G p0_q p0_n p0_f] H → va_D A [arI G p0_q p0_n p0_f] → va_S A s.heap H locs → lv_has ls 4 [(0, .ref p0_q), (1, .int v1), (2, .int l2), (3, .int l3)] → fJ7_fill_53178_5 p0_n v1 l3 K n l2 p0_f = some o_p0_f → (∀ (kp0_f : Nat → Int32) (H : Heap) (locs : List Loc) (ls : Array Slot), va_P G.1 vwCl [arI G p0_q p0_n kp0_f] H → va_D A [arI G p0_q p0_n kp0_f] → va_S A s.heap H locs → lv_has ls 4 [] → K kp0_f = some o_p0_f → W p l e ({ frames := 0, cells := 0, slots := 0, locals := 0 } : Room) s m args below meth c H locs 0 0 Q (F0 m 20 ls [])) → W p l e ({ frames := 0, cells := 0, slots := 0, locals := 0 } : Room) s m args below meth c H locs 0 0 Q (F0 m 5 ls []) := by
    intro l3 K n
    induction n with
    | zero => intro l2 p0_f H locs ls hP hD hS hl hf; rw [fJ7_fill_53178_5] at hf; cases hf
    | succ n ih =>
      intro l2 p0_f H locs ls hP hD hS hl hf hX
      rw [fJ7_fill_53178_5] at hf
      refine lv_iload_n hx hb dJ7_fill_53178_5 rfl (lv_at hl 2 rfl) ?_
      refine lv_iload_n hx hb dJ7_fill_53178_6 rfl (lv_at hl 3 rfl) ?_
      refine lv_icmp_ge (tgt := 20) hx hb dJ7_fill_53178_7 (by decide) (fun c_2 => ?_) (fun c_2 => ?_)
      · have hf := ip c_2 hf
        exact hX _ _ _ _ hP hD hS (lv_sub hl [] rfl) hf
      · have hf := iq c_2 hf
        refine lv_aload_n hx hb dJ7_fill_53178_10 rfl (lv_at hl 0 rfl) ?_
        refine lv_iload_n hx hb dJ7_fill_53178_11 rfl (lv_at hl 2 rfl) ?_
        refine lv_iload_n hx hb dJ7_fill_53178_12 rfl (lv_at hl 1 rfl) ?_
        obtain ⟨hi_4, hf⟩ := wrI_in hf
        refine xiast hx hb hK.1 hP hD hS 0 0 rfl rfl hi_4 dJ7_fill_53178_13 (fun p0_f_3 H locs ep0_f_3 hP hD hS => ?_)
        have hf := hf p0_f_3 ep0_f_3
        have hP : va_P G.1 vwCl [arI G p0_q p0_n p0_f_3] H := hP
        have hD : va_D A [arI G p0_q p0_n p0_f_3] := hD
        refine lv_iinc (v := (l2 + 1)) (lv' := [(2, .int (l2 + 1)), (0, .ref p0_q), (1, .int v1), (3, .int l3)]) hx hb dJ7_fill_53178_14 hl (k := 2) rfl (by rfl) (by decide) rfl (fun ls hl => ?_)
        refine lv_goto (tgt := 5) hx hb dJ7_fill_53178_17 (by decide) ?_
        exact ih _ _ _ _ _ hP hD hS (lv_sub hl [1, 2, 0, 3] rfl) hf hX
  unfold fJ7_fill_53178 at hf
  refine lv_iconst (v := 0) hx hb dJ7_fill_53178_0 (by decide) ?_
  refine lv_istore_n (lv' := [(2, .int 0), (0, .ref p0_q), (1, .int v1)]) hx hb dJ7_fill_53178_1 rfl hl (by decide) rfl (fun ls hl => ?_)
  refine lv_aload_n hx hb dJ7_fill_53178_2 rfl (lv_at hl 1 rfl) ?_
  refine va_alen hx hb hK.1 hP 0 0 rfl rfl rfl dJ7_fill_53178_3 ?_
  refine lv_topi (fun y_1 ey_1 => ?_)
  have hf := bnd_all hf y_1 ey_1
  refine lv_istore_n (lv' := [(3, .int y_1), (2, .int 0), (0, .ref p0_q), (1, .int v1)]) hx hb dJ7_fill_53178_4 rfl hl (by decide) rfl (fun ls hl => ?_)
  refine L5 _ _ _ _ _ _ _ _ hP hD hS (lv_sub hl [2, 3, 1, 0] rfl) hf (fun p0_f_5 H locs ls hP hD hS hl hf => ?_)
  exact hRet _ _ _ _ _ hf hP hS dJ7_fill_53178_20
theorem calX1_clear : CalV yX1_clear cX1_clear 1 none 0 := ⟨⟨kw_3_16, kw_1_19, by decide +kernel⟩, kw_3_14, kw_3_15⟩
set_option maxHeartbeats 8000000 in
set_option maxRecDepth 100000 in
theorem ctX1_clear (l : Launch) (G : GT) (t_h : Nat) (t_a : Nat → Nat) (t_windows : Int32) (t_washes : Int32) (t_damp : Int32) (t_heard : Int32) (t_lines : Int32) (t_hour : Int32) (t_strings : Int32) (t_cans : Nat → Int32) (o_t_windows : Int32) (o_t_washes : Int32) (o_t_damp : Int32) (o_t_heard : Int32) (o_t_lines : Int32) (o_t_hour : Int32) (o_t_strings : Int32) (o_t_cans : Nat → Int32) (hf : fX1_clear t_windows t_washes t_damp t_heard t_lines t_hour t_strings t_cans = some (o_t_windows, o_t_washes, o_t_damp, o_t_heard, o_t_lines, o_t_hour, o_t_strings, o_t_cans)) : WrV l yX1_clear (Cond.code yX1_clear cX1_clear 1 none) { frames := 1, cells := 0, slots := 0, locals := 23 } G [.ref t_h] [oX1 t_h t_a t_windows t_washes t_damp t_heard t_lines t_hour t_strings, arI G (t_a 7) 12 t_cans] [oX1 t_h t_a o_t_windows o_t_washes o_t_damp o_t_heard o_t_lines o_t_hour o_t_strings, arI G (t_a 7) 12 o_t_cans] := by
  intro sz
  refine Met.ofW (cc := cX1_clear) (maxL := 1) (ret := none) (by decide) rfl ?_
  intro p e s m args below meth c s₁ B hml hv
  obtain ⟨hargs, hsz, hP, hD0, hK⟩ := hv
  subst hsz
  obtain ⟨hx, hb, hr, hw, hown, hlk⟩ := fwB B
  refine fw_enter hargs (Nat.le_of_ble_eq_true rfl) (fun ls hl => ?_)
  have hl : lv_has ls 1 [(0, .ref t_h)] := hl
  refine fw_Q (P := fun Q => ∃ A : Nat → Prop, va_D A [oX1 t_h t_a t_windows t_washes t_damp t_heard t_lines t_hour t_strings, arI G (t_a 7) 12 t_cans] ∧ va_S A s.heap s.heap [] ∧ (∀ q, s.heap.size ≤ q → A q) ∧ ∀ (n_t_windows : Int32) (n_t_washes : Int32) (n_t_damp : Int32) (n_t_heard : Int32) (n_t_lines : Int32) (n_t_hour : Int32) (n_t_strings : Int32) (n_t_cans : Nat → Int32) (H : Heap) (locs : List Loc) (pc : Nat) (ls : Array Slot), some (n_t_windows, n_t_washes, n_t_damp, n_t_heard, n_t_lines, n_t_hour, n_t_strings, n_t_cans) = some (o_t_windows, o_t_washes, o_t_damp, o_t_heard, o_t_lines, o_t_hour, o_t_strings, o_t_cans) → va_P G.1 vwCl [oX1 t_h t_a n_t_windows n_t_washes n_t_damp n_t_heard n_t_lines n_t_hour n_t_strings, arI G (t_a 7) 12 n_t_cans] H → va_S A s.heap H locs → decode cX1_clear pc = .ok (.return_, 1) → W p l e ({ frames := 1, cells := 0, slots := 0, locals := 23 } : Room) s m args below meth c H locs 0 0 Q (F0 m pc ls [])) ⟨va_A [oX1 t_h t_a t_windows t_washes t_damp t_heard t_lines t_hour t_strings, arI G (t_a 7) 12 t_cans] s.heap.size, hD0.self (sz := s.heap.size), va_S.rf, fun q h => Or.inr h, ?_⟩ ?_
  · intro n_t_windows n_t_washes n_t_damp n_t_heard n_t_lines n_t_hour n_t_strings n_t_cans H locs pc ls h hP hS hd
    cases h
    exact retWV hx hb hr hlk hS hP hd
  rintro Q ⟨A, hD, hS, hA, hRet⟩
  change W p l e ({ frames := 1, cells := 0, slots := 0, locals := 23 } : Room) s m args below meth c _ _ 0 0 Q _
  unfold fX1_clear at hf
  refine lv_aload_n hx hb dX1_clear_0 rfl (lv_at hl 0 rfl) ?_
  refine lv_iconst (v := 0) hx hb dX1_clear_1 (by decide) ?_
  refine va_put (D := G.1) (ci := 1) (v := .int 0) (ty := .int) (C := RX1) (T := TX1) (N := 12) hx hb hw inW1 tyX1 tyX1_ok nmX1 hown hK.1 hP hD hS 0 rfl rfl 0 (by decide) (hw _ kw_3_17) (fun _ h9 => h9) rfl (by decide +kernel) rfl rfl (Nat.le_of_ble_eq_true rfl) dX1_clear_2 (fun H locs hP hD hS => ?_)
  have hP : va_P G.1 vwCl [oX1 t_h t_a 0 t_washes t_damp t_heard t_lines t_hour t_strings, arI G (t_a 7) 12 t_cans] H := hP
  have hD : va_D A [oX1 t_h t_a 0 t_washes t_damp t_heard t_lines t_hour t_strings, arI G (t_a 7) 12 t_cans] := hD
  refine lv_aload_n hx hb dX1_clear_5 rfl (lv_at hl 0 rfl) ?_
  refine lv_iconst (v := 0) hx hb dX1_clear_6 (by decide) ?_
  refine va_put (D := G.1) (ci := 1) (v := .int 0) (ty := .int) (C := RX1) (T := TX1) (N := 12) hx hb hw inW1 tyX1 tyX1_ok nmX1 hown hK.1 hP hD hS 0 rfl rfl 1 (by decide) (hw _ kw_3_18) (fun _ h9 => h9) rfl (by decide +kernel) rfl rfl (Nat.le_of_ble_eq_true rfl) dX1_clear_7 (fun H locs hP hD hS => ?_)
  have hP : va_P G.1 vwCl [oX1 t_h t_a 0 0 t_damp t_heard t_lines t_hour t_strings, arI G (t_a 7) 12 t_cans] H := hP
  have hD : va_D A [oX1 t_h t_a 0 0 t_damp t_heard t_lines t_hour t_strings, arI G (t_a 7) 12 t_cans] := hD
  refine lv_aload_n hx hb dX1_clear_10 rfl (lv_at hl 0 rfl) ?_
  refine lv_iconst (v := 0) hx hb dX1_clear_11 (by decide) ?_
  refine va_put (D := G.1) (ci := 1) (v := .int 0) (ty := .int) (C := RX1) (T := TX1) (N := 12) hx hb hw inW1 tyX1 tyX1_ok nmX1 hown hK.1 hP hD hS 0 rfl rfl 2 (by decide) (hw _ kw_3_19) (fun _ h9 => h9) rfl (by decide +kernel) rfl rfl (Nat.le_of_ble_eq_true rfl) dX1_clear_12 (fun H locs hP hD hS => ?_)
  have hP : va_P G.1 vwCl [oX1 t_h t_a 0 0 0 t_heard t_lines t_hour t_strings, arI G (t_a 7) 12 t_cans] H := hP
  have hD : va_D A [oX1 t_h t_a 0 0 0 t_heard t_lines t_hour t_strings, arI G (t_a 7) 12 t_cans] := hD
  refine lv_aload_n hx hb dX1_clear_15 rfl (lv_at hl 0 rfl) ?_
  refine lv_bipush (v := 60) hx hb dX1_clear_16 (by decide) ?_
  refine va_put (D := G.1) (ci := 1) (v := .int 60) (ty := .int) (C := RX1) (T := TX1) (N := 12) hx hb hw inW1 tyX1 tyX1_ok nmX1 hown hK.1 hP hD hS 0 rfl rfl 3 (by decide) (hw _ kw_3_20) (fun _ h9 => h9) rfl (by decide +kernel) rfl rfl (Nat.le_of_ble_eq_true rfl) dX1_clear_18 (fun H locs hP hD hS => ?_)
  have hP : va_P G.1 vwCl [oX1 t_h t_a 0 0 0 60 t_lines t_hour t_strings, arI G (t_a 7) 12 t_cans] H := hP
  have hD : va_D A [oX1 t_h t_a 0 0 0 60 t_lines t_hour t_strings, arI G (t_a 7) 12 t_cans] := hD
  refine lv_aload_n hx hb dX1_clear_21 rfl (lv_at hl 0 rfl) ?_
  refine lv_iconst (v := 0) hx hb dX1_clear_22 (by decide) ?_
  refine va_put (D := G.1) (ci := 1) (v := .int 0) (ty := .int) (C := RX1) (T := TX1) (N := 12) hx hb hw inW1 tyX1 tyX1_ok nmX1 hown hK.1 hP hD hS 0 rfl rfl 4 (by decide) (hw _ kw_3_21) (fun _ h9 => h9) rfl (by decide +kernel) rfl rfl (Nat.le_of_ble_eq_true rfl) dX1_clear_23 (fun H locs hP hD hS => ?_)
  have hP : va_P G.1 vwCl [oX1 t_h t_a 0 0 0 60 0 t_hour t_strings, arI G (t_a 7) 12 t_cans] H := hP
  have hD : va_D A [oX1 t_h t_a 0 0 0 60 0 t_hour t_strings, arI G (t_a 7) 12 t_cans] := hD
  refine lv_aload_n hx hb dX1_clear_26 rfl (lv_at hl 0 rfl) ?_
  refine lv_iconst (v := 0) hx hb dX1_clear_27 (by decide) ?_
  refine va_put (D := G.1) (ci := 1) (v := .int 0) (ty := .int) (C := RX1) (T := TX1) (N := 12) hx hb hw inW1 tyX1 tyX1_ok nmX1 hown hK.1 hP hD hS 0 rfl rfl 5 (by decide) (hw _ kw_3_22) (fun _ h9 => h9) rfl (by decide +kernel) rfl rfl (Nat.le_of_ble_eq_true rfl) dX1_clear_28 (fun H locs hP hD hS => ?_)
  have hP : va_P G.1 vwCl [oX1 t_h t_a 0 0 0 60 0 0 t_strings, arI G (t_a 7) 12 t_cans] H := hP
  have hD : va_D A [oX1 t_h t_a 0 0 0 60 0 0 t_strings, arI G (t_a 7) 12 t_cans] := hD
  refine lv_aload_n hx hb dX1_clear_31 rfl (lv_at hl 0 rfl) ?_
  refine lv_iconst (v := 0) hx hb dX1_clear_32 (by decide) ?_
  refine va_put (D := G.1) (ci := 1) (v := .int 0) (ty := .int) (C := RX1) (T := TX1) (N := 12) hx hb hw inW1 tyX1 tyX1_ok nmX1 hown hK.1 hP hD hS 0 rfl rfl 6 (by decide) (hw _ kw_3_23) (fun _ h9 => h9) rfl (by decide +kernel) rfl rfl (Nat.le_of_ble_eq_true rfl) dX1_clear_33 (fun H locs hP hD hS => ?_)
  have hP : va_P G.1 vwCl [oX1 t_h t_a 0 0 0 60 0 0 0, arI G (t_a 7) 12 t_cans] H := hP
  have hD : va_D A [oX1 t_h t_a 0 0 0 60 0 0 0, arI G (t_a 7) 12 t_cans] := hD
  refine lv_aload_n hx hb dX1_clear_36 rfl (lv_at hl 0 rfl) ?_
  refine va_get (D := G.1) (ci := 1) (v := .ref (t_a 7)) (C := RX1) (T := TX1) (N := 12) hx hb hw inW1 hown hK.1 hP 0 rfl rfl 7 (by decide) (hw _ kw_3_8) (fun _ h9 => h9) rfl dX1_clear_37 ?_
  refine lv_iconst (v := 3) hx hb dX1_clear_40 (by decide) ?_
  obtain ⟨t_cans_1, hc_2, hf⟩ := bd1_in hf
  refine wcV (w1 := [arI G (t_a 7) 12 t_cans_1]) (va_runS (As := [.ref (t_a 7), .int 3]) (rest := []) ⟨hx, hb, hml, hown, hw⟩ ((ctJ7_fill_53178 l G 12 (t_a 7) t_cans 3 _ hc_2) _) (kS hw calJ7_fill_53178 kw_4_0 rfl rfl ⟨Nat.le_of_ble_eq_true rfl, Nat.le_of_ble_eq_true rfl⟩) (wpS (hP.sub (ws' := [arI G (t_a 7) 12 t_cans]) [1] rfl) (hD.sub (ws' := [arI G (t_a 7) 12 t_cans]) [1] (by decide) rfl) hK) rfl rfl hl.1 rfl (lv_room (Nat.le_of_ble_eq_true rfl)) dX1_clear_41 ⟨Nat.zero_le _, Nat.zero_le _⟩) hS hA hP hD [1] rfl rfl (fun H locs hP hD hS => ?_)
  have hP : va_P G.1 vwCl [oX1 t_h t_a 0 0 0 60 0 0 0, arI G (t_a 7) 12 t_cans_1] H := hP
  have hD : va_D A [oX1 t_h t_a 0 0 0 60 0 0 0, arI G (t_a 7) 12 t_cans_1] := hD
  exact hRet _ _ _ _ _ _ _ _ _ _ _ _ hf hP hS dX1_clear_44
theorem calX3_putOnTape : CalV yX3_putOnTape cX3_putOnTape 3 none 1 := ⟨⟨kw_6_15, kw_1_15, by decide +kernel⟩, kw_6_13, kw_6_14⟩
set_option maxHeartbeats 8000000 in
set_option maxRecDepth 100000 in
theorem ctX3_putOnTape (l : Launch) (G : GT) (t_h : Nat) (t_a : Nat → Nat) (t_tape : Nat → Int32) (t_taped : Int32) (t_length : Int32) (t_at : Int32) (t_kind : Int32) (t_start : Int32) (t_value : Int32) (t_fault : Int32) (t_place : Int32) (v1 : Int32) (o_t_tape : Nat → Int32) (o_t_taped : Int32) (hf : fX3_putOnTape t_tape t_taped v1 = some (o_t_tape, o_t_taped)) : WrV l yX3_putOnTape (Cond.code yX3_putOnTape cX3_putOnTape 3 none) { frames := 0, cells := 0, slots := 0, locals := 0 } G [.ref t_h, .int v1] [oX3 t_h t_a t_taped t_length t_at t_kind t_start t_value t_fault t_place, arB G (t_a 0) 900 t_tape] [oX3 t_h t_a o_t_taped t_length t_at t_kind t_start t_value t_fault t_place, arB G (t_a 0) 900 o_t_tape] := by
  intro sz
  refine Met.ofW (cc := cX3_putOnTape) (maxL := 3) (ret := none) (by decide) rfl ?_
  intro p e s m args below meth c s₁ B hml hv
  obtain ⟨hargs, hsz, hP, hD0, hK⟩ := hv
  subst hsz
  obtain ⟨hx, hb, hr, hw, hown, hlk⟩ := fwB B
  refine fw_enter hargs (Nat.le_of_ble_eq_true rfl) (fun ls hl => ?_)
  have hl : lv_has ls 3 [(0, .ref t_h), (1, .int v1)] := hl
  refine fw_Q (P := fun Q => ∃ A : Nat → Prop, va_D A [oX3 t_h t_a t_taped t_length t_at t_kind t_start t_value t_fault t_place, arB G (t_a 0) 900 t_tape] ∧ va_S A s.heap s.heap [] ∧ (∀ q, s.heap.size ≤ q → A q) ∧ ∀ (n_t_tape : Nat → Int32) (n_t_taped : Int32) (H : Heap) (locs : List Loc) (pc : Nat) (ls : Array Slot), some (n_t_tape, n_t_taped) = some (o_t_tape, o_t_taped) → va_P G.1 vwCl [oX3 t_h t_a n_t_taped t_length t_at t_kind t_start t_value t_fault t_place, arB G (t_a 0) 900 n_t_tape] H → va_S A s.heap H locs → decode cX3_putOnTape pc = .ok (.return_, 1) → W p l e ({ frames := 0, cells := 0, slots := 0, locals := 0 } : Room) s m args below meth c H locs 0 0 Q (F0 m pc ls [])) ⟨va_A [oX3 t_h t_a t_taped t_length t_at t_kind t_start t_value t_fault t_place, arB G (t_a 0) 900 t_tape] s.heap.size, hD0.self (sz := s.heap.size), va_S.rf, fun q h => Or.inr h, ?_⟩ ?_
  · intro n_t_tape n_t_taped H locs pc ls h hP hS hd
    cases h
    exact retWV hx hb hr hlk hS hP hd
  rintro Q ⟨A, hD, hS, hA, hRet⟩
  change W p l e ({ frames := 0, cells := 0, slots := 0, locals := 0 } : Room) s m args below meth c _ _ 0 0 Q _
  have L3 : ∀  (K : (Nat → Int32) → Int32 → Option ((Nat → Int32) × Int32)) (n : Nat) (l2 : Int32) (t_tape : Nat → Int32) (t_taped : Int32) (H : Heap) (locs : List Loc) (ls : Array Slot), va_P G.1 vwCl [oX3 t_h t_a t_taped t_length t_at t_kind t_start t_value t_fault t_place, arB G (t_a 0) 900 t_tape] H → va_D A [oX3 t_h t_a t_taped t_length t_at t_kind t_start t_value t_fault t_place, arB G (t_a 0) 900 t_tape] → va_S A s.heap H locs → lv_has ls 3 [(0, .ref t_h), (1, .int v1), (2, .int l2)] → fX3_putOnTape_3 v1 K n l2 t_tape t_taped = some (o_t_tape, o_t_taped) → (∀ (kt_tape : Nat → Int32) (kt_taped : Int32) (H : Heap) (locs : List Loc) (ls : Array Slot), va_P G.1 vwCl [oX3 t_h t_a kt_taped t_length t_at t_kind t_start t_value t_fault t_place, arB G (t_a 0) 900 kt_tape] H → va_D A [oX3 t_h t_a kt_taped t_length t_at t_kind t_start t_value t_fault t_place, arB G (t_a 0) 900 kt_tape] → va_S A s.heap H locs → lv_has ls 3 [] → K kt_tape kt_taped = some (o_t_tape, o_t_taped) → W p l e ({ frames := 0, cells := 0, slots := 0, locals := 0 } : Room) s m args below meth c H locs 0 0 Q (F0 m 46 ls [])) → W p l e ({ frames := 0, cells := 0, slots := 0, locals := 0 } : Room) s m args below meth c H locs 0 0 Q (F0 m 3 ls []) := by
    intro  K n
    induction n with
    | zero => intro l2 t_tape t_taped H locs ls hP hD hS hl hf; rw [fX3_putOnTape_3] at hf; cases hf
    | succ n ih =>
      intro l2 t_tape t_taped H locs ls hP hD hS hl hf hX
      rw [fX3_putOnTape_3] at hf
      refine lv_iload_n hx hb dX3_putOnTape_3 rfl (lv_at hl 2 rfl) ?_
      refine lv_if_lt (tgt := 46) hx hb dX3_putOnTape_4 (by decide) (fun c_1 => ?_) (fun c_1 => ?_)
      · have hf := ip c_1 hf
        exact hX _ _ _ _ _ hP hD hS (lv_sub hl [] rfl) hf
      · have hf := iq c_1 hf
        refine lv_aload_n hx hb dX3_putOnTape_7 rfl (lv_at hl 0 rfl) ?_
        refine va_get (D := G.1) (ci := 3) (v := .int t_taped) (C := RX3) (T := TX3) (N := 9) hx hb hw inW3 hown hK.1 hP 0 rfl rfl 1 (by decide) (hw _ kw_6_16) (fun _ h9 => h9) rfl dX3_putOnTape_8 ?_
        refine lv_sipush (v := 900) hx hb dX3_putOnTape_11 (by decide) ?_
        refine lv_icmp_ge (tgt := 46) hx hb dX3_putOnTape_14 (by decide) (fun c_2 => ?_) (fun c_2 => ?_)
        · have hf := ip c_2 hf
          exact hX _ _ _ _ _ hP hD hS (lv_sub hl [] rfl) hf
        · have hf := iq c_2 hf
          refine lv_aload_n hx hb dX3_putOnTape_17 rfl (lv_at hl 0 rfl) ?_
          refine va_get (D := G.1) (ci := 3) (v := .ref (t_a 0)) (C := RX3) (T := TX3) (N := 9) hx hb hw inW3 hown hK.1 hP 0 rfl rfl 0 (by decide) (hw _ kw_3_1) (fun _ h9 => h9) rfl dX3_putOnTape_18 ?_
          refine lv_aload_n hx hb dX3_putOnTape_21 rfl (lv_at hl 0 rfl) ?_
          refine va_get (D := G.1) (ci := 3) (v := .int t_taped) (C := RX3) (T := TX3) (N := 9) hx hb hw inW3 hown hK.1 hP 0 rfl rfl 1 (by decide) (hw _ kw_6_16) (fun _ h9 => h9) rfl dX3_putOnTape_22 ?_
          refine lv_iload_n hx hb dX3_putOnTape_25 rfl (lv_at hl 1 rfl) ?_
          refine lv_iload_n hx hb dX3_putOnTape_26 rfl (lv_at hl 2 rfl) ?_
          refine lv_iushr hx hb dX3_putOnTape_27 rfl ?_
          refine lv_i2b hx hb dX3_putOnTape_28 rfl ?_
          obtain ⟨hi_4, hf⟩ := wrI_in hf
          refine xbast hx hb hK.1 hP hD hS 1 1 rfl rfl hi_4 dX3_putOnTape_29 (fun t_tape_3 H locs et_tape_3 hP hD hS => ?_)
          have hf := hf t_tape_3 et_tape_3
          have hP : va_P G.1 vwCl [oX3 t_h t_a t_taped t_length t_at t_kind t_start t_value t_fault t_place, arB G (t_a 0) 900 t_tape_3] H := hP
          have hD : va_D A [oX3 t_h t_a t_taped t_length t_at t_kind t_start t_value t_fault t_place, arB G (t_a 0) 900 t_tape_3] := hD
          refine lv_aload_n hx hb dX3_putOnTape_30 rfl (lv_at hl 0 rfl) ?_
          refine lv_dup hx hb dX3_putOnTape_31 rfl ?_
          refine va_get (D := G.1) (ci := 3) (v := .int t_taped) (C := RX3) (T := TX3) (N := 9) hx hb hw inW3 hown hK.1 hP 0 rfl rfl 1 (by decide) (hw _ kw_6_16) (fun _ h9 => h9) rfl dX3_putOnTape_32 ?_
          refine lv_iconst (v := 1) hx hb dX3_putOnTape_35 (by decide) ?_
          refine lv_iadd hx hb dX3_putOnTape_36 ?_
          refine lv_topi (fun y_5 ey_5 => ?_)
          have hf := bnd_all hf y_5 ey_5
          refine va_put (D := G.1) (ci := 3) (v := .int y_5) (ty := .int) (C := RX3) (T := TX3) (N := 9) hx hb hw inW3 tyX3 tyX3_ok nmX3 hown hK.1 hP hD hS 0 rfl rfl 1 (by decide) (hw _ kw_6_16) (fun _ h9 => h9) rfl (by decide +kernel) rfl rfl (Nat.le_of_ble_eq_true rfl) dX3_putOnTape_37 (fun H locs hP hD hS => ?_)
          have hP : va_P G.1 vwCl [oX3 t_h t_a y_5 t_length t_at t_kind t_start t_value t_fault t_place, arB G (t_a 0) 900 t_tape_3] H := hP
          have hD : va_D A [oX3 t_h t_a y_5 t_length t_at t_kind t_start t_value t_fault t_place, arB G (t_a 0) 900 t_tape_3] := hD
          refine lv_iinc (v := (l2 + (-8))) (lv' := [(2, .int (l2 + (-8))), (0, .ref t_h), (1, .int v1)]) hx hb dX3_putOnTape_40 hl (k := 2) rfl (by rfl) (by decide) rfl (fun ls hl => ?_)
          refine lv_goto (tgt := 3) hx hb dX3_putOnTape_43 (by decide) ?_
          exact ih _ _ _ _ _ _ hP hD hS (lv_sub hl [1, 2, 0] rfl) hf hX
  unfold fX3_putOnTape at hf
  refine lv_bipush (v := 24) hx hb dX3_putOnTape_0 (by decide) ?_
  refine lv_istore_n (lv' := [(2, .int 24), (0, .ref t_h), (1, .int v1)]) hx hb dX3_putOnTape_2 rfl hl (by decide) rfl (fun ls hl => ?_)
  refine L3  _ _ _ _ _ _ _ _ hP hD hS (lv_sub hl [1, 2, 0] rfl) hf (fun t_tape_6 t_taped_7 H locs ls hP hD hS hl hf => ?_)
  exact hRet _ _ _ _ _ _ hf hP hS dX3_putOnTape_46
theorem calX3_kindOf : CalS yX3_kindOf cX3_kindOf 1 (some .int) 1 := ⟨⟨kw_8_0, kw_1_15, by decide +kernel⟩, kw_7_23⟩
set_option maxHeartbeats 8000000 in
set_option maxRecDepth 100000 in
theorem ctX3_kindOf (l : Launch) (G : GT) (v0 : Int32) (r : Int32) (hf : fX3_kindOf v0 = some r) : RdI l yX3_kindOf (Cond.code yX3_kindOf cX3_kindOf 1 (some .int)) { frames := 0, cells := 0, slots := 0, locals := 0 } G [.int v0] [] r := by
  intro sz
  refine Met.ofW (cc := cX3_kindOf) (maxL := 1) (ret := (some .int)) (by decide) rfl ?_
  intro p e s m args below meth c s₁ B hml hv
  obtain ⟨hargs, hsz, hP, hK⟩ := hv
  subst hsz
  obtain ⟨hx, hb, hr, hw, hown, hlk⟩ := fwB B
  refine fw_enter hargs (Nat.le_of_ble_eq_true rfl) (fun ls hl => ?_)
  have hl : lv_has ls 1 [(0, .int v0)] := hl
  refine fw_Q (P := fun Q => ∃ A : Nat → Prop, va_S A s.heap s.heap [] ∧ (∀ q, s.heap.size ≤ q → A q) ∧ ∀ (v : Int32) (H : Heap) (locs : List Loc) (pc : Nat) (ls : Array Slot), some v = some r → va_S A s.heap H locs → decode cX3_kindOf pc = .ok (.ireturn, 1) → W p l e ({ frames := 0, cells := 0, slots := 0, locals := 0 } : Room) s m args below meth c H locs 0 0 Q (F0 m pc ls [.int v])) ⟨fun q => s.heap.size ≤ q, va_S.rf, fun q h => h, fun v H locs pc ls h hS hd => retRI hx hb hr hlk hS h hd⟩ ?_
  rintro Q ⟨A, hS, hA, hRet⟩
  change W p l e ({ frames := 0, cells := 0, slots := 0, locals := 0 } : Room) s m args below meth c _ _ 0 0 Q _
  unfold fX3_kindOf at hf
  refine lv_iload_n hx hb dX3_kindOf_0 rfl (lv_at hl 0 rfl) ?_
  refine lv_bipush (v := 97) hx hb dX3_kindOf_1 (by decide) ?_
  refine jn_el hf (fun k_1 ek_1 hf => ?_)
  have J14 : ∀  (H : Heap) (locs : List Loc) (ls : Array Slot), va_P G.1 vwCl [] H → va_S A s.heap H locs → lv_has ls 1 [(0, .int v0)] → k_1 = some r → W p l e ({ frames := 0, cells := 0, slots := 0, locals := 0 } : Room) s m args below meth c H locs 0 0 Q (F0 m 14 ls []) := by
    intro  H locs ls hP hS hl hf
    rw [ek_1] at hf
    refine lv_iload_n hx hb dX3_kindOf_14 rfl (lv_at hl 0 rfl) ?_
    refine lv_bipush (v := 48) hx hb dX3_kindOf_15 (by decide) ?_
    refine jn_el hf (fun k_2 ek_2 hf => ?_)
    have J28 : ∀  (H : Heap) (locs : List Loc) (ls : Array Slot), va_P G.1 vwCl [] H → va_S A s.heap H locs → lv_has ls 1 [(0, .int v0)] → k_2 = some r → W p l e ({ frames := 0, cells := 0, slots := 0, locals := 0 } : Room) s m args below meth c H locs 0 0 Q (F0 m 28 ls []) := by
      intro  H locs ls hP hS hl hf
      rw [ek_2] at hf
      refine lv_iload_n hx hb dX3_kindOf_28 rfl (lv_at hl 0 rfl) ?_
      refine lv_bipush (v := 59) hx hb dX3_kindOf_29 (by decide) ?_
      refine lv_icmp_ne (tgt := 36) hx hb dX3_kindOf_31 (by decide) (fun c_3 => ?_) (fun c_3 => ?_)
      · have hf := iq c_3 hf
        refine lv_iload_n hx hb dX3_kindOf_36 rfl (lv_at hl 0 rfl) ?_
        refine lv_bipush (v := 10) hx hb dX3_kindOf_37 (by decide) ?_
        refine lv_icmp_eq (tgt := 48) hx hb dX3_kindOf_39 (by decide) (fun c_4 => ?_) (fun c_4 => ?_)
        · have hf := ip c_4 hf
          refine lv_iconst (v := 3) hx hb dX3_kindOf_48 (by decide) ?_
          refine lv_goto (tgt := 53) hx hb dX3_kindOf_49 (by decide) ?_
          exact hRet _ _ _ _ _ hf hS dX3_kindOf_53
        · have hf := iq c_4 hf
          refine lv_iload_n hx hb dX3_kindOf_42 rfl (lv_at hl 0 rfl) ?_
          refine lv_bipush (v := 32) hx hb dX3_kindOf_43 (by decide) ?_
          refine lv_icmp_ne (tgt := 52) hx hb dX3_kindOf_45 (by decide) (fun c_5 => ?_) (fun c_5 => ?_)
          · have hf := iq c_5 hf
            refine lv_iconst (v := 4) hx hb dX3_kindOf_52 (by decide) ?_
            exact hRet _ _ _ _ _ hf hS dX3_kindOf_53
          · have hf := ip c_5 hf
            refine lv_iconst (v := 3) hx hb dX3_kindOf_48 (by decide) ?_
            refine lv_goto (tgt := 53) hx hb dX3_kindOf_49 (by decide) ?_
            exact hRet _ _ _ _ _ hf hS dX3_kindOf_53
      · have hf := ip c_3 hf
        refine lv_iconst (v := 2) hx hb dX3_kindOf_34 (by decide) ?_
        exact hRet _ _ _ _ _ hf hS dX3_kindOf_35
    refine lv_icmp_lt (tgt := 28) hx hb dX3_kindOf_17 (by decide) (fun c_6 => ?_) (fun c_6 => ?_)
    · have hf := ip c_6 hf
      exact J28  _ _ _ hP hS (lv_sub hl [0] rfl) hf
    · have hf := iq c_6 hf
      refine lv_iload_n hx hb dX3_kindOf_20 rfl (lv_at hl 0 rfl) ?_
      refine lv_bipush (v := 57) hx hb dX3_kindOf_21 (by decide) ?_
      refine lv_icmp_gt (tgt := 28) hx hb dX3_kindOf_23 (by decide) (fun c_7 => ?_) (fun c_7 => ?_)
      · have hf := ip c_7 hf
        exact J28  _ _ _ hP hS (lv_sub hl [0] rfl) hf
      · have hf := iq c_7 hf
        refine lv_iconst (v := 1) hx hb dX3_kindOf_26 (by decide) ?_
        exact hRet _ _ _ _ _ hf hS dX3_kindOf_27
  refine lv_icmp_lt (tgt := 14) hx hb dX3_kindOf_3 (by decide) (fun c_8 => ?_) (fun c_8 => ?_)
  · have hf := ip c_8 hf
    exact J14  _ _ _ hP hS (lv_sub hl [0] rfl) hf
  · have hf := iq c_8 hf
    refine lv_iload_n hx hb dX3_kindOf_6 rfl (lv_at hl 0 rfl) ?_
    refine lv_bipush (v := 122) hx hb dX3_kindOf_7 (by decide) ?_
    refine lv_icmp_gt (tgt := 14) hx hb dX3_kindOf_9 (by decide) (fun c_9 => ?_) (fun c_9 => ?_)
    · have hf := ip c_9 hf
      exact J14  _ _ _ hP hS (lv_sub hl [0] rfl) hf
    · have hf := iq c_9 hf
      refine lv_iconst (v := 0) hx hb dX3_kindOf_12 (by decide) ?_
      exact hRet _ _ _ _ _ hf hS dX3_kindOf_13
theorem calX3_refuse : CalV yX3_refuse cX3_refuse 2 none 1 := ⟨⟨kw_8_4, kw_1_15, by decide +kernel⟩, kw_8_2, kw_8_3⟩
set_option maxHeartbeats 8000000 in
set_option maxRecDepth 100000 in
theorem ctX3_refuse (l : Launch) (G : GT) (t_h : Nat) (t_a : Nat → Nat) (t_taped : Int32) (t_length : Int32) (t_at : Int32) (t_kind : Int32) (t_start : Int32) (t_value : Int32) (t_fault : Int32) (t_place : Int32) (v1 : Int32) (o_t_fault : Int32) (o_t_place : Int32) (hf : fX3_refuse t_start t_fault t_place v1 = some (o_t_fault, o_t_place)) : WrV l yX3_refuse (Cond.code yX3_refuse cX3_refuse 2 none) { frames := 0, cells := 0, slots := 0, locals := 0 } G [.ref t_h, .int v1] [oX3 t_h t_a t_taped t_length t_at t_kind t_start t_value t_fault t_place] [oX3 t_h t_a t_taped t_length t_at t_kind t_start t_value o_t_fault o_t_place] := by
  intro sz
  refine Met.ofW (cc := cX3_refuse) (maxL := 2) (ret := none) (by decide) rfl ?_
  intro p e s m args below meth c s₁ B hml hv
  obtain ⟨hargs, hsz, hP, hD0, hK⟩ := hv
  subst hsz
  obtain ⟨hx, hb, hr, hw, hown, hlk⟩ := fwB B
  refine fw_enter hargs (Nat.le_of_ble_eq_true rfl) (fun ls hl => ?_)
  have hl : lv_has ls 2 [(0, .ref t_h), (1, .int v1)] := hl
  refine fw_Q (P := fun Q => ∃ A : Nat → Prop, va_D A [oX3 t_h t_a t_taped t_length t_at t_kind t_start t_value t_fault t_place] ∧ va_S A s.heap s.heap [] ∧ (∀ q, s.heap.size ≤ q → A q) ∧ ∀ (n_t_fault : Int32) (n_t_place : Int32) (H : Heap) (locs : List Loc) (pc : Nat) (ls : Array Slot), some (n_t_fault, n_t_place) = some (o_t_fault, o_t_place) → va_P G.1 vwCl [oX3 t_h t_a t_taped t_length t_at t_kind t_start t_value n_t_fault n_t_place] H → va_S A s.heap H locs → decode cX3_refuse pc = .ok (.return_, 1) → W p l e ({ frames := 0, cells := 0, slots := 0, locals := 0 } : Room) s m args below meth c H locs 0 0 Q (F0 m pc ls [])) ⟨va_A [oX3 t_h t_a t_taped t_length t_at t_kind t_start t_value t_fault t_place] s.heap.size, hD0.self (sz := s.heap.size), va_S.rf, fun q h => Or.inr h, ?_⟩ ?_
  · intro n_t_fault n_t_place H locs pc ls h hP hS hd
    cases h
    exact retWV hx hb hr hlk hS hP hd
  rintro Q ⟨A, hD, hS, hA, hRet⟩
  change W p l e ({ frames := 0, cells := 0, slots := 0, locals := 0 } : Room) s m args below meth c _ _ 0 0 Q _
  unfold fX3_refuse at hf
  refine lv_aload_n hx hb dX3_refuse_0 rfl (lv_at hl 0 rfl) ?_
  refine va_get (D := G.1) (ci := 3) (v := .int t_fault) (C := RX3) (T := TX3) (N := 9) hx hb hw inW3 hown hK.1 hP 0 rfl rfl 7 (by decide) (hw _ kw_7_13) (fun _ h9 => h9) rfl dX3_refuse_1 ?_
  refine lv_if_ne (tgt := 20) hx hb dX3_refuse_4 (by decide) (fun c_1 => ?_) (fun c_1 => ?_)
  · have hf := iq c_1 hf
    exact hRet _ _ _ _ _ _ hf hP hS dX3_refuse_20
  · have hf := ip c_1 hf
    refine lv_aload_n hx hb dX3_refuse_7 rfl (lv_at hl 0 rfl) ?_
    refine lv_iload_n hx hb dX3_refuse_8 rfl (lv_at hl 1 rfl) ?_
    refine va_put (D := G.1) (ci := 3) (v := .int v1) (ty := .int) (C := RX3) (T := TX3) (N := 9) hx hb hw inW3 tyX3 tyX3_ok nmX3 hown hK.1 hP hD hS 0 rfl rfl 7 (by decide) (hw _ kw_7_13) (fun _ h9 => h9) rfl (by decide +kernel) rfl rfl (Nat.le_of_ble_eq_true rfl) dX3_refuse_9 (fun H locs hP hD hS => ?_)
    have hP : va_P G.1 vwCl [oX3 t_h t_a t_taped t_length t_at t_kind t_start t_value v1 t_place] H := hP
    have hD : va_D A [oX3 t_h t_a t_taped t_length t_at t_kind t_start t_value v1 t_place] := hD
    refine lv_aload_n hx hb dX3_refuse_12 rfl (lv_at hl 0 rfl) ?_
    refine lv_aload_n hx hb dX3_refuse_13 rfl (lv_at hl 0 rfl) ?_
    refine va_get (D := G.1) (ci := 3) (v := .int t_start) (C := RX3) (T := TX3) (N := 9) hx hb hw inW3 hown hK.1 hP 0 rfl rfl 5 (by decide) (hw _ kw_7_20) (fun _ h9 => h9) rfl dX3_refuse_14 ?_
    refine va_put (D := G.1) (ci := 3) (v := .int t_start) (ty := .int) (C := RX3) (T := TX3) (N := 9) hx hb hw inW3 tyX3 tyX3_ok nmX3 hown hK.1 hP hD hS 0 rfl rfl 8 (by decide) (hw _ kw_3_2) (fun _ h9 => h9) rfl (by decide +kernel) rfl rfl (Nat.le_of_ble_eq_true rfl) dX3_refuse_17 (fun H locs hP hD hS => ?_)
    have hP : va_P G.1 vwCl [oX3 t_h t_a t_taped t_length t_at t_kind t_start t_value v1 t_start] H := hP
    have hD : va_D A [oX3 t_h t_a t_taped t_length t_at t_kind t_start t_value v1 t_start] := hD
    exact hRet _ _ _ _ _ _ hf hP hS dX3_refuse_20
theorem calX3_valueOfToken : CalV yX3_valueOfToken cX3_valueOfToken 3 (some .int) 0 := ⟨⟨kw_8_8, kw_1_15, by decide +kernel⟩, kw_8_6, kw_8_7⟩
set_option maxHeartbeats 8000000 in
set_option maxRecDepth 100000 in
theorem ctX3_valueOfToken (l : Launch) (G : GT) (t_h : Nat) (t_a : Nat → Nat) (t_tape : Nat → Int32) (t_taped : Int32) (t_length : Int32) (t_at : Int32) (t_kind : Int32) (t_start : Int32) (t_value : Int32) (t_fault : Int32) (t_place : Int32) (r : Int32) (hf : fX3_valueOfToken t_tape t_at t_start = some r) : RdI l yX3_valueOfToken (Cond.code yX3_valueOfToken cX3_valueOfToken 3 (some .int)) { frames := 0, cells := 0, slots := 0, locals := 0 } G [.ref t_h] [oX3 t_h t_a t_taped t_length t_at t_kind t_start t_value t_fault t_place, arB G (t_a 0) 900 t_tape] r := by
  intro sz
  refine Met.ofW (cc := cX3_valueOfToken) (maxL := 3) (ret := (some .int)) (by decide) rfl ?_
  intro p e s m args below meth c s₁ B hml hv
  obtain ⟨hargs, hsz, hP, hK⟩ := hv
  subst hsz
  obtain ⟨hx, hb, hr, hw, hown, hlk⟩ := fwB B
  refine fw_enter hargs (Nat.le_of_ble_eq_true rfl) (fun ls hl => ?_)
  have hl : lv_has ls 3 [(0, .ref t_h)] := hl
  refine fw_Q (P := fun Q => ∃ A : Nat → Prop, va_S A s.heap s.heap [] ∧ (∀ q, s.heap.size ≤ q → A q) ∧ ∀ (v : Int32) (H : Heap) (locs : List Loc) (pc : Nat) (ls : Array Slot), some v = some r → va_S A s.heap H locs → decode cX3_valueOfToken pc = .ok (.ireturn, 1) → W p l e ({ frames := 0, cells := 0, slots := 0, locals := 0 } : Room) s m args below meth c H locs 0 0 Q (F0 m pc ls [.int v])) ⟨fun q => s.heap.size ≤ q, va_S.rf, fun q h => h, fun v H locs pc ls h hS hd => retRI hx hb hr hlk hS h hd⟩ ?_
  rintro Q ⟨A, hS, hA, hRet⟩
  change W p l e ({ frames := 0, cells := 0, slots := 0, locals := 0 } : Room) s m args below meth c _ _ 0 0 Q _
  have L7 : ∀  (K : Int32 → Option Int32) (n : Nat) (l1 : Int32) (l2 : Int32) (H : Heap) (locs : List Loc) (ls : Array Slot), va_P G.1 vwCl [oX3 t_h t_a t_taped t_length t_at t_kind t_start t_value t_fault t_place, arB G (t_a 0) 900 t_tape] H → va_S A s.heap H locs → lv_has ls 3 [(0, .ref t_h), (1, .int l1), (2, .int l2)] → fX3_valueOfToken_7 t_tape t_at K n l1 l2 = some r → (∀ (k1 : Int32) (H : Heap) (locs : List Loc) (ls : Array Slot), va_P G.1 vwCl [oX3 t_h t_a t_taped t_length t_at t_kind t_start t_value t_fault t_place, arB G (t_a 0) 900 t_tape] H → va_S A s.heap H locs → lv_has ls 3 [(1, .int k1)] → K k1 = some r → W p l e ({ frames := 0, cells := 0, slots := 0, locals := 0 } : Room) s m args below meth c H locs 0 0 Q (F0 m 36 ls [])) → W p l e ({ frames := 0, cells := 0, slots := 0, locals := 0 } : Room) s m args below meth c H locs 0 0 Q (F0 m 7 ls []) := by
    intro  K n
    induction n with
    | zero => intro l1 l2 H locs ls hP hS hl hf; rw [fX3_valueOfToken_7] at hf; cases hf
    | succ n ih =>
      intro l1 l2 H locs ls hP hS hl hf hX
      rw [fX3_valueOfToken_7] at hf
      refine lv_iload_n hx hb dX3_valueOfToken_7 rfl (lv_at hl 2 rfl) ?_
      refine lv_aload_n hx hb dX3_valueOfToken_8 rfl (lv_at hl 0 rfl) ?_
      refine va_get (D := G.1) (ci := 3) (v := .int t_at) (C := RX3) (T := TX3) (N := 9) hx hb hw inW3 hown hK.1 hP 0 rfl rfl 3 (by decide) (hw _ kw_7_12) (fun _ h9 => h9) rfl dX3_valueOfToken_9 ?_
      refine lv_icmp_ge (tgt := 36) hx hb dX3_valueOfToken_12 (by decide) (fun c_1 => ?_) (fun c_1 => ?_)
      · have hf := ip c_1 hf
        exact hX _ _ _ _ hP hS (lv_sub hl [1] rfl) hf
      · have hf := iq c_1 hf
        refine lv_bipush (v := 10) hx hb dX3_valueOfToken_15 (by decide) ?_
        refine lv_iload_n hx hb dX3_valueOfToken_17 rfl (lv_at hl 1 rfl) ?_
        refine lv_imul hx hb dX3_valueOfToken_18 ?_
        refine lv_aload_n hx hb dX3_valueOfToken_19 rfl (lv_at hl 0 rfl) ?_
        refine va_get (D := G.1) (ci := 3) (v := .ref (t_a 0)) (C := RX3) (T := TX3) (N := 9) hx hb hw inW3 hown hK.1 hP 0 rfl rfl 0 (by decide) (hw _ kw_3_1) (fun _ h9 => h9) rfl dX3_valueOfToken_20 ?_
        refine lv_iload_n hx hb dX3_valueOfToken_23 rfl (lv_at hl 2 rfl) ?_
        obtain ⟨hi_3, hf⟩ := rdI_in hf
        refine va_bald hx hb hK.1 hP 1 1 rfl rfl hi_3 dX3_valueOfToken_24 ?_
        refine lv_topi (fun x_2 ex_2 => ?_)
        have hf := hf x_2 ex_2
        refine lv_iadd hx hb dX3_valueOfToken_25 ?_
        refine lv_bipush (v := 48) hx hb dX3_valueOfToken_26 (by decide) ?_
        refine lv_isub hx hb dX3_valueOfToken_28 ?_
        refine lv_topi (fun y_4 ey_4 => ?_)
        have hf := bnd_all hf y_4 ey_4
        refine lv_istore_n (lv' := [(1, .int y_4), (0, .ref t_h), (2, .int l2)]) hx hb dX3_valueOfToken_29 rfl hl (by decide) rfl (fun ls hl => ?_)
        refine lv_iinc (v := (l2 + 1)) (lv' := [(2, .int (l2 + 1)), (1, .int y_4), (0, .ref t_h)]) hx hb dX3_valueOfToken_30 hl (k := 2) rfl (by rfl) (by decide) rfl (fun ls hl => ?_)
        refine lv_goto (tgt := 7) hx hb dX3_valueOfToken_33 (by decide) ?_
        exact ih _ _ _ _ _ hP hS (lv_sub hl [2, 1, 0] rfl) hf hX
  unfold fX3_valueOfToken at hf
  refine lv_iconst (v := 0) hx hb dX3_valueOfToken_0 (by decide) ?_
  refine lv_istore_n (lv' := [(1, .int 0), (0, .ref t_h)]) hx hb dX3_valueOfToken_1 rfl hl (by decide) rfl (fun ls hl => ?_)
  refine lv_aload_n hx hb dX3_valueOfToken_2 rfl (lv_at hl 1 rfl) ?_
  refine va_get (D := G.1) (ci := 3) (v := .int t_start) (C := RX3) (T := TX3) (N := 9) hx hb hw inW3 hown hK.1 hP 0 rfl rfl 5 (by decide) (hw _ kw_7_20) (fun _ h9 => h9) rfl dX3_valueOfToken_3 ?_
  refine lv_istore_n (lv' := [(2, .int t_start), (1, .int 0), (0, .ref t_h)]) hx hb dX3_valueOfToken_6 rfl hl (by decide) rfl (fun ls hl => ?_)
  refine L7  _ _ _ _ _ _ _ hP hS (lv_sub hl [2, 1, 0] rfl) hf (fun w_5 H locs ls hP hS hl hf => ?_)
  refine lv_iload_n hx hb dX3_valueOfToken_36 rfl (lv_at hl 0 rfl) ?_
  exact hRet _ _ _ _ _ hf hS dX3_valueOfToken_37
theorem calX3_nextToken : CalV yX3_nextToken cX3_nextToken 2 none 0 := ⟨⟨kw_7_19, kw_1_15, by decide +kernel⟩, kw_7_17, kw_7_18⟩
set_option maxHeartbeats 8000000 in
set_option maxRecDepth 100000 in
theorem ctX3_nextToken (l : Launch) (G : GT) (t_h : Nat) (t_a : Nat → Nat) (t_tape : Nat → Int32) (t_taped : Int32) (t_length : Int32) (t_at : Int32) (t_kind : Int32) (t_start : Int32) (t_value : Int32) (t_fault : Int32) (t_place : Int32) (o_t_at : Int32) (o_t_kind : Int32) (o_t_start : Int32) (o_t_value : Int32) (o_t_fault : Int32) (o_t_place : Int32) (hf : fX3_nextToken t_tape t_length t_at t_kind t_start t_value t_fault t_place = some (o_t_at, o_t_kind, o_t_start, o_t_value, o_t_fault, o_t_place)) : WrV l yX3_nextToken (Cond.code yX3_nextToken cX3_nextToken 2 none) { frames := 1, cells := 0, slots := 0, locals := 22 } G [.ref t_h] [oX3 t_h t_a t_taped t_length t_at t_kind t_start t_value t_fault t_place, arB G (t_a 0) 900 t_tape] [oX3 t_h t_a t_taped t_length o_t_at o_t_kind o_t_start o_t_value o_t_fault o_t_place, arB G (t_a 0) 900 t_tape] := by
  intro sz
  refine Met.ofW (cc := cX3_nextToken) (maxL := 2) (ret := none) (by decide) rfl ?_
  intro p e s m args below meth c s₁ B hml hv
  obtain ⟨hargs, hsz, hP, hD0, hK⟩ := hv
  subst hsz
  obtain ⟨hx, hb, hr, hw, hown, hlk⟩ := fwB B
  refine fw_enter hargs (Nat.le_of_ble_eq_true rfl) (fun ls hl => ?_)
  have hl : lv_has ls 2 [(0, .ref t_h)] := hl
  refine fw_Q (P := fun Q => ∃ A : Nat → Prop, va_D A [oX3 t_h t_a t_taped t_length t_at t_kind t_start t_value t_fault t_place, arB G (t_a 0) 900 t_tape] ∧ va_S A s.heap s.heap [] ∧ (∀ q, s.heap.size ≤ q → A q) ∧ ∀ (n_t_at : Int32) (n_t_kind : Int32) (n_t_start : Int32) (n_t_value : Int32) (n_t_fault : Int32) (n_t_place : Int32) (H : Heap) (locs : List Loc) (pc : Nat) (ls : Array Slot), some (n_t_at, n_t_kind, n_t_start, n_t_value, n_t_fault, n_t_place) = some (o_t_at, o_t_kind, o_t_start, o_t_value, o_t_fault, o_t_place) → va_P G.1 vwCl [oX3 t_h t_a t_taped t_length n_t_at n_t_kind n_t_start n_t_value n_t_fault n_t_place, arB G (t_a 0) 900 t_tape] H → va_S A s.heap H locs → decode cX3_nextToken pc = .ok (.return_, 1) → W p l e ({ frames := 1, cells := 0, slots := 0, locals := 22 } : Room) s m args below meth c H locs 0 0 Q (F0 m pc ls [])) ⟨va_A [oX3 t_h t_a t_taped t_length t_at t_kind t_start t_value t_fault t_place, arB G (t_a 0) 900 t_tape] s.heap.size, hD0.self (sz := s.heap.size), va_S.rf, fun q h => Or.inr h, ?_⟩ ?_
  · intro n_t_at n_t_kind n_t_start n_t_value n_t_fault n_t_place H locs pc ls h hP hS hd
    cases h
    exact retWV hx hb hr hlk hS hP hd
  rintro Q ⟨A, hD, hS, hA, hRet⟩
  change W p l e ({ frames := 1, cells := 0, slots := 0, locals := 22 } : Room) s m args below meth c _ _ 0 0 Q _
  have L13 : ∀ (t_kind : Int32) (t_start : Int32) (t_value : Int32) (t_fault : Int32) (t_place : Int32) (K : Int32 → Option (Int32 × Int32 × Int32 × Int32 × Int32 × Int32)) (n : Nat) (l1 : Int32) (t_at : Int32) (H : Heap) (locs : List Loc) (ls : Array Slot), va_P G.1 vwCl [oX3 t_h t_a t_taped t_length t_at t_kind t_start t_value t_fault t_place, arB G (t_a 0) 900 t_tape] H → va_D A [oX3 t_h t_a t_taped t_length t_at t_kind t_start t_value t_fault t_place, arB G (t_a 0) 900 t_tape] → va_S A s.heap H locs → lv_has ls 2 [(0, .ref t_h), (1, .int l1)] → fX3_nextToken_13 t_tape t_length K n l1 t_at = some (o_t_at, o_t_kind, o_t_start, o_t_value, o_t_fault, o_t_place) → (∀ (kt_at : Int32) (H : Heap) (locs : List Loc) (ls : Array Slot), va_P G.1 vwCl [oX3 t_h t_a t_taped t_length kt_at t_kind t_start t_value t_fault t_place, arB G (t_a 0) 900 t_tape] H → va_D A [oX3 t_h t_a t_taped t_length kt_at t_kind t_start t_value t_fault t_place, arB G (t_a 0) 900 t_tape] → va_S A s.heap H locs → lv_has ls 2 [(0, .ref t_h)] → K kt_at = some (o_t_at, o_t_kind, o_t_start, o_t_value, o_t_fault, o_t_place) → W p l e ({ frames := 1, cells := 0, slots := 0, locals := 22 } : Room) s m args below meth c H locs 0 0 Q (F0 m 47 ls [])) → W p l e ({ frames := 1, cells := 0, slots := 0, locals := 22 } : Room) s m args below meth c H locs 0 0 Q (F0 m 13 ls []) := by
    intro t_kind t_start t_value t_fault t_place K n
    induction n with
    | zero => intro l1 t_at H locs ls hP hD hS hl hf; rw [fX3_nextToken_13] at hf; cases hf
    | succ n ih =>
      intro l1 t_at H locs ls hP hD hS hl hf hX
      rw [fX3_nextToken_13] at hf
      refine lv_iload_n hx hb dX3_nextToken_13 rfl (lv_at hl 1 rfl) ?_
      refine lv_aload_n hx hb dX3_nextToken_14 rfl (lv_at hl 0 rfl) ?_
      refine va_get (D := G.1) (ci := 3) (v := .int t_length) (C := RX3) (T := TX3) (N := 9) hx hb hw inW3 hown hK.1 hP 0 rfl rfl 2 (by decide) (hw _ kw_7_11) (fun _ h9 => h9) rfl dX3_nextToken_15 ?_
      refine lv_icmp_ge (tgt := 47) hx hb dX3_nextToken_18 (by decide) (fun c_2 => ?_) (fun c_2 => ?_)
      · have hf := ip c_2 hf
        exact hX _ _ _ _ hP hD hS (lv_sub hl [0] rfl) hf
      · have hf := iq c_2 hf
        refine lv_aload_n hx hb dX3_nextToken_21 rfl (lv_at hl 0 rfl) ?_
        refine va_get (D := G.1) (ci := 3) (v := .ref (t_a 0)) (C := RX3) (T := TX3) (N := 9) hx hb hw inW3 hown hK.1 hP 0 rfl rfl 0 (by decide) (hw _ kw_3_1) (fun _ h9 => h9) rfl dX3_nextToken_22 ?_
        refine lv_iload_n hx hb dX3_nextToken_25 rfl (lv_at hl 1 rfl) ?_
        obtain ⟨hi_4, hf⟩ := rdI_in hf
        refine va_bald hx hb hK.1 hP 1 1 rfl rfl hi_4 dX3_nextToken_26 ?_
        refine lv_topi (fun x_3 ex_3 => ?_)
        have hf := hf x_3 ex_3
        obtain ⟨r_5, hc_6, hf⟩ := bd1_in hf
        refine rcI (va_runS (As := [.int x_3]) (rest := []) ⟨hx, hb, hml, hown, hw⟩ ((ctX3_kindOf l G x_3 _ hc_6) _) (kS hw calX3_kindOf kw_7_22 rfl rfl ⟨Nat.le_of_ble_eq_true rfl, Nat.le_of_ble_eq_true rfl⟩) (rpS (hP.sub (ws' := []) [] rfl) hK) rfl rfl hl.1 rfl (lv_room (Nat.le_of_ble_eq_true rfl)) dX3_nextToken_27 ⟨Nat.zero_le _, Nat.zero_le _⟩) hS hA hP (fun H locs hP hS => ?_)
        refine lv_iconst (v := 3) hx hb dX3_nextToken_30 (by decide) ?_
        refine lv_icmp_ne (tgt := 47) hx hb dX3_nextToken_31 (by decide) (fun c_7 => ?_) (fun c_7 => ?_)
        · have hf := iq c_7 hf
          exact hX _ _ _ _ hP hD hS (lv_sub hl [0] rfl) hf
        · have hf := ip c_7 hf
          refine lv_aload_n hx hb dX3_nextToken_34 rfl (lv_at hl 0 rfl) ?_
          refine lv_iload_n hx hb dX3_nextToken_35 rfl (lv_at hl 1 rfl) ?_
          refine lv_iconst (v := 1) hx hb dX3_nextToken_36 (by decide) ?_
          refine lv_iadd hx hb dX3_nextToken_37 ?_
          refine lv_topi (fun y_8 ey_8 => ?_)
          have hf := bnd_all hf y_8 ey_8
          refine va_put (D := G.1) (ci := 3) (v := .int y_8) (ty := .int) (C := RX3) (T := TX3) (N := 9) hx hb hw inW3 tyX3 tyX3_ok nmX3 hown hK.1 hP hD hS 0 rfl rfl 3 (by decide) (hw _ kw_7_12) (fun _ h9 => h9) rfl (by decide +kernel) rfl rfl (Nat.le_of_ble_eq_true rfl) dX3_nextToken_38 (fun H locs hP hD hS => ?_)
          have hP : va_P G.1 vwCl [oX3 t_h t_a t_taped t_length y_8 t_kind t_start t_value t_fault t_place, arB G (t_a 0) 900 t_tape] H := hP
          have hD : va_D A [oX3 t_h t_a t_taped t_length y_8 t_kind t_start t_value t_fault t_place, arB G (t_a 0) 900 t_tape] := hD
          refine lv_iinc (v := (l1 + 1)) (lv' := [(1, .int (l1 + 1)), (0, .ref t_h)]) hx hb dX3_nextToken_41 hl (k := 1) rfl (by rfl) (by decide) rfl (fun ls hl => ?_)
          refine lv_goto (tgt := 13) hx hb dX3_nextToken_44 (by decide) ?_
          exact ih _ _ _ _ _ hP hD hS (lv_sub hl [1, 0] rfl) hf hX
  have L112 : ∀ (t_kind : Int32) (t_start : Int32) (t_value : Int32) (t_fault : Int32) (t_place : Int32) (K : Int32 → Option (Int32 × Int32 × Int32 × Int32 × Int32 × Int32)) (n : Nat) (l1 : Int32) (t_at : Int32) (H : Heap) (locs : List Loc) (ls : Array Slot), va_P G.1 vwCl [oX3 t_h t_a t_taped t_length t_at t_kind t_start t_value t_fault t_place, arB G (t_a 0) 900 t_tape] H → va_D A [oX3 t_h t_a t_taped t_length t_at t_kind t_start t_value t_fault t_place, arB G (t_a 0) 900 t_tape] → va_S A s.heap H locs → lv_has ls 2 [(0, .ref t_h), (1, .int l1)] → fX3_nextToken_112 t_tape t_length t_kind K n l1 t_at = some (o_t_at, o_t_kind, o_t_start, o_t_value, o_t_fault, o_t_place) → (∀ (kt_at : Int32) (H : Heap) (locs : List Loc) (ls : Array Slot), va_P G.1 vwCl [oX3 t_h t_a t_taped t_length kt_at t_kind t_start t_value t_fault t_place, arB G (t_a 0) 900 t_tape] H → va_D A [oX3 t_h t_a t_taped t_length kt_at t_kind t_start t_value t_fault t_place, arB G (t_a 0) 900 t_tape] → va_S A s.heap H locs → lv_has ls 2 [(0, .ref t_h)] → K kt_at = some (o_t_at, o_t_kind, o_t_start, o_t_value, o_t_fault, o_t_place) → W p l e ({ frames := 1, cells := 0, slots := 0, locals := 22 } : Room) s m args below meth c H locs 0 0 Q (F0 m 149 ls [])) → W p l e ({ frames := 1, cells := 0, slots := 0, locals := 22 } : Room) s m args below meth c H locs 0 0 Q (F0 m 112 ls []) := by
    intro t_kind t_start t_value t_fault t_place K n
    induction n with
    | zero => intro l1 t_at H locs ls hP hD hS hl hf; rw [fX3_nextToken_112] at hf; cases hf
    | succ n ih =>
      intro l1 t_at H locs ls hP hD hS hl hf hX
      rw [fX3_nextToken_112] at hf
      refine lv_iload_n hx hb dX3_nextToken_112 rfl (lv_at hl 1 rfl) ?_
      refine lv_aload_n hx hb dX3_nextToken_113 rfl (lv_at hl 0 rfl) ?_
      refine va_get (D := G.1) (ci := 3) (v := .int t_length) (C := RX3) (T := TX3) (N := 9) hx hb hw inW3 hown hK.1 hP 0 rfl rfl 2 (by decide) (hw _ kw_7_11) (fun _ h9 => h9) rfl dX3_nextToken_114 ?_
      refine lv_icmp_ge (tgt := 149) hx hb dX3_nextToken_117 (by decide) (fun c_26 => ?_) (fun c_26 => ?_)
      · have hf := ip c_26 hf
        exact hX _ _ _ _ hP hD hS (lv_sub hl [0] rfl) hf
      · have hf := iq c_26 hf
        refine lv_aload_n hx hb dX3_nextToken_120 rfl (lv_at hl 0 rfl) ?_
        refine va_get (D := G.1) (ci := 3) (v := .ref (t_a 0)) (C := RX3) (T := TX3) (N := 9) hx hb hw inW3 hown hK.1 hP 0 rfl rfl 0 (by decide) (hw _ kw_3_1) (fun _ h9 => h9) rfl dX3_nextToken_121 ?_
        refine lv_iload_n hx hb dX3_nextToken_124 rfl (lv_at hl 1 rfl) ?_
        obtain ⟨hi_28, hf⟩ := rdI_in hf
        refine va_bald hx hb hK.1 hP 1 1 rfl rfl hi_28 dX3_nextToken_125 ?_
        refine lv_topi (fun x_27 ex_27 => ?_)
        have hf := hf x_27 ex_27
        obtain ⟨r_29, hc_30, hf⟩ := bd1_in hf
        refine rcI (va_runS (As := [.int x_27]) (rest := []) ⟨hx, hb, hml, hown, hw⟩ ((ctX3_kindOf l G x_27 _ hc_30) _) (kS hw calX3_kindOf kw_7_22 rfl rfl ⟨Nat.le_of_ble_eq_true rfl, Nat.le_of_ble_eq_true rfl⟩) (rpS (hP.sub (ws' := []) [] rfl) hK) rfl rfl hl.1 rfl (lv_room (Nat.le_of_ble_eq_true rfl)) dX3_nextToken_126 ⟨Nat.zero_le _, Nat.zero_le _⟩) hS hA hP (fun H locs hP hS => ?_)
        refine lv_aload_n hx hb dX3_nextToken_129 rfl (lv_at hl 0 rfl) ?_
        refine va_get (D := G.1) (ci := 3) (v := .int t_kind) (C := RX3) (T := TX3) (N := 9) hx hb hw inW3 hown hK.1 hP 0 rfl rfl 4 (by decide) (hw _ kw_7_14) (fun _ h9 => h9) rfl dX3_nextToken_130 ?_
        refine lv_icmp_ne (tgt := 149) hx hb dX3_nextToken_133 (by decide) (fun c_31 => ?_) (fun c_31 => ?_)
        · have hf := iq c_31 hf
          exact hX _ _ _ _ hP hD hS (lv_sub hl [0] rfl) hf
        · have hf := ip c_31 hf
          refine lv_aload_n hx hb dX3_nextToken_136 rfl (lv_at hl 0 rfl) ?_
          refine lv_iload_n hx hb dX3_nextToken_137 rfl (lv_at hl 1 rfl) ?_
          refine lv_iconst (v := 1) hx hb dX3_nextToken_138 (by decide) ?_
          refine lv_iadd hx hb dX3_nextToken_139 ?_
          refine lv_topi (fun y_32 ey_32 => ?_)
          have hf := bnd_all hf y_32 ey_32
          refine va_put (D := G.1) (ci := 3) (v := .int y_32) (ty := .int) (C := RX3) (T := TX3) (N := 9) hx hb hw inW3 tyX3 tyX3_ok nmX3 hown hK.1 hP hD hS 0 rfl rfl 3 (by decide) (hw _ kw_7_12) (fun _ h9 => h9) rfl (by decide +kernel) rfl rfl (Nat.le_of_ble_eq_true rfl) dX3_nextToken_140 (fun H locs hP hD hS => ?_)
          have hP : va_P G.1 vwCl [oX3 t_h t_a t_taped t_length y_32 t_kind t_start t_value t_fault t_place, arB G (t_a 0) 900 t_tape] H := hP
          have hD : va_D A [oX3 t_h t_a t_taped t_length y_32 t_kind t_start t_value t_fault t_place, arB G (t_a 0) 900 t_tape] := hD
          refine lv_iinc (v := (l1 + 1)) (lv' := [(1, .int (l1 + 1)), (0, .ref t_h)]) hx hb dX3_nextToken_143 hl (k := 1) rfl (by rfl) (by decide) rfl (fun ls hl => ?_)
          refine lv_goto (tgt := 112) hx hb dX3_nextToken_146 (by decide) ?_
          exact ih _ _ _ _ _ hP hD hS (lv_sub hl [1, 0] rfl) hf hX
  unfold fX3_nextToken at hf
  refine lv_aload_n hx hb dX3_nextToken_0 rfl (lv_at hl 0 rfl) ?_
  refine va_get (D := G.1) (ci := 3) (v := .int t_fault) (C := RX3) (T := TX3) (N := 9) hx hb hw inW3 hown hK.1 hP 0 rfl rfl 7 (by decide) (hw _ kw_7_13) (fun _ h9 => h9) rfl dX3_nextToken_1 ?_
  refine lv_if_eq (tgt := 8) hx hb dX3_nextToken_4 (by decide) (fun c_1 => ?_) (fun c_1 => ?_)
  · have hf := ip c_1 hf
    refine lv_aload_n hx hb dX3_nextToken_8 rfl (lv_at hl 0 rfl) ?_
    refine va_get (D := G.1) (ci := 3) (v := .int t_at) (C := RX3) (T := TX3) (N := 9) hx hb hw inW3 hown hK.1 hP 0 rfl rfl 3 (by decide) (hw _ kw_7_12) (fun _ h9 => h9) rfl dX3_nextToken_9 ?_
    refine lv_istore_n (lv' := [(1, .int t_at), (0, .ref t_h)]) hx hb dX3_nextToken_12 rfl hl (by decide) rfl (fun ls hl => ?_)
    refine L13 _ _ _ _ _ _ _ _ _ _ _ _ hP hD hS (lv_sub hl [1, 0] rfl) hf (fun t_at_9 H locs ls hP hD hS hl hf => ?_)
    refine lv_aload_n hx hb dX3_nextToken_47 rfl (lv_at hl 0 rfl) ?_
    refine lv_aload_n hx hb dX3_nextToken_48 rfl (lv_at hl 0 rfl) ?_
    refine va_get (D := G.1) (ci := 3) (v := .int t_at_9) (C := RX3) (T := TX3) (N := 9) hx hb hw inW3 hown hK.1 hP 0 rfl rfl 3 (by decide) (hw _ kw_7_12) (fun _ h9 => h9) rfl dX3_nextToken_49 ?_
    refine va_put (D := G.1) (ci := 3) (v := .int t_at_9) (ty := .int) (C := RX3) (T := TX3) (N := 9) hx hb hw inW3 tyX3 tyX3_ok nmX3 hown hK.1 hP hD hS 0 rfl rfl 5 (by decide) (hw _ kw_7_20) (fun _ h9 => h9) rfl (by decide +kernel) rfl rfl (Nat.le_of_ble_eq_true rfl) dX3_nextToken_52 (fun H locs hP hD hS => ?_)
    have hP : va_P G.1 vwCl [oX3 t_h t_a t_taped t_length t_at_9 t_kind t_at_9 t_value t_fault t_place, arB G (t_a 0) 900 t_tape] H := hP
    have hD : va_D A [oX3 t_h t_a t_taped t_length t_at_9 t_kind t_at_9 t_value t_fault t_place, arB G (t_a 0) 900 t_tape] := hD
    refine lv_aload_n hx hb dX3_nextToken_55 rfl (lv_at hl 0 rfl) ?_
    refine lv_aload_n hx hb dX3_nextToken_56 rfl (lv_at hl 0 rfl) ?_
    refine va_get (D := G.1) (ci := 3) (v := .int t_at_9) (C := RX3) (T := TX3) (N := 9) hx hb hw inW3 hown hK.1 hP 0 rfl rfl 3 (by decide) (hw _ kw_7_12) (fun _ h9 => h9) rfl dX3_nextToken_57 ?_
    refine lv_aload_n hx hb dX3_nextToken_60 rfl (lv_at hl 0 rfl) ?_
    refine va_get (D := G.1) (ci := 3) (v := .int t_length) (C := RX3) (T := TX3) (N := 9) hx hb hw inW3 hown hK.1 hP 0 rfl rfl 2 (by decide) (hw _ kw_7_11) (fun _ h9 => h9) rfl dX3_nextToken_61 ?_
    refine jn_el hf (fun k_11 ek_11 hf => ?_)
    have J83 : ∀ (z_10 : Int32) (H : Heap) (locs : List Loc) (ls : Array Slot), va_P G.1 vwCl [oX3 t_h t_a t_taped t_length t_at_9 t_kind t_at_9 t_value t_fault t_place, arB G (t_a 0) 900 t_tape] H → va_D A [oX3 t_h t_a t_taped t_length t_at_9 t_kind t_at_9 t_value t_fault t_place, arB G (t_a 0) 900 t_tape] → va_S A s.heap H locs → lv_has ls 2 [(0, .ref t_h)] → k_11 z_10 = some (o_t_at, o_t_kind, o_t_start, o_t_value, o_t_fault, o_t_place) → W p l e ({ frames := 1, cells := 0, slots := 0, locals := 22 } : Room) s m args below meth c H locs 0 0 Q (F0 m 83 ls [.int z_10, .ref t_h]) := by
      intro z_10 H locs ls hP hD hS hl hf
      rw [ek_11] at hf
      refine va_put (D := G.1) (ci := 3) (v := .int z_10) (ty := .int) (C := RX3) (T := TX3) (N := 9) hx hb hw inW3 tyX3 tyX3_ok nmX3 hown hK.1 hP hD hS 0 rfl rfl 4 (by decide) (hw _ kw_7_14) (fun _ h9 => h9) rfl (by decide +kernel) rfl rfl (Nat.le_of_ble_eq_true rfl) dX3_nextToken_83 (fun H locs hP hD hS => ?_)
      have hP : va_P G.1 vwCl [oX3 t_h t_a t_taped t_length t_at_9 z_10 t_at_9 t_value t_fault t_place, arB G (t_a 0) 900 t_tape] H := hP
      have hD : va_D A [oX3 t_h t_a t_taped t_length t_at_9 z_10 t_at_9 t_value t_fault t_place, arB G (t_a 0) 900 t_tape] := hD
      refine lv_aload_n hx hb dX3_nextToken_86 rfl (lv_at hl 0 rfl) ?_
      refine va_get (D := G.1) (ci := 3) (v := .int z_10) (C := RX3) (T := TX3) (N := 9) hx hb hw inW3 hown hK.1 hP 0 rfl rfl 4 (by decide) (hw _ kw_7_14) (fun _ h9 => h9) rfl dX3_nextToken_87 ?_
      refine lv_iconst (v := 2) hx hb dX3_nextToken_90 (by decide) ?_
      refine jn_el hf (fun k_13 ek_13 hf => ?_)
      have J149 : ∀ (t_at_12 : Int32) (H : Heap) (locs : List Loc) (ls : Array Slot), va_P G.1 vwCl [oX3 t_h t_a t_taped t_length t_at_12 z_10 t_at_9 t_value t_fault t_place, arB G (t_a 0) 900 t_tape] H → va_D A [oX3 t_h t_a t_taped t_length t_at_12 z_10 t_at_9 t_value t_fault t_place, arB G (t_a 0) 900 t_tape] → va_S A s.heap H locs → lv_has ls 2 [(0, .ref t_h)] → k_13 t_at_12 = some (o_t_at, o_t_kind, o_t_start, o_t_value, o_t_fault, o_t_place) → W p l e ({ frames := 1, cells := 0, slots := 0, locals := 22 } : Room) s m args below meth c H locs 0 0 Q (F0 m 149 ls []) := by
        intro t_at_12 H locs ls hP hD hS hl hf
        rw [ek_13] at hf
        refine lv_aload_n hx hb dX3_nextToken_149 rfl (lv_at hl 0 rfl) ?_
        refine va_get (D := G.1) (ci := 3) (v := .int z_10) (C := RX3) (T := TX3) (N := 9) hx hb hw inW3 hown hK.1 hP 0 rfl rfl 4 (by decide) (hw _ kw_7_14) (fun _ h9 => h9) rfl dX3_nextToken_150 ?_
        refine lv_iconst (v := 4) hx hb dX3_nextToken_153 (by decide) ?_
        refine jn_el hf (fun k_14 ek_14 hf => ?_)
        have J178 : ∀  (H : Heap) (locs : List Loc) (ls : Array Slot), va_P G.1 vwCl [oX3 t_h t_a t_taped t_length t_at_12 z_10 t_at_9 t_value t_fault t_place, arB G (t_a 0) 900 t_tape] H → va_D A [oX3 t_h t_a t_taped t_length t_at_12 z_10 t_at_9 t_value t_fault t_place, arB G (t_a 0) 900 t_tape] → va_S A s.heap H locs → lv_has ls 2 [(0, .ref t_h)] → k_14 = some (o_t_at, o_t_kind, o_t_start, o_t_value, o_t_fault, o_t_place) → W p l e ({ frames := 1, cells := 0, slots := 0, locals := 22 } : Room) s m args below meth c H locs 0 0 Q (F0 m 178 ls []) := by
          intro  H locs ls hP hD hS hl hf
          rw [ek_14] at hf
          refine lv_aload_n hx hb dX3_nextToken_178 rfl (lv_at hl 0 rfl) ?_
          refine lv_iconst (v := 1) hx hb dX3_nextToken_179 (by decide) ?_
          obtain ⟨t_fault_15, t_place_16, hc_17, hf⟩ := bd2_in hf
          refine wcV (w1 := [oX3 t_h t_a t_taped t_length t_at_12 z_10 t_at_9 t_value t_fault_15 t_place_16]) (va_runV (As := [.int 1]) (rest := []) ⟨hx, hb, hml, hown, hw⟩ ((ctX3_refuse l G t_h t_a t_taped t_length t_at_12 z_10 t_at_9 t_value t_fault t_place 1 _ _ hc_17) _) (kV hw calX3_refuse kw_8_1 rfl rfl ⟨Nat.le_of_ble_eq_true rfl, Nat.le_of_ble_eq_true rfl⟩) (wpV (hP.sub (ws' := [oX3 t_h t_a t_taped t_length t_at_12 z_10 t_at_9 t_value t_fault t_place]) [0] rfl) (hD.sub (ws' := [oX3 t_h t_a t_taped t_length t_at_12 z_10 t_at_9 t_value t_fault t_place]) [0] (by decide) rfl) hK (ci := 3) (q0 := 0) rfl rfl) rfl rfl hl.1 rfl (lv_room (Nat.le_of_ble_eq_true rfl)) dX3_nextToken_180 ⟨Nat.zero_le _, Nat.zero_le _⟩) hS hA hP hD [0] rfl rfl (fun H locs hP hD hS => ?_)
          have hP : va_P G.1 vwCl [oX3 t_h t_a t_taped t_length t_at_12 z_10 t_at_9 t_value t_fault_15 t_place_16, arB G (t_a 0) 900 t_tape] H := hP
          have hD : va_D A [oX3 t_h t_a t_taped t_length t_at_12 z_10 t_at_9 t_value t_fault_15 t_place_16, arB G (t_a 0) 900 t_tape] := hD
          refine lv_goto (tgt := 202) hx hb dX3_nextToken_183 (by decide) ?_
          exact hRet _ _ _ _ _ _ _ _ _ _ hf hP hS dX3_nextToken_202
        refine lv_icmp_eq (tgt := 178) hx hb dX3_nextToken_154 (by decide) (fun c_18 => ?_) (fun c_18 => ?_)
        · have hf := ip c_18 hf
          exact J178  _ _ _ hP hD hS (lv_sub hl [0] rfl) hf
        · have hf := iq c_18 hf
          refine lv_aload_n hx hb dX3_nextToken_157 rfl (lv_at hl 0 rfl) ?_
          refine va_get (D := G.1) (ci := 3) (v := .int z_10) (C := RX3) (T := TX3) (N := 9) hx hb hw inW3 hown hK.1 hP 0 rfl rfl 4 (by decide) (hw _ kw_7_14) (fun _ h9 => h9) rfl dX3_nextToken_158 ?_
          refine lv_iconst (v := 1) hx hb dX3_nextToken_161 (by decide) ?_
          refine jn_el hf (fun k_19 ek_19 hf => ?_)
          have J186 : ∀  (H : Heap) (locs : List Loc) (ls : Array Slot), va_P G.1 vwCl [oX3 t_h t_a t_taped t_length t_at_12 z_10 t_at_9 t_value t_fault t_place, arB G (t_a 0) 900 t_tape] H → va_D A [oX3 t_h t_a t_taped t_length t_at_12 z_10 t_at_9 t_value t_fault t_place, arB G (t_a 0) 900 t_tape] → va_S A s.heap H locs → lv_has ls 2 [(0, .ref t_h)] → k_19 = some (o_t_at, o_t_kind, o_t_start, o_t_value, o_t_fault, o_t_place) → W p l e ({ frames := 1, cells := 0, slots := 0, locals := 22 } : Room) s m args below meth c H locs 0 0 Q (F0 m 186 ls []) := by
            intro  H locs ls hP hD hS hl hf
            rw [ek_19] at hf
            refine lv_aload_n hx hb dX3_nextToken_186 rfl (lv_at hl 0 rfl) ?_
            refine va_get (D := G.1) (ci := 3) (v := .int z_10) (C := RX3) (T := TX3) (N := 9) hx hb hw inW3 hown hK.1 hP 0 rfl rfl 4 (by decide) (hw _ kw_7_14) (fun _ h9 => h9) rfl dX3_nextToken_187 ?_
            refine lv_iconst (v := 1) hx hb dX3_nextToken_190 (by decide) ?_
            refine lv_icmp_ne (tgt := 202) hx hb dX3_nextToken_191 (by decide) (fun c_20 => ?_) (fun c_20 => ?_)
            · have hf := iq c_20 hf
              exact hRet _ _ _ _ _ _ _ _ _ _ hf hP hS dX3_nextToken_202
            · have hf := ip c_20 hf
              refine lv_aload_n hx hb dX3_nextToken_194 rfl (lv_at hl 0 rfl) ?_
              refine lv_aload_n hx hb dX3_nextToken_195 rfl (lv_at hl 0 rfl) ?_
              obtain ⟨r_21, hc_22, hf⟩ := bd1_in hf
              refine rcI (va_runV (As := []) (rest := [.ref t_h]) ⟨hx, hb, hml, hown, hw⟩ ((ctX3_valueOfToken l G t_h t_a t_tape t_taped t_length t_at_12 z_10 t_at_9 t_value t_fault t_place _ hc_22) _) (kV hw calX3_valueOfToken kw_8_5 rfl rfl ⟨Nat.le_of_ble_eq_true rfl, Nat.le_of_ble_eq_true rfl⟩) (rpV (hP.sub (ws' := [oX3 t_h t_a t_taped t_length t_at_12 z_10 t_at_9 t_value t_fault t_place, arB G (t_a 0) 900 t_tape]) [0, 1] rfl) hK (ci := 3) (q0 := 0) rfl rfl) rfl rfl hl.1 rfl (lv_room (Nat.le_of_ble_eq_true rfl)) dX3_nextToken_196 ⟨Nat.zero_le _, Nat.zero_le _⟩) hS hA hP (fun H locs hP hS => ?_)
              refine va_put (D := G.1) (ci := 3) (v := .int r_21) (ty := .int) (C := RX3) (T := TX3) (N := 9) hx hb hw inW3 tyX3 tyX3_ok nmX3 hown hK.1 hP hD hS 0 rfl rfl 6 (by decide) (hw _ kw_7_21) (fun _ h9 => h9) rfl (by decide +kernel) rfl rfl (Nat.le_of_ble_eq_true rfl) dX3_nextToken_199 (fun H locs hP hD hS => ?_)
              have hP : va_P G.1 vwCl [oX3 t_h t_a t_taped t_length t_at_12 z_10 t_at_9 r_21 t_fault t_place, arB G (t_a 0) 900 t_tape] H := hP
              have hD : va_D A [oX3 t_h t_a t_taped t_length t_at_12 z_10 t_at_9 r_21 t_fault t_place, arB G (t_a 0) 900 t_tape] := hD
              exact hRet _ _ _ _ _ _ _ _ _ _ hf hP hS dX3_nextToken_202
          refine lv_icmp_ne (tgt := 186) hx hb dX3_nextToken_162 (by decide) (fun c_23 => ?_) (fun c_23 => ?_)
          · have hf := iq c_23 hf
            exact J186  _ _ _ hP hD hS (lv_sub hl [0] rfl) hf
          · have hf := ip c_23 hf
            refine lv_aload_n hx hb dX3_nextToken_165 rfl (lv_at hl 0 rfl) ?_
            refine va_get (D := G.1) (ci := 3) (v := .int t_at_12) (C := RX3) (T := TX3) (N := 9) hx hb hw inW3 hown hK.1 hP 0 rfl rfl 3 (by decide) (hw _ kw_7_12) (fun _ h9 => h9) rfl dX3_nextToken_166 ?_
            refine lv_aload_n hx hb dX3_nextToken_169 rfl (lv_at hl 0 rfl) ?_
            refine va_get (D := G.1) (ci := 3) (v := .int t_at_9) (C := RX3) (T := TX3) (N := 9) hx hb hw inW3 hown hK.1 hP 0 rfl rfl 5 (by decide) (hw _ kw_7_20) (fun _ h9 => h9) rfl dX3_nextToken_170 ?_
            refine lv_isub hx hb dX3_nextToken_173 ?_
            refine lv_iconst (v := 4) hx hb dX3_nextToken_174 (by decide) ?_
            refine lv_icmp_le (tgt := 186) hx hb dX3_nextToken_175 (by decide) (fun c_24 => ?_) (fun c_24 => ?_)
            · have hf := ip c_24 hf
              exact J186  _ _ _ hP hD hS (lv_sub hl [0] rfl) hf
            · have hf := iq c_24 hf
              exact J178  _ _ _ hP hD hS (lv_sub hl [0] rfl) hf
      refine lv_icmp_ne (tgt := 107) hx hb dX3_nextToken_91 (by decide) (fun c_25 => ?_) (fun c_25 => ?_)
      · have hf := iq c_25 hf
        refine lv_aload_n hx hb dX3_nextToken_107 rfl (lv_at hl 0 rfl) ?_
        refine va_get (D := G.1) (ci := 3) (v := .int t_at_9) (C := RX3) (T := TX3) (N := 9) hx hb hw inW3 hown hK.1 hP 0 rfl rfl 3 (by decide) (hw _ kw_7_12) (fun _ h9 => h9) rfl dX3_nextToken_108 ?_
        refine lv_istore_n (lv' := [(1, .int t_at_9), (0, .ref t_h)]) hx hb dX3_nextToken_111 rfl hl (by decide) rfl (fun ls hl => ?_)
        refine L112 _ _ _ _ _ _ _ _ _ _ _ _ hP hD hS (lv_sub hl [1, 0] rfl) hf (fun t_at_33 H locs ls hP hD hS hl hf => ?_)
        exact J149 _ _ _ _ hP hD hS (lv_sub hl [0] rfl) hf
      · have hf := ip c_25 hf
        refine lv_aload_n hx hb dX3_nextToken_94 rfl (lv_at hl 0 rfl) ?_
        refine lv_dup hx hb dX3_nextToken_95 rfl ?_
        refine va_get (D := G.1) (ci := 3) (v := .int t_at_9) (C := RX3) (T := TX3) (N := 9) hx hb hw inW3 hown hK.1 hP 0 rfl rfl 3 (by decide) (hw _ kw_7_12) (fun _ h9 => h9) rfl dX3_nextToken_96 ?_
        refine lv_iconst (v := 1) hx hb dX3_nextToken_99 (by decide) ?_
        refine lv_iadd hx hb dX3_nextToken_100 ?_
        refine lv_topi (fun y_34 ey_34 => ?_)
        have hf := bnd_all hf y_34 ey_34
        refine va_put (D := G.1) (ci := 3) (v := .int y_34) (ty := .int) (C := RX3) (T := TX3) (N := 9) hx hb hw inW3 tyX3 tyX3_ok nmX3 hown hK.1 hP hD hS 0 rfl rfl 3 (by decide) (hw _ kw_7_12) (fun _ h9 => h9) rfl (by decide +kernel) rfl rfl (Nat.le_of_ble_eq_true rfl) dX3_nextToken_101 (fun H locs hP hD hS => ?_)
        have hP : va_P G.1 vwCl [oX3 t_h t_a t_taped t_length y_34 z_10 t_at_9 t_value t_fault t_place, arB G (t_a 0) 900 t_tape] H := hP
        have hD : va_D A [oX3 t_h t_a t_taped t_length y_34 z_10 t_at_9 t_value t_fault t_place, arB G (t_a 0) 900 t_tape] := hD
        refine lv_goto (tgt := 149) hx hb dX3_nextToken_104 (by decide) ?_
        exact J149 _ _ _ _ hP hD hS (lv_sub hl [0] rfl) hf
    refine lv_icmp_ge (tgt := 82) hx hb dX3_nextToken_64 (by decide) (fun c_35 => ?_) (fun c_35 => ?_)
    · have hf := ip c_35 hf
      refine lv_iconst (v := 5) hx hb dX3_nextToken_82 (by decide) ?_
      exact J83 _ _ _ _ hP hD hS (lv_sub hl [0] rfl) hf
    · have hf := iq c_35 hf
      refine lv_aload_n hx hb dX3_nextToken_67 rfl (lv_at hl 0 rfl) ?_
      refine va_get (D := G.1) (ci := 3) (v := .ref (t_a 0)) (C := RX3) (T := TX3) (N := 9) hx hb hw inW3 hown hK.1 hP 0 rfl rfl 0 (by decide) (hw _ kw_3_1) (fun _ h9 => h9) rfl dX3_nextToken_68 ?_
      refine lv_aload_n hx hb dX3_nextToken_71 rfl (lv_at hl 0 rfl) ?_
      refine va_get (D := G.1) (ci := 3) (v := .int t_at_9) (C := RX3) (T := TX3) (N := 9) hx hb hw inW3 hown hK.1 hP 0 rfl rfl 3 (by decide) (hw _ kw_7_12) (fun _ h9 => h9) rfl dX3_nextToken_72 ?_
      obtain ⟨hi_37, hf⟩ := rdI_in hf
      refine va_bald hx hb hK.1 hP 1 1 rfl rfl hi_37 dX3_nextToken_75 ?_
      refine lv_topi (fun x_36 ex_36 => ?_)
      have hf := hf x_36 ex_36
      obtain ⟨r_38, hc_39, hf⟩ := bd1_in hf
      refine rcI (va_runS (As := [.int x_36]) (rest := [.ref t_h]) ⟨hx, hb, hml, hown, hw⟩ ((ctX3_kindOf l G x_36 _ hc_39) _) (kS hw calX3_kindOf kw_7_22 rfl rfl ⟨Nat.le_of_ble_eq_true rfl, Nat.le_of_ble_eq_true rfl⟩) (rpS (hP.sub (ws' := []) [] rfl) hK) rfl rfl hl.1 rfl (lv_room (Nat.le_of_ble_eq_true rfl)) dX3_nextToken_76 ⟨Nat.zero_le _, Nat.zero_le _⟩) hS hA hP (fun H locs hP hS => ?_)
      refine lv_goto (tgt := 83) hx hb dX3_nextToken_79 (by decide) ?_
      exact J83 _ _ _ _ hP hD hS (lv_sub hl [0] rfl) hf
  · have hf := iq c_1 hf
    exact hRet _ _ _ _ _ _ _ _ _ _ hf hP hS dX3_nextToken_7
theorem calX3_readNumber : CalV yX3_readNumber cX3_readNumber 3 (some .int) 2 := ⟨⟨kw_11_1, kw_1_15, by decide +kernel⟩, kw_10_23, kw_11_0⟩
set_option maxHeartbeats 8000000 in
set_option maxRecDepth 100000 in
theorem ctX3_readNumber (l : Launch) (G : GT) (t_h : Nat) (t_a : Nat → Nat) (t_tape : Nat → Int32) (t_taped : Int32) (t_length : Int32) (t_at : Int32) (t_kind : Int32) (t_start : Int32) (t_value : Int32) (t_fault : Int32) (t_place : Int32) (v1 : Int32) (v2 : Int32) (r : Int32) (o_t_at : Int32) (o_t_kind : Int32) (o_t_start : Int32) (o_t_value : Int32) (o_t_fault : Int32) (o_t_place : Int32) (hf : fX3_readNumber t_tape t_length t_at t_kind t_start t_value t_fault t_place v1 v2 = some (r, o_t_at, o_t_kind, o_t_start, o_t_value, o_t_fault, o_t_place)) : WrI l yX3_readNumber (Cond.code yX3_readNumber cX3_readNumber 3 (some .int)) { frames := 2, cells := 0, slots := 0, locals := 43 } G [.ref t_h, .int v1, .int v2] [oX3 t_h t_a t_taped t_length t_at t_kind t_start t_value t_fault t_place, arB G (t_a 0) 900 t_tape] [oX3 t_h t_a t_taped t_length o_t_at o_t_kind o_t_start o_t_value o_t_fault o_t_place, arB G (t_a 0) 900 t_tape] r := by
  intro sz
  refine Met.ofW (cc := cX3_readNumber) (maxL := 3) (ret := (some .int)) (by decide) rfl ?_
  intro p e s m args below meth c s₁ B hml hv
  obtain ⟨hargs, hsz, hP, hD0, hK⟩ := hv
  subst hsz
  obtain ⟨hx, hb, hr, hw, hown, hlk⟩ := fwB B
  refine fw_enter hargs (Nat.le_of_ble_eq_true rfl) (fun ls hl => ?_)
  have hl : lv_has ls 3 [(0, .ref t_h), (1, .int v1), (2, .int v2)] := hl
  refine fw_Q (P := fun Q => ∃ A : Nat → Prop, va_D A [oX3 t_h t_a t_taped t_length t_at t_kind t_start t_value t_fault t_place, arB G (t_a 0) 900 t_tape] ∧ va_S A s.heap s.heap [] ∧ (∀ q, s.heap.size ≤ q → A q) ∧ ∀ (v : Int32) (n_t_at : Int32) (n_t_kind : Int32) (n_t_start : Int32) (n_t_value : Int32) (n_t_fault : Int32) (n_t_place : Int32) (H : Heap) (locs : List Loc) (pc : Nat) (ls : Array Slot), some (v, n_t_at, n_t_kind, n_t_start, n_t_value, n_t_fault, n_t_place) = some (r, o_t_at, o_t_kind, o_t_start, o_t_value, o_t_fault, o_t_place) → va_P G.1 vwCl [oX3 t_h t_a t_taped t_length n_t_at n_t_kind n_t_start n_t_value n_t_fault n_t_place, arB G (t_a 0) 900 t_tape] H → va_S A s.heap H locs → decode cX3_readNumber pc = .ok (.ireturn, 1) → W p l e ({ frames := 2, cells := 0, slots := 0, locals := 43 } : Room) s m args below meth c H locs 0 0 Q (F0 m pc ls [.int v])) ⟨va_A [oX3 t_h t_a t_taped t_length t_at t_kind t_start t_value t_fault t_place, arB G (t_a 0) 900 t_tape] s.heap.size, hD0.self (sz := s.heap.size), va_S.rf, fun q h => Or.inr h, ?_⟩ ?_
  · intro v n_t_at n_t_kind n_t_start n_t_value n_t_fault n_t_place H locs pc ls h hP hS hd
    cases h
    exact retWI hx hb hr hlk hS hP rfl hd
  rintro Q ⟨A, hD, hS, hA, hRet⟩
  change W p l e ({ frames := 2, cells := 0, slots := 0, locals := 43 } : Room) s m args below meth c _ _ 0 0 Q _
  unfold fX3_readNumber at hf
  refine lv_aload_n hx hb dX3_readNumber_0 rfl (lv_at hl 0 rfl) ?_
  obtain ⟨t_at_1, t_kind_2, t_start_3, t_value_4, t_fault_5, t_place_6, hc_7, hf⟩ := bd6_in hf
  refine wcV (w1 := [oX3 t_h t_a t_taped t_length t_at_1 t_kind_2 t_start_3 t_value_4 t_fault_5 t_place_6, arB G (t_a 0) 900 t_tape]) (va_runV (As := []) (rest := []) ⟨hx, hb, hml, hown, hw⟩ ((ctX3_nextToken l G t_h t_a t_tape t_taped t_length t_at t_kind t_start t_value t_fault t_place _ _ _ _ _ _ hc_7) _) (kV hw calX3_nextToken kw_7_16 rfl rfl ⟨Nat.le_of_ble_eq_true rfl, Nat.le_of_ble_eq_true rfl⟩) (wpV (hP.sub (ws' := [oX3 t_h t_a t_taped t_length t_at t_kind t_start t_value t_fault t_place, arB G (t_a 0) 900 t_tape]) [0, 1] rfl) (hD.sub (ws' := [oX3 t_h t_a t_taped t_length t_at t_kind t_start t_value t_fault t_place, arB G (t_a 0) 900 t_tape]) [0, 1] (by decide) rfl) hK (ci := 3) (q0 := 0) rfl rfl) rfl rfl hl.1 rfl (lv_room (Nat.le_of_ble_eq_true rfl)) dX3_readNumber_1 ⟨Nat.zero_le _, Nat.zero_le _⟩) hS hA hP hD [0, 1] rfl rfl (fun H locs hP hD hS => ?_)
  have hP : va_P G.1 vwCl [oX3 t_h t_a t_taped t_length t_at_1 t_kind_2 t_start_3 t_value_4 t_fault_5 t_place_6, arB G (t_a 0) 900 t_tape] H := hP
  have hD : va_D A [oX3 t_h t_a t_taped t_length t_at_1 t_kind_2 t_start_3 t_value_4 t_fault_5 t_place_6, arB G (t_a 0) 900 t_tape] := hD
  refine lv_aload_n hx hb dX3_readNumber_4 rfl (lv_at hl 0 rfl) ?_
  refine va_get (D := G.1) (ci := 3) (v := .int t_kind_2) (C := RX3) (T := TX3) (N := 9) hx hb hw inW3 hown hK.1 hP 0 rfl rfl 4 (by decide) (hw _ kw_7_14) (fun _ h9 => h9) rfl dX3_readNumber_5 ?_
  refine lv_iconst (v := 1) hx hb dX3_readNumber_8 (by decide) ?_
  refine jn_el hf (fun k_10 ek_10 hf => ?_)
  have J41 : ∀ (t_fault_8 : Int32) (t_place_9 : Int32) (H : Heap) (locs : List Loc) (ls : Array Slot), va_P G.1 vwCl [oX3 t_h t_a t_taped t_length t_at_1 t_kind_2 t_start_3 t_value_4 t_fault_8 t_place_9, arB G (t_a 0) 900 t_tape] H → va_D A [oX3 t_h t_a t_taped t_length t_at_1 t_kind_2 t_start_3 t_value_4 t_fault_8 t_place_9, arB G (t_a 0) 900 t_tape] → va_S A s.heap H locs → lv_has ls 3 [(0, .ref t_h)] → k_10 t_fault_8 t_place_9 = some (r, o_t_at, o_t_kind, o_t_start, o_t_value, o_t_fault, o_t_place) → W p l e ({ frames := 2, cells := 0, slots := 0, locals := 43 } : Room) s m args below meth c H locs 0 0 Q (F0 m 41 ls []) := by
    intro t_fault_8 t_place_9 H locs ls hP hD hS hl hf
    rw [ek_10] at hf
    refine lv_aload_n hx hb dX3_readNumber_41 rfl (lv_at hl 0 rfl) ?_
    refine va_get (D := G.1) (ci := 3) (v := .int t_fault_8) (C := RX3) (T := TX3) (N := 9) hx hb hw inW3 hown hK.1 hP 0 rfl rfl 7 (by decide) (hw _ kw_7_13) (fun _ h9 => h9) rfl dX3_readNumber_42 ?_
    refine lv_if_ne (tgt := 55) hx hb dX3_readNumber_45 (by decide) (fun c_11 => ?_) (fun c_11 => ?_)
    · have hf := iq c_11 hf
      refine lv_iconst (v := 0) hx hb dX3_readNumber_55 (by decide) ?_
      exact hRet _ _ _ _ _ _ _ _ _ _ _ hf hP hS dX3_readNumber_56
    · have hf := ip c_11 hf
      refine lv_aload_n hx hb dX3_readNumber_48 rfl (lv_at hl 0 rfl) ?_
      refine va_get (D := G.1) (ci := 3) (v := .int t_value_4) (C := RX3) (T := TX3) (N := 9) hx hb hw inW3 hown hK.1 hP 0 rfl rfl 6 (by decide) (hw _ kw_7_21) (fun _ h9 => h9) rfl dX3_readNumber_49 ?_
      refine lv_goto (tgt := 56) hx hb dX3_readNumber_52 (by decide) ?_
      exact hRet _ _ _ _ _ _ _ _ _ _ _ hf hP hS dX3_readNumber_56
  refine lv_icmp_eq (tgt := 20) hx hb dX3_readNumber_9 (by decide) (fun c_12 => ?_) (fun c_12 => ?_)
  · have hf := ip c_12 hf
    refine lv_aload_n hx hb dX3_readNumber_20 rfl (lv_at hl 0 rfl) ?_
    refine va_get (D := G.1) (ci := 3) (v := .int t_value_4) (C := RX3) (T := TX3) (N := 9) hx hb hw inW3 hown hK.1 hP 0 rfl rfl 6 (by decide) (hw _ kw_7_21) (fun _ h9 => h9) rfl dX3_readNumber_21 ?_
    refine lv_iload_n hx hb dX3_readNumber_24 rfl (lv_at hl 1 rfl) ?_
    refine jn_el hf (fun k_13 ek_13 hf => ?_)
    have J36 : ∀  (H : Heap) (locs : List Loc) (ls : Array Slot), va_P G.1 vwCl [oX3 t_h t_a t_taped t_length t_at_1 t_kind_2 t_start_3 t_value_4 t_fault_5 t_place_6, arB G (t_a 0) 900 t_tape] H → va_D A [oX3 t_h t_a t_taped t_length t_at_1 t_kind_2 t_start_3 t_value_4 t_fault_5 t_place_6, arB G (t_a 0) 900 t_tape] → va_S A s.heap H locs → lv_has ls 3 [(0, .ref t_h)] → k_13 = some (r, o_t_at, o_t_kind, o_t_start, o_t_value, o_t_fault, o_t_place) → W p l e ({ frames := 2, cells := 0, slots := 0, locals := 43 } : Room) s m args below meth c H locs 0 0 Q (F0 m 36 ls []) := by
      intro  H locs ls hP hD hS hl hf
      rw [ek_13] at hf
      refine lv_aload_n hx hb dX3_readNumber_36 rfl (lv_at hl 0 rfl) ?_
      refine lv_iconst (v := 3) hx hb dX3_readNumber_37 (by decide) ?_
      obtain ⟨t_fault_14, t_place_15, hc_16, hf⟩ := bd2_in hf
      refine wcV (w1 := [oX3 t_h t_a t_taped t_length t_at_1 t_kind_2 t_start_3 t_value_4 t_fault_14 t_place_15]) (va_runV (As := [.int 3]) (rest := []) ⟨hx, hb, hml, hown, hw⟩ ((ctX3_refuse l G t_h t_a t_taped t_length t_at_1 t_kind_2 t_start_3 t_value_4 t_fault_5 t_place_6 3 _ _ hc_16) _) (kV hw calX3_refuse kw_8_1 rfl rfl ⟨Nat.le_of_ble_eq_true rfl, Nat.le_of_ble_eq_true rfl⟩) (wpV (hP.sub (ws' := [oX3 t_h t_a t_taped t_length t_at_1 t_kind_2 t_start_3 t_value_4 t_fault_5 t_place_6]) [0] rfl) (hD.sub (ws' := [oX3 t_h t_a t_taped t_length t_at_1 t_kind_2 t_start_3 t_value_4 t_fault_5 t_place_6]) [0] (by decide) rfl) hK (ci := 3) (q0 := 0) rfl rfl) rfl rfl hl.1 rfl (lv_room (Nat.le_of_ble_eq_true rfl)) dX3_readNumber_38 ⟨Nat.zero_le _, Nat.zero_le _⟩) hS hA hP hD [0] rfl rfl (fun H locs hP hD hS => ?_)
      have hP : va_P G.1 vwCl [oX3 t_h t_a t_taped t_length t_at_1 t_kind_2 t_start_3 t_value_4 t_fault_14 t_place_15, arB G (t_a 0) 900 t_tape] H := hP
      have hD : va_D A [oX3 t_h t_a t_taped t_length t_at_1 t_kind_2 t_start_3 t_value_4 t_fault_14 t_place_15, arB G (t_a 0) 900 t_tape] := hD
      exact J41 _ _ _ _ _ hP hD hS (lv_sub hl [0] rfl) hf
    refine lv_icmp_lt (tgt := 36) hx hb dX3_readNumber_25 (by decide) (fun c_17 => ?_) (fun c_17 => ?_)
    · have hf := ip c_17 hf
      exact J36  _ _ _ hP hD hS (lv_sub hl [0] rfl) hf
    · have hf := iq c_17 hf
      refine lv_aload_n hx hb dX3_readNumber_28 rfl (lv_at hl 0 rfl) ?_
      refine va_get (D := G.1) (ci := 3) (v := .int t_value_4) (C := RX3) (T := TX3) (N := 9) hx hb hw inW3 hown hK.1 hP 0 rfl rfl 6 (by decide) (hw _ kw_7_21) (fun _ h9 => h9) rfl dX3_readNumber_29 ?_
      refine lv_iload_n hx hb dX3_readNumber_32 rfl (lv_at hl 2 rfl) ?_
      refine lv_icmp_le (tgt := 41) hx hb dX3_readNumber_33 (by decide) (fun c_18 => ?_) (fun c_18 => ?_)
      · have hf := ip c_18 hf
        exact J41 _ _ _ _ _ hP hD hS (lv_sub hl [0] rfl) hf
      · have hf := iq c_18 hf
        exact J36  _ _ _ hP hD hS (lv_sub hl [0] rfl) hf
  · have hf := iq c_12 hf
    refine lv_aload_n hx hb dX3_readNumber_12 rfl (lv_at hl 0 rfl) ?_
    refine lv_iconst (v := 2) hx hb dX3_readNumber_13 (by decide) ?_
    obtain ⟨t_fault_19, t_place_20, hc_21, hf⟩ := bd2_in hf
    refine wcV (w1 := [oX3 t_h t_a t_taped t_length t_at_1 t_kind_2 t_start_3 t_value_4 t_fault_19 t_place_20]) (va_runV (As := [.int 2]) (rest := []) ⟨hx, hb, hml, hown, hw⟩ ((ctX3_refuse l G t_h t_a t_taped t_length t_at_1 t_kind_2 t_start_3 t_value_4 t_fault_5 t_place_6 2 _ _ hc_21) _) (kV hw calX3_refuse kw_8_1 rfl rfl ⟨Nat.le_of_ble_eq_true rfl, Nat.le_of_ble_eq_true rfl⟩) (wpV (hP.sub (ws' := [oX3 t_h t_a t_taped t_length t_at_1 t_kind_2 t_start_3 t_value_4 t_fault_5 t_place_6]) [0] rfl) (hD.sub (ws' := [oX3 t_h t_a t_taped t_length t_at_1 t_kind_2 t_start_3 t_value_4 t_fault_5 t_place_6]) [0] (by decide) rfl) hK (ci := 3) (q0 := 0) rfl rfl) rfl rfl hl.1 rfl (lv_room (Nat.le_of_ble_eq_true rfl)) dX3_readNumber_14 ⟨Nat.zero_le _, Nat.zero_le _⟩) hS hA hP hD [0] rfl rfl (fun H locs hP hD hS => ?_)
    have hP : va_P G.1 vwCl [oX3 t_h t_a t_taped t_length t_at_1 t_kind_2 t_start_3 t_value_4 t_fault_19 t_place_20, arB G (t_a 0) 900 t_tape] H := hP
    have hD : va_D A [oX3 t_h t_a t_taped t_length t_at_1 t_kind_2 t_start_3 t_value_4 t_fault_19 t_place_20, arB G (t_a 0) 900 t_tape] := hD
    refine lv_goto (tgt := 41) hx hb dX3_readNumber_17 (by decide) ?_
    exact J41 _ _ _ _ _ hP hD hS (lv_sub hl [0] rfl) hf
theorem calX3_wantSemicolon : CalV yX3_wantSemicolon cX3_wantSemicolon 1 none 0 := ⟨⟨kw_11_9, kw_1_15, by decide +kernel⟩, kw_11_7, kw_11_8⟩
set_option maxHeartbeats 8000000 in
set_option maxRecDepth 100000 in
theorem ctX3_wantSemicolon (l : Launch) (G : GT) (t_h : Nat) (t_a : Nat → Nat) (t_taped : Int32) (t_length : Int32) (t_at : Int32) (t_kind : Int32) (t_start : Int32) (t_value : Int32) (t_fault : Int32) (t_place : Int32) (o_t_fault : Int32) (o_t_place : Int32) (hf : fX3_wantSemicolon t_kind t_start t_fault t_place = some (o_t_fault, o_t_place)) : WrV l yX3_wantSemicolon (Cond.code yX3_wantSemicolon cX3_wantSemicolon 1 none) { frames := 1, cells := 0, slots := 0, locals := 21 } G [.ref t_h] [oX3 t_h t_a t_taped t_length t_at t_kind t_start t_value t_fault t_place] [oX3 t_h t_a t_taped t_length t_at t_kind t_start t_value o_t_fault o_t_place] := by
  intro sz
  refine Met.ofW (cc := cX3_wantSemicolon) (maxL := 1) (ret := none) (by decide) rfl ?_
  intro p e s m args below meth c s₁ B hml hv
  obtain ⟨hargs, hsz, hP, hD0, hK⟩ := hv
  subst hsz
  obtain ⟨hx, hb, hr, hw, hown, hlk⟩ := fwB B
  refine fw_enter hargs (Nat.le_of_ble_eq_true rfl) (fun ls hl => ?_)
  have hl : lv_has ls 1 [(0, .ref t_h)] := hl
  refine fw_Q (P := fun Q => ∃ A : Nat → Prop, va_D A [oX3 t_h t_a t_taped t_length t_at t_kind t_start t_value t_fault t_place] ∧ va_S A s.heap s.heap [] ∧ (∀ q, s.heap.size ≤ q → A q) ∧ ∀ (n_t_fault : Int32) (n_t_place : Int32) (H : Heap) (locs : List Loc) (pc : Nat) (ls : Array Slot), some (n_t_fault, n_t_place) = some (o_t_fault, o_t_place) → va_P G.1 vwCl [oX3 t_h t_a t_taped t_length t_at t_kind t_start t_value n_t_fault n_t_place] H → va_S A s.heap H locs → decode cX3_wantSemicolon pc = .ok (.return_, 1) → W p l e ({ frames := 1, cells := 0, slots := 0, locals := 21 } : Room) s m args below meth c H locs 0 0 Q (F0 m pc ls [])) ⟨va_A [oX3 t_h t_a t_taped t_length t_at t_kind t_start t_value t_fault t_place] s.heap.size, hD0.self (sz := s.heap.size), va_S.rf, fun q h => Or.inr h, ?_⟩ ?_
  · intro n_t_fault n_t_place H locs pc ls h hP hS hd
    cases h
    exact retWV hx hb hr hlk hS hP hd
  rintro Q ⟨A, hD, hS, hA, hRet⟩
  change W p l e ({ frames := 1, cells := 0, slots := 0, locals := 21 } : Room) s m args below meth c _ _ 0 0 Q _
  unfold fX3_wantSemicolon at hf
  refine lv_aload_n hx hb dX3_wantSemicolon_0 rfl (lv_at hl 0 rfl) ?_
  refine va_get (D := G.1) (ci := 3) (v := .int t_kind) (C := RX3) (T := TX3) (N := 9) hx hb hw inW3 hown hK.1 hP 0 rfl rfl 4 (by decide) (hw _ kw_7_14) (fun _ h9 => h9) rfl dX3_wantSemicolon_1 ?_
  refine lv_iconst (v := 2) hx hb dX3_wantSemicolon_4 (by decide) ?_
  refine lv_icmp_eq (tgt := 13) hx hb dX3_wantSemicolon_5 (by decide) (fun c_1 => ?_) (fun c_1 => ?_)
  · have hf := ip c_1 hf
    exact hRet _ _ _ _ _ _ hf hP hS dX3_wantSemicolon_13
  · have hf := iq c_1 hf
    refine lv_aload_n hx hb dX3_wantSemicolon_8 rfl (lv_at hl 0 rfl) ?_
    refine lv_iconst (v := 2) hx hb dX3_wantSemicolon_9 (by decide) ?_
    obtain ⟨t_fault_2, t_place_3, hc_4, hf⟩ := bd2_in hf
    refine wcV (w1 := [oX3 t_h t_a t_taped t_length t_at t_kind t_start t_value t_fault_2 t_place_3]) (va_runV (As := [.int 2]) (rest := []) ⟨hx, hb, hml, hown, hw⟩ ((ctX3_refuse l G t_h t_a t_taped t_length t_at t_kind t_start t_value t_fault t_place 2 _ _ hc_4) _) (kV hw calX3_refuse kw_8_1 rfl rfl ⟨Nat.le_of_ble_eq_true rfl, Nat.le_of_ble_eq_true rfl⟩) (wpV (hP.sub (ws' := [oX3 t_h t_a t_taped t_length t_at t_kind t_start t_value t_fault t_place]) [0] rfl) (hD.sub (ws' := [oX3 t_h t_a t_taped t_length t_at t_kind t_start t_value t_fault t_place]) [0] (by decide) rfl) hK (ci := 3) (q0 := 0) rfl rfl) rfl rfl hl.1 rfl (lv_room (Nat.le_of_ble_eq_true rfl)) dX3_wantSemicolon_10 ⟨Nat.zero_le _, Nat.zero_le _⟩) hS hA hP hD [0] rfl rfl (fun H locs hP hD hS => ?_)
    have hP : va_P G.1 vwCl [oX3 t_h t_a t_taped t_length t_at t_kind t_start t_value t_fault_2 t_place_3] H := hP
    have hD : va_D A [oX3 t_h t_a t_taped t_length t_at t_kind t_start t_value t_fault_2 t_place_3] := hD
    exact hRet _ _ _ _ _ _ hf hP hS dX3_wantSemicolon_13
theorem calX3_readSemicolon : CalV yX3_readSemicolon cX3_readSemicolon 1 none 0 := ⟨⟨kw_11_5, kw_1_15, by decide +kernel⟩, kw_11_3, kw_11_4⟩
set_option maxHeartbeats 8000000 in
set_option maxRecDepth 100000 in
theorem ctX3_readSemicolon (l : Launch) (G : GT) (t_h : Nat) (t_a : Nat → Nat) (t_tape : Nat → Int32) (t_taped : Int32) (t_length : Int32) (t_at : Int32) (t_kind : Int32) (t_start : Int32) (t_value : Int32) (t_fault : Int32) (t_place : Int32) (o_t_at : Int32) (o_t_kind : Int32) (o_t_start : Int32) (o_t_value : Int32) (o_t_fault : Int32) (o_t_place : Int32) (hf : fX3_readSemicolon t_tape t_length t_at t_kind t_start t_value t_fault t_place = some (o_t_at, o_t_kind, o_t_start, o_t_value, o_t_fault, o_t_place)) : WrV l yX3_readSemicolon (Cond.code yX3_readSemicolon cX3_readSemicolon 1 none) { frames := 2, cells := 0, slots := 0, locals := 43 } G [.ref t_h] [oX3 t_h t_a t_taped t_length t_at t_kind t_start t_value t_fault t_place, arB G (t_a 0) 900 t_tape] [oX3 t_h t_a t_taped t_length o_t_at o_t_kind o_t_start o_t_value o_t_fault o_t_place, arB G (t_a 0) 900 t_tape] := by
  intro sz
  refine Met.ofW (cc := cX3_readSemicolon) (maxL := 1) (ret := none) (by decide) rfl ?_
  intro p e s m args below meth c s₁ B hml hv
  obtain ⟨hargs, hsz, hP, hD0, hK⟩ := hv
  subst hsz
  obtain ⟨hx, hb, hr, hw, hown, hlk⟩ := fwB B
  refine fw_enter hargs (Nat.le_of_ble_eq_true rfl) (fun ls hl => ?_)
  have hl : lv_has ls 1 [(0, .ref t_h)] := hl
  refine fw_Q (P := fun Q => ∃ A : Nat → Prop, va_D A [oX3 t_h t_a t_taped t_length t_at t_kind t_start t_value t_fault t_place, arB G (t_a 0) 900 t_tape] ∧ va_S A s.heap s.heap [] ∧ (∀ q, s.heap.size ≤ q → A q) ∧ ∀ (n_t_at : Int32) (n_t_kind : Int32) (n_t_start : Int32) (n_t_value : Int32) (n_t_fault : Int32) (n_t_place : Int32) (H : Heap) (locs : List Loc) (pc : Nat) (ls : Array Slot), some (n_t_at, n_t_kind, n_t_start, n_t_value, n_t_fault, n_t_place) = some (o_t_at, o_t_kind, o_t_start, o_t_value, o_t_fault, o_t_place) → va_P G.1 vwCl [oX3 t_h t_a t_taped t_length n_t_at n_t_kind n_t_start n_t_value n_t_fault n_t_place, arB G (t_a 0) 900 t_tape] H → va_S A s.heap H locs → decode cX3_readSemicolon pc = .ok (.return_, 1) → W p l e ({ frames := 2, cells := 0, slots := 0, locals := 43 } : Room) s m args below meth c H locs 0 0 Q (F0 m pc ls [])) ⟨va_A [oX3 t_h t_a t_taped t_length t_at t_kind t_start t_value t_fault t_place, arB G (t_a 0) 900 t_tape] s.heap.size, hD0.self (sz := s.heap.size), va_S.rf, fun q h => Or.inr h, ?_⟩ ?_
  · intro n_t_at n_t_kind n_t_start n_t_value n_t_fault n_t_place H locs pc ls h hP hS hd
    cases h
    exact retWV hx hb hr hlk hS hP hd
  rintro Q ⟨A, hD, hS, hA, hRet⟩
  change W p l e ({ frames := 2, cells := 0, slots := 0, locals := 43 } : Room) s m args below meth c _ _ 0 0 Q _
  unfold fX3_readSemicolon at hf
  refine lv_aload_n hx hb dX3_readSemicolon_0 rfl (lv_at hl 0 rfl) ?_
  obtain ⟨t_at_1, t_kind_2, t_start_3, t_value_4, t_fault_5, t_place_6, hc_7, hf⟩ := bd6_in hf
  refine wcV (w1 := [oX3 t_h t_a t_taped t_length t_at_1 t_kind_2 t_start_3 t_value_4 t_fault_5 t_place_6, arB G (t_a 0) 900 t_tape]) (va_runV (As := []) (rest := []) ⟨hx, hb, hml, hown, hw⟩ ((ctX3_nextToken l G t_h t_a t_tape t_taped t_length t_at t_kind t_start t_value t_fault t_place _ _ _ _ _ _ hc_7) _) (kV hw calX3_nextToken kw_7_16 rfl rfl ⟨Nat.le_of_ble_eq_true rfl, Nat.le_of_ble_eq_true rfl⟩) (wpV (hP.sub (ws' := [oX3 t_h t_a t_taped t_length t_at t_kind t_start t_value t_fault t_place, arB G (t_a 0) 900 t_tape]) [0, 1] rfl) (hD.sub (ws' := [oX3 t_h t_a t_taped t_length t_at t_kind t_start t_value t_fault t_place, arB G (t_a 0) 900 t_tape]) [0, 1] (by decide) rfl) hK (ci := 3) (q0 := 0) rfl rfl) rfl rfl hl.1 rfl (lv_room (Nat.le_of_ble_eq_true rfl)) dX3_readSemicolon_1 ⟨Nat.zero_le _, Nat.zero_le _⟩) hS hA hP hD [0, 1] rfl rfl (fun H locs hP hD hS => ?_)
  have hP : va_P G.1 vwCl [oX3 t_h t_a t_taped t_length t_at_1 t_kind_2 t_start_3 t_value_4 t_fault_5 t_place_6, arB G (t_a 0) 900 t_tape] H := hP
  have hD : va_D A [oX3 t_h t_a t_taped t_length t_at_1 t_kind_2 t_start_3 t_value_4 t_fault_5 t_place_6, arB G (t_a 0) 900 t_tape] := hD
  refine lv_aload_n hx hb dX3_readSemicolon_4 rfl (lv_at hl 0 rfl) ?_
  obtain ⟨t_fault_8, t_place_9, hc_10, hf⟩ := bd2_in hf
  refine wcV (w1 := [oX3 t_h t_a t_taped t_length t_at_1 t_kind_2 t_start_3 t_value_4 t_fault_8 t_place_9]) (va_runV (As := []) (rest := []) ⟨hx, hb, hml, hown, hw⟩ ((ctX3_wantSemicolon l G t_h t_a t_taped t_length t_at_1 t_kind_2 t_start_3 t_value_4 t_fault_5 t_place_6 _ _ hc_10) _) (kV hw calX3_wantSemicolon kw_11_6 rfl rfl ⟨Nat.le_of_ble_eq_true rfl, Nat.le_of_ble_eq_true rfl⟩) (wpV (hP.sub (ws' := [oX3 t_h t_a t_taped t_length t_at_1 t_kind_2 t_start_3 t_value_4 t_fault_5 t_place_6]) [0] rfl) (hD.sub (ws' := [oX3 t_h t_a t_taped t_length t_at_1 t_kind_2 t_start_3 t_value_4 t_fault_5 t_place_6]) [0] (by decide) rfl) hK (ci := 3) (q0 := 0) rfl rfl) rfl rfl hl.1 rfl (lv_room (Nat.le_of_ble_eq_true rfl)) dX3_readSemicolon_5 ⟨Nat.zero_le _, Nat.zero_le _⟩) hS hA hP hD [0] rfl rfl (fun H locs hP hD hS => ?_)
  have hP : va_P G.1 vwCl [oX3 t_h t_a t_taped t_length t_at_1 t_kind_2 t_start_3 t_value_4 t_fault_8 t_place_9, arB G (t_a 0) 900 t_tape] H := hP
  have hD : va_D A [oX3 t_h t_a t_taped t_length t_at_1 t_kind_2 t_start_3 t_value_4 t_fault_8 t_place_9, arB G (t_a 0) 900 t_tape] := hD
  exact hRet _ _ _ _ _ _ _ _ _ _ hf hP hS dX3_readSemicolon_8
theorem calX3_readWindows : CalV yX3_readWindows cX3_readWindows 2 none 1 := ⟨⟨kw_10_21, kw_1_15, by decide +kernel⟩, kw_10_19, kw_10_20⟩
set_option maxHeartbeats 8000000 in
set_option maxRecDepth 100000 in
theorem ctX3_readWindows (l : Launch) (G : GT) (t_h : Nat) (t_a : Nat → Nat) (p1_h : Nat) (p1_a : Nat → Nat) (t_tape : Nat → Int32) (t_taped : Int32) (t_length : Int32) (t_at : Int32) (t_kind : Int32) (t_start : Int32) (t_value : Int32) (t_fault : Int32) (t_place : Int32) (p1_windows : Int32) (p1_washes : Int32) (p1_damp : Int32) (p1_heard : Int32) (p1_lines : Int32) (p1_hour : Int32) (p1_strings : Int32) (o_t_at : Int32) (o_t_kind : Int32) (o_t_start : Int32) (o_t_value : Int32) (o_t_fault : Int32) (o_t_place : Int32) (o_p1_windows : Int32) (hf : fX3_readWindows t_tape t_length t_at t_kind t_start t_value t_fault t_place p1_windows = some (o_t_at, o_t_kind, o_t_start, o_t_value, o_t_fault, o_t_place, o_p1_windows)) : WrV l yX3_readWindows (Cond.code yX3_readWindows cX3_readWindows 2 none) { frames := 3, cells := 0, slots := 0, locals := 65 } G [.ref t_h, .ref p1_h] [oX3 t_h t_a t_taped t_length t_at t_kind t_start t_value t_fault t_place, arB G (t_a 0) 900 t_tape, oX1 p1_h p1_a p1_windows p1_washes p1_damp p1_heard p1_lines p1_hour p1_strings] [oX3 t_h t_a t_taped t_length o_t_at o_t_kind o_t_start o_t_value o_t_fault o_t_place, arB G (t_a 0) 900 t_tape, oX1 p1_h p1_a o_p1_windows p1_washes p1_damp p1_heard p1_lines p1_hour p1_strings] := by
  intro sz
  refine Met.ofW (cc := cX3_readWindows) (maxL := 2) (ret := none) (by decide) rfl ?_
  intro p e s m args below meth c s₁ B hml hv
  obtain ⟨hargs, hsz, hP, hD0, hK⟩ := hv
  subst hsz
  obtain ⟨hx, hb, hr, hw, hown, hlk⟩ := fwB B
  refine fw_enter hargs (Nat.le_of_ble_eq_true rfl) (fun ls hl => ?_)
  have hl : lv_has ls 2 [(0, .ref t_h), (1, .ref p1_h)] := hl
  refine fw_Q (P := fun Q => ∃ A : Nat → Prop, va_D A [oX3 t_h t_a t_taped t_length t_at t_kind t_start t_value t_fault t_place, arB G (t_a 0) 900 t_tape, oX1 p1_h p1_a p1_windows p1_washes p1_damp p1_heard p1_lines p1_hour p1_strings] ∧ va_S A s.heap s.heap [] ∧ (∀ q, s.heap.size ≤ q → A q) ∧ ∀ (n_t_at : Int32) (n_t_kind : Int32) (n_t_start : Int32) (n_t_value : Int32) (n_t_fault : Int32) (n_t_place : Int32) (n_p1_windows : Int32) (H : Heap) (locs : List Loc) (pc : Nat) (ls : Array Slot), some (n_t_at, n_t_kind, n_t_start, n_t_value, n_t_fault, n_t_place, n_p1_windows) = some (o_t_at, o_t_kind, o_t_start, o_t_value, o_t_fault, o_t_place, o_p1_windows) → va_P G.1 vwCl [oX3 t_h t_a t_taped t_length n_t_at n_t_kind n_t_start n_t_value n_t_fault n_t_place, arB G (t_a 0) 900 t_tape, oX1 p1_h p1_a n_p1_windows p1_washes p1_damp p1_heard p1_lines p1_hour p1_strings] H → va_S A s.heap H locs → decode cX3_readWindows pc = .ok (.return_, 1) → W p l e ({ frames := 3, cells := 0, slots := 0, locals := 65 } : Room) s m args below meth c H locs 0 0 Q (F0 m pc ls [])) ⟨va_A [oX3 t_h t_a t_taped t_length t_at t_kind t_start t_value t_fault t_place, arB G (t_a 0) 900 t_tape, oX1 p1_h p1_a p1_windows p1_washes p1_damp p1_heard p1_lines p1_hour p1_strings] s.heap.size, hD0.self (sz := s.heap.size), va_S.rf, fun q h => Or.inr h, ?_⟩ ?_
  · intro n_t_at n_t_kind n_t_start n_t_value n_t_fault n_t_place n_p1_windows H locs pc ls h hP hS hd
    cases h
    exact retWV hx hb hr hlk hS hP hd
  rintro Q ⟨A, hD, hS, hA, hRet⟩
  change W p l e ({ frames := 3, cells := 0, slots := 0, locals := 65 } : Room) s m args below meth c _ _ 0 0 Q _
  unfold fX3_readWindows at hf
  refine lv_aload_n hx hb dX3_readWindows_0 rfl (lv_at hl 1 rfl) ?_
  refine lv_aload_n hx hb dX3_readWindows_1 rfl (lv_at hl 0 rfl) ?_
  refine lv_iconst (v := 3) hx hb dX3_readWindows_2 (by decide) ?_
  refine lv_bipush (v := 12) hx hb dX3_readWindows_3 (by decide) ?_
  obtain ⟨r_7, t_at_1, t_kind_2, t_start_3, t_value_4, t_fault_5, t_place_6, hc_8, hf⟩ := bd7_in hf
  refine wcI (w1 := [oX3 t_h t_a t_taped t_length t_at_1 t_kind_2 t_start_3 t_value_4 t_fault_5 t_place_6, arB G (t_a 0) 900 t_tape]) (va_runV (As := [.int 3, .int 12]) (rest := [.ref p1_h]) ⟨hx, hb, hml, hown, hw⟩ ((ctX3_readNumber l G t_h t_a t_tape t_taped t_length t_at t_kind t_start t_value t_fault t_place 3 12 _ _ _ _ _ _ _ hc_8) _) (kV hw calX3_readNumber kw_10_22 rfl rfl ⟨Nat.le_of_ble_eq_true rfl, Nat.le_of_ble_eq_true rfl⟩) (wpV (hP.sub (ws' := [oX3 t_h t_a t_taped t_length t_at t_kind t_start t_value t_fault t_place, arB G (t_a 0) 900 t_tape]) [0, 1] rfl) (hD.sub (ws' := [oX3 t_h t_a t_taped t_length t_at t_kind t_start t_value t_fault t_place, arB G (t_a 0) 900 t_tape]) [0, 1] (by decide) rfl) hK (ci := 3) (q0 := 0) rfl rfl) rfl rfl hl.1 rfl (lv_room (Nat.le_of_ble_eq_true rfl)) dX3_readWindows_5 ⟨Nat.zero_le _, Nat.zero_le _⟩) hS hA hP hD [0, 1] rfl rfl (fun H locs hP hD hS => ?_)
  have hP : va_P G.1 vwCl [oX3 t_h t_a t_taped t_length t_at_1 t_kind_2 t_start_3 t_value_4 t_fault_5 t_place_6, arB G (t_a 0) 900 t_tape, oX1 p1_h p1_a p1_windows p1_washes p1_damp p1_heard p1_lines p1_hour p1_strings] H := hP
  have hD : va_D A [oX3 t_h t_a t_taped t_length t_at_1 t_kind_2 t_start_3 t_value_4 t_fault_5 t_place_6, arB G (t_a 0) 900 t_tape, oX1 p1_h p1_a p1_windows p1_washes p1_damp p1_heard p1_lines p1_hour p1_strings] := hD
  refine va_putN (D := G.1) (ci := 1) (v := .int r_7) (ty := .int) (C := RX1) (T := TX1) (N := 12) hx hb hw inW1 tyX1 tyX1_ok nmX1 hown hK.1 hP hD hS 2 rfl rfl 0 (by decide) ((nf_5 hK.2).use rfl) (fun _ h9 => h9) rfl (by decide +kernel) rfl rfl (Nat.le_of_ble_eq_true rfl) dX3_readWindows_8 (fun H locs hP hD hS => ?_)
  have hP : va_P G.1 vwCl [oX3 t_h t_a t_taped t_length t_at_1 t_kind_2 t_start_3 t_value_4 t_fault_5 t_place_6, arB G (t_a 0) 900 t_tape, oX1 p1_h p1_a r_7 p1_washes p1_damp p1_heard p1_lines p1_hour p1_strings] H := hP
  have hD : va_D A [oX3 t_h t_a t_taped t_length t_at_1 t_kind_2 t_start_3 t_value_4 t_fault_5 t_place_6, arB G (t_a 0) 900 t_tape, oX1 p1_h p1_a r_7 p1_washes p1_damp p1_heard p1_lines p1_hour p1_strings] := hD
  refine lv_aload_n hx hb dX3_readWindows_11 rfl (lv_at hl 0 rfl) ?_
  obtain ⟨t_at_9, t_kind_10, t_start_11, t_value_12, t_fault_13, t_place_14, hc_15, hf⟩ := bd6_in hf
  refine wcV (w1 := [oX3 t_h t_a t_taped t_length t_at_9 t_kind_10 t_start_11 t_value_12 t_fault_13 t_place_14, arB G (t_a 0) 900 t_tape]) (va_runV (As := []) (rest := []) ⟨hx, hb, hml, hown, hw⟩ ((ctX3_readSemicolon l G t_h t_a t_tape t_taped t_length t_at_1 t_kind_2 t_start_3 t_value_4 t_fault_5 t_place_6 _ _ _ _ _ _ hc_15) _) (kV hw calX3_readSemicolon kw_11_2 rfl rfl ⟨Nat.le_of_ble_eq_true rfl, Nat.le_of_ble_eq_true rfl⟩) (wpV (hP.sub (ws' := [oX3 t_h t_a t_taped t_length t_at_1 t_kind_2 t_start_3 t_value_4 t_fault_5 t_place_6, arB G (t_a 0) 900 t_tape]) [0, 1] rfl) (hD.sub (ws' := [oX3 t_h t_a t_taped t_length t_at_1 t_kind_2 t_start_3 t_value_4 t_fault_5 t_place_6, arB G (t_a 0) 900 t_tape]) [0, 1] (by decide) rfl) hK (ci := 3) (q0 := 0) rfl rfl) rfl rfl hl.1 rfl (lv_room (Nat.le_of_ble_eq_true rfl)) dX3_readWindows_12 ⟨Nat.zero_le _, Nat.zero_le _⟩) hS hA hP hD [0, 1] rfl rfl (fun H locs hP hD hS => ?_)
  have hP : va_P G.1 vwCl [oX3 t_h t_a t_taped t_length t_at_9 t_kind_10 t_start_11 t_value_12 t_fault_13 t_place_14, arB G (t_a 0) 900 t_tape, oX1 p1_h p1_a r_7 p1_washes p1_damp p1_heard p1_lines p1_hour p1_strings] H := hP
  have hD : va_D A [oX3 t_h t_a t_taped t_length t_at_9 t_kind_10 t_start_11 t_value_12 t_fault_13 t_place_14, arB G (t_a 0) 900 t_tape, oX1 p1_h p1_a r_7 p1_washes p1_damp p1_heard p1_lines p1_hour p1_strings] := hD
  exact hRet _ _ _ _ _ _ _ _ _ _ _ hf hP hS dX3_readWindows_15
theorem calX3_readCans : CalV yX3_readCans cX3_readCans 4 none 1 := ⟨⟨kw_11_13, kw_1_15, by decide +kernel⟩, kw_11_11, kw_11_12⟩
set_option maxHeartbeats 8000000 in
set_option maxRecDepth 100000 in
theorem ctX3_readCans (l : Launch) (G : GT) (t_h : Nat) (t_a : Nat → Nat) (p1_h : Nat) (p1_a : Nat → Nat) (t_tape : Nat → Int32) (t_taped : Int32) (t_length : Int32) (t_at : Int32) (t_kind : Int32) (t_start : Int32) (t_value : Int32) (t_fault : Int32) (t_place : Int32) (p1_windows : Int32) (p1_washes : Int32) (p1_damp : Int32) (p1_heard : Int32) (p1_lines : Int32) (p1_hour : Int32) (p1_strings : Int32) (p1_cans : Nat → Int32) (o_t_at : Int32) (o_t_kind : Int32) (o_t_start : Int32) (o_t_value : Int32) (o_t_fault : Int32) (o_t_place : Int32) (o_p1_cans : Nat → Int32) (hf : fX3_readCans t_tape t_length t_at t_kind t_start t_value t_fault t_place p1_windows p1_cans = some (o_t_at, o_t_kind, o_t_start, o_t_value, o_t_fault, o_t_place, o_p1_cans)) : WrV l yX3_readCans (Cond.code yX3_readCans cX3_readCans 4 none) { frames := 3, cells := 0, slots := 0, locals := 65 } G [.ref t_h, .ref p1_h] [oX3 t_h t_a t_taped t_length t_at t_kind t_start t_value t_fault t_place, arB G (t_a 0) 900 t_tape, oX1 p1_h p1_a p1_windows p1_washes p1_damp p1_heard p1_lines p1_hour p1_strings, arI G (p1_a 7) 12 p1_cans] [oX3 t_h t_a t_taped t_length o_t_at o_t_kind o_t_start o_t_value o_t_fault o_t_place, arB G (t_a 0) 900 t_tape, oX1 p1_h p1_a p1_windows p1_washes p1_damp p1_heard p1_lines p1_hour p1_strings, arI G (p1_a 7) 12 o_p1_cans] := by
  intro sz
  refine Met.ofW (cc := cX3_readCans) (maxL := 4) (ret := none) (by decide) rfl ?_
  intro p e s m args below meth c s₁ B hml hv
  obtain ⟨hargs, hsz, hP, hD0, hK⟩ := hv
  subst hsz
  obtain ⟨hx, hb, hr, hw, hown, hlk⟩ := fwB B
  refine fw_enter hargs (Nat.le_of_ble_eq_true rfl) (fun ls hl => ?_)
  have hl : lv_has ls 4 [(0, .ref t_h), (1, .ref p1_h)] := hl
  refine fw_Q (P := fun Q => ∃ A : Nat → Prop, va_D A [oX3 t_h t_a t_taped t_length t_at t_kind t_start t_value t_fault t_place, arB G (t_a 0) 900 t_tape, oX1 p1_h p1_a p1_windows p1_washes p1_damp p1_heard p1_lines p1_hour p1_strings, arI G (p1_a 7) 12 p1_cans] ∧ va_S A s.heap s.heap [] ∧ (∀ q, s.heap.size ≤ q → A q) ∧ ∀ (n_t_at : Int32) (n_t_kind : Int32) (n_t_start : Int32) (n_t_value : Int32) (n_t_fault : Int32) (n_t_place : Int32) (n_p1_cans : Nat → Int32) (H : Heap) (locs : List Loc) (pc : Nat) (ls : Array Slot), some (n_t_at, n_t_kind, n_t_start, n_t_value, n_t_fault, n_t_place, n_p1_cans) = some (o_t_at, o_t_kind, o_t_start, o_t_value, o_t_fault, o_t_place, o_p1_cans) → va_P G.1 vwCl [oX3 t_h t_a t_taped t_length n_t_at n_t_kind n_t_start n_t_value n_t_fault n_t_place, arB G (t_a 0) 900 t_tape, oX1 p1_h p1_a p1_windows p1_washes p1_damp p1_heard p1_lines p1_hour p1_strings, arI G (p1_a 7) 12 n_p1_cans] H → va_S A s.heap H locs → decode cX3_readCans pc = .ok (.return_, 1) → W p l e ({ frames := 3, cells := 0, slots := 0, locals := 65 } : Room) s m args below meth c H locs 0 0 Q (F0 m pc ls [])) ⟨va_A [oX3 t_h t_a t_taped t_length t_at t_kind t_start t_value t_fault t_place, arB G (t_a 0) 900 t_tape, oX1 p1_h p1_a p1_windows p1_washes p1_damp p1_heard p1_lines p1_hour p1_strings, arI G (p1_a 7) 12 p1_cans] s.heap.size, hD0.self (sz := s.heap.size), va_S.rf, fun q h => Or.inr h, ?_⟩ ?_
  · intro n_t_at n_t_kind n_t_start n_t_value n_t_fault n_t_place n_p1_cans H locs pc ls h hP hS hd
    cases h
    exact retWV hx hb hr hlk hS hP hd
  rintro Q ⟨A, hD, hS, hA, hRet⟩
  change W p l e ({ frames := 3, cells := 0, slots := 0, locals := 65 } : Room) s m args below meth c _ _ 0 0 Q _
  unfold fX3_readCans at hf
  refine lv_aload_n hx hb dX3_readCans_0 rfl (lv_at hl 0 rfl) ?_
  refine lv_iconst (v := 0) hx hb dX3_readCans_1 (by decide) ?_
  refine lv_aload_n hx hb dX3_readCans_2 rfl (lv_at hl 1 rfl) ?_
  refine va_getN (D := G.1) (ci := 1) (v := .int p1_windows) (C := RX1) (T := TX1) (N := 12) hx hb hw inW1 hown hK.1 hP 2 rfl rfl 0 (by decide) ((nf_5 hK.2).use rfl) (fun _ h9 => h9) rfl dX3_readCans_3 ?_
  refine lv_iconst (v := 1) hx hb dX3_readCans_6 (by decide) ?_
  refine lv_isub hx hb dX3_readCans_7 ?_
  obtain ⟨r_7, t_at_1, t_kind_2, t_start_3, t_value_4, t_fault_5, t_place_6, hc_8, hf⟩ := bd7_in hf
  refine wcI (w1 := [oX3 t_h t_a t_taped t_length t_at_1 t_kind_2 t_start_3 t_value_4 t_fault_5 t_place_6, arB G (t_a 0) 900 t_tape]) (va_runV (As := [.int 0, .int (p1_windows - 1)]) (rest := []) ⟨hx, hb, hml, hown, hw⟩ ((ctX3_readNumber l G t_h t_a t_tape t_taped t_length t_at t_kind t_start t_value t_fault t_place 0 (p1_windows - 1) _ _ _ _ _ _ _ hc_8) _) (kV hw calX3_readNumber kw_10_22 rfl rfl ⟨Nat.le_of_ble_eq_true rfl, Nat.le_of_ble_eq_true rfl⟩) (wpV (hP.sub (ws' := [oX3 t_h t_a t_taped t_length t_at t_kind t_start t_value t_fault t_place, arB G (t_a 0) 900 t_tape]) [0, 1] rfl) (hD.sub (ws' := [oX3 t_h t_a t_taped t_length t_at t_kind t_start t_value t_fault t_place, arB G (t_a 0) 900 t_tape]) [0, 1] (by decide) rfl) hK (ci := 3) (q0 := 0) rfl rfl) rfl rfl hl.1 rfl (lv_room (Nat.le_of_ble_eq_true rfl)) dX3_readCans_8 ⟨Nat.zero_le _, Nat.zero_le _⟩) hS hA hP hD [0, 1] rfl rfl (fun H locs hP hD hS => ?_)
  have hP : va_P G.1 vwCl [oX3 t_h t_a t_taped t_length t_at_1 t_kind_2 t_start_3 t_value_4 t_fault_5 t_place_6, arB G (t_a 0) 900 t_tape, oX1 p1_h p1_a p1_windows p1_washes p1_damp p1_heard p1_lines p1_hour p1_strings, arI G (p1_a 7) 12 p1_cans] H := hP
  have hD : va_D A [oX3 t_h t_a t_taped t_length t_at_1 t_kind_2 t_start_3 t_value_4 t_fault_5 t_place_6, arB G (t_a 0) 900 t_tape, oX1 p1_h p1_a p1_windows p1_washes p1_damp p1_heard p1_lines p1_hour p1_strings, arI G (p1_a 7) 12 p1_cans] := hD
  refine lv_istore_n (lv' := [(2, .int r_7), (0, .ref t_h), (1, .ref p1_h)]) hx hb dX3_readCans_11 rfl hl (by decide) rfl (fun ls hl => ?_)
  refine lv_aload_n hx hb dX3_readCans_12 rfl (lv_at hl 1 rfl) ?_
  refine lv_iconst (v := 0) hx hb dX3_readCans_13 (by decide) ?_
  refine lv_bipush (v := 11) hx hb dX3_readCans_14 (by decide) ?_
  obtain ⟨r_15, t_at_9, t_kind_10, t_start_11, t_value_12, t_fault_13, t_place_14, hc_16, hf⟩ := bd7_in hf
  refine wcI (w1 := [oX3 t_h t_a t_taped t_length t_at_9 t_kind_10 t_start_11 t_value_12 t_fault_13 t_place_14, arB G (t_a 0) 900 t_tape]) (va_runV (As := [.int 0, .int 11]) (rest := []) ⟨hx, hb, hml, hown, hw⟩ ((ctX3_readNumber l G t_h t_a t_tape t_taped t_length t_at_1 t_kind_2 t_start_3 t_value_4 t_fault_5 t_place_6 0 11 _ _ _ _ _ _ _ hc_16) _) (kV hw calX3_readNumber kw_10_22 rfl rfl ⟨Nat.le_of_ble_eq_true rfl, Nat.le_of_ble_eq_true rfl⟩) (wpV (hP.sub (ws' := [oX3 t_h t_a t_taped t_length t_at_1 t_kind_2 t_start_3 t_value_4 t_fault_5 t_place_6, arB G (t_a 0) 900 t_tape]) [0, 1] rfl) (hD.sub (ws' := [oX3 t_h t_a t_taped t_length t_at_1 t_kind_2 t_start_3 t_value_4 t_fault_5 t_place_6, arB G (t_a 0) 900 t_tape]) [0, 1] (by decide) rfl) hK (ci := 3) (q0 := 0) rfl rfl) rfl rfl hl.1 rfl (lv_room (Nat.le_of_ble_eq_true rfl)) dX3_readCans_16 ⟨Nat.zero_le _, Nat.zero_le _⟩) hS hA hP hD [0, 1] rfl rfl (fun H locs hP hD hS => ?_)
  have hP : va_P G.1 vwCl [oX3 t_h t_a t_taped t_length t_at_9 t_kind_10 t_start_11 t_value_12 t_fault_13 t_place_14, arB G (t_a 0) 900 t_tape, oX1 p1_h p1_a p1_windows p1_washes p1_damp p1_heard p1_lines p1_hour p1_strings, arI G (p1_a 7) 12 p1_cans] H := hP
  have hD : va_D A [oX3 t_h t_a t_taped t_length t_at_9 t_kind_10 t_start_11 t_value_12 t_fault_13 t_place_14, arB G (t_a 0) 900 t_tape, oX1 p1_h p1_a p1_windows p1_washes p1_damp p1_heard p1_lines p1_hour p1_strings, arI G (p1_a 7) 12 p1_cans] := hD
  refine lv_istore_n (lv' := [(3, .int r_15), (2, .int r_7), (0, .ref t_h), (1, .ref p1_h)]) hx hb dX3_readCans_19 rfl hl (by decide) rfl (fun ls hl => ?_)
  refine lv_aload_n hx hb dX3_readCans_20 rfl (lv_at hl 2 rfl) ?_
  obtain ⟨t_at_17, t_kind_18, t_start_19, t_value_20, t_fault_21, t_place_22, hc_23, hf⟩ := bd6_in hf
  refine wcV (w1 := [oX3 t_h t_a t_taped t_length t_at_17 t_kind_18 t_start_19 t_value_20 t_fault_21 t_place_22, arB G (t_a 0) 900 t_tape]) (va_runV (As := []) (rest := []) ⟨hx, hb, hml, hown, hw⟩ ((ctX3_readSemicolon l G t_h t_a t_tape t_taped t_length t_at_9 t_kind_10 t_start_11 t_value_12 t_fault_13 t_place_14 _ _ _ _ _ _ hc_23) _) (kV hw calX3_readSemicolon kw_11_2 rfl rfl ⟨Nat.le_of_ble_eq_true rfl, Nat.le_of_ble_eq_true rfl⟩) (wpV (hP.sub (ws' := [oX3 t_h t_a t_taped t_length t_at_9 t_kind_10 t_start_11 t_value_12 t_fault_13 t_place_14, arB G (t_a 0) 900 t_tape]) [0, 1] rfl) (hD.sub (ws' := [oX3 t_h t_a t_taped t_length t_at_9 t_kind_10 t_start_11 t_value_12 t_fault_13 t_place_14, arB G (t_a 0) 900 t_tape]) [0, 1] (by decide) rfl) hK (ci := 3) (q0 := 0) rfl rfl) rfl rfl hl.1 rfl (lv_room (Nat.le_of_ble_eq_true rfl)) dX3_readCans_21 ⟨Nat.zero_le _, Nat.zero_le _⟩) hS hA hP hD [0, 1] rfl rfl (fun H locs hP hD hS => ?_)
  have hP : va_P G.1 vwCl [oX3 t_h t_a t_taped t_length t_at_17 t_kind_18 t_start_19 t_value_20 t_fault_21 t_place_22, arB G (t_a 0) 900 t_tape, oX1 p1_h p1_a p1_windows p1_washes p1_damp p1_heard p1_lines p1_hour p1_strings, arI G (p1_a 7) 12 p1_cans] H := hP
  have hD : va_D A [oX3 t_h t_a t_taped t_length t_at_17 t_kind_18 t_start_19 t_value_20 t_fault_21 t_place_22, arB G (t_a 0) 900 t_tape, oX1 p1_h p1_a p1_windows p1_washes p1_damp p1_heard p1_lines p1_hour p1_strings, arI G (p1_a 7) 12 p1_cans] := hD
  refine lv_aload_n hx hb dX3_readCans_24 rfl (lv_at hl 2 rfl) ?_
  refine va_get (D := G.1) (ci := 3) (v := .int t_fault_21) (C := RX3) (T := TX3) (N := 9) hx hb hw inW3 hown hK.1 hP 0 rfl rfl 7 (by decide) (hw _ kw_7_13) (fun _ h9 => h9) rfl dX3_readCans_25 ?_
  refine lv_if_ne (tgt := 38) hx hb dX3_readCans_28 (by decide) (fun c_24 => ?_) (fun c_24 => ?_)
  · have hf := iq c_24 hf
    exact hRet _ _ _ _ _ _ _ _ _ _ _ hf hP hS dX3_readCans_38
  · have hf := ip c_24 hf
    refine lv_aload_n hx hb dX3_readCans_31 rfl (lv_at hl 3 rfl) ?_
    refine va_getN (D := G.1) (ci := 1) (v := .ref (p1_a 7)) (C := RX1) (T := TX1) (N := 12) hx hb hw inW1 hown hK.1 hP 2 rfl rfl 7 (by decide) ((nf_20 hK.2).use rfl) (fun _ h9 => h9) rfl dX3_readCans_32 ?_
    refine lv_iload_n hx hb dX3_readCans_35 rfl (lv_at hl 1 rfl) ?_
    refine lv_iload_n hx hb dX3_readCans_36 rfl (lv_at hl 0 rfl) ?_
    obtain ⟨hi_26, hf⟩ := wrI_in hf
    refine xiast hx hb hK.1 hP hD hS 3 0 rfl rfl hi_26 dX3_readCans_37 (fun p1_cans_25 H locs ep1_cans_25 hP hD hS => ?_)
    have hf := hf p1_cans_25 ep1_cans_25
    have hP : va_P G.1 vwCl [oX3 t_h t_a t_taped t_length t_at_17 t_kind_18 t_start_19 t_value_20 t_fault_21 t_place_22, arB G (t_a 0) 900 t_tape, oX1 p1_h p1_a p1_windows p1_washes p1_damp p1_heard p1_lines p1_hour p1_strings, arI G (p1_a 7) 12 p1_cans_25] H := hP
    have hD : va_D A [oX3 t_h t_a t_taped t_length t_at_17 t_kind_18 t_start_19 t_value_20 t_fault_21 t_place_22, arB G (t_a 0) 900 t_tape, oX1 p1_h p1_a p1_windows p1_washes p1_damp p1_heard p1_lines p1_hour p1_strings, arI G (p1_a 7) 12 p1_cans_25] := hD
    exact hRet _ _ _ _ _ _ _ _ _ _ _ hf hP hS dX3_readCans_38
theorem calX3_wantSteps : CalV yX3_wantSteps cX3_wantSteps 6 none 4 := ⟨⟨kw_11_21, kw_1_15, by decide +kernel⟩, kw_11_19, kw_11_20⟩
set_option maxHeartbeats 8000000 in
set_option maxRecDepth 100000 in
theorem ctX3_wantSteps (l : Launch) (G : GT) (t_h : Nat) (t_a : Nat → Nat) (p1_h : Nat) (p1_a : Nat → Nat) (t_taped : Int32) (t_length : Int32) (t_at : Int32) (t_kind : Int32) (t_start : Int32) (t_value : Int32) (t_fault : Int32) (t_place : Int32) (p1_windows : Int32) (p1_washes : Int32) (p1_damp : Int32) (p1_heard : Int32) (p1_lines : Int32) (p1_hour : Int32) (p1_strings : Int32) (v2 : Int32) (v3 : Int32) (v4 : Int32) (o_t_fault : Int32) (o_t_place : Int32) (hf : fX3_wantSteps t_start t_fault t_place p1_windows v2 v3 v4 = some (o_t_fault, o_t_place)) : WrV l yX3_wantSteps (Cond.code yX3_wantSteps cX3_wantSteps 6 none) { frames := 1, cells := 0, slots := 0, locals := 32 } G [.ref t_h, .ref p1_h, .int v2, .int v3, .int v4] [oX3 t_h t_a t_taped t_length t_at t_kind t_start t_value t_fault t_place, oX1 p1_h p1_a p1_windows p1_washes p1_damp p1_heard p1_lines p1_hour p1_strings] [oX3 t_h t_a t_taped t_length t_at t_kind t_start t_value o_t_fault o_t_place, oX1 p1_h p1_a p1_windows p1_washes p1_damp p1_heard p1_lines p1_hour p1_strings] := by
  intro sz
  refine Met.ofW (cc := cX3_wantSteps) (maxL := 6) (ret := none) (by decide) rfl ?_
  intro p e s m args below meth c s₁ B hml hv
  obtain ⟨hargs, hsz, hP, hD0, hK⟩ := hv
  subst hsz
  obtain ⟨hx, hb, hr, hw, hown, hlk⟩ := fwB B
  refine fw_enter hargs (Nat.le_of_ble_eq_true rfl) (fun ls hl => ?_)
  have hl : lv_has ls 6 [(0, .ref t_h), (1, .ref p1_h), (2, .int v2), (3, .int v3), (4, .int v4)] := hl
  refine fw_Q (P := fun Q => ∃ A : Nat → Prop, va_D A [oX3 t_h t_a t_taped t_length t_at t_kind t_start t_value t_fault t_place, oX1 p1_h p1_a p1_windows p1_washes p1_damp p1_heard p1_lines p1_hour p1_strings] ∧ va_S A s.heap s.heap [] ∧ (∀ q, s.heap.size ≤ q → A q) ∧ ∀ (n_t_fault : Int32) (n_t_place : Int32) (H : Heap) (locs : List Loc) (pc : Nat) (ls : Array Slot), some (n_t_fault, n_t_place) = some (o_t_fault, o_t_place) → va_P G.1 vwCl [oX3 t_h t_a t_taped t_length t_at t_kind t_start t_value n_t_fault n_t_place, oX1 p1_h p1_a p1_windows p1_washes p1_damp p1_heard p1_lines p1_hour p1_strings] H → va_S A s.heap H locs → decode cX3_wantSteps pc = .ok (.return_, 1) → W p l e ({ frames := 1, cells := 0, slots := 0, locals := 32 } : Room) s m args below meth c H locs 0 0 Q (F0 m pc ls [])) ⟨va_A [oX3 t_h t_a t_taped t_length t_at t_kind t_start t_value t_fault t_place, oX1 p1_h p1_a p1_windows p1_washes p1_damp p1_heard p1_lines p1_hour p1_strings] s.heap.size, hD0.self (sz := s.heap.size), va_S.rf, fun q h => Or.inr h, ?_⟩ ?_
  · intro n_t_fault n_t_place H locs pc ls h hP hS hd
    cases h
    exact retWV hx hb hr hlk hS hP hd
  rintro Q ⟨A, hD, hS, hA, hRet⟩
  change W p l e ({ frames := 1, cells := 0, slots := 0, locals := 32 } : Room) s m args below meth c _ _ 0 0 Q _
  unfold fX3_wantSteps at hf
  refine lv_iload_n hx hb dX3_wantSteps_0 rfl (lv_at hl 2 rfl) ?_
  refine lv_iload_n hx hb dX3_wantSteps_1 rfl (lv_at hl 3 rfl) ?_
  refine lv_isub hx hb dX3_wantSteps_2 ?_
  refine va_mabs hx hb (by rw [hml]; exact hl.1.symm) hown (hw _ kw_11_22) (hw _ kw_11_23) (hw _ kw_7_9) (hw _ kw_12_0) (by exact Nat.le_of_ble_eq_true rfl) (by exact Nat.le_of_ble_eq_true rfl) (Nat.zero_le _) (Nat.zero_le _) dX3_wantSteps_3 ?_
  refine lv_topi (fun y_1 ey_1 => ?_)
  have hf := bnd_all hf y_1 ey_1
  refine lv_istore (lv' := [(5, .int y_1), (0, .ref t_h), (1, .ref p1_h), (2, .int v2), (3, .int v3), (4, .int v4)]) hx hb dX3_wantSteps_6 hl (by decide) rfl (fun ls hl => ?_)
  refine lv_iload hx hb dX3_wantSteps_8 (lv_at hl 0 rfl) ?_
  refine lv_aload_n hx hb dX3_wantSteps_10 rfl (lv_at hl 2 rfl) ?_
  refine va_getN (D := G.1) (ci := 1) (v := .int p1_windows) (C := RX1) (T := TX1) (N := 12) hx hb hw inW1 hown hK.1 hP 1 rfl rfl 0 (by decide) ((nf_5 hK.2).use rfl) (fun _ h9 => h9) rfl dX3_wantSteps_11 ?_
  refine lv_iload hx hb dX3_wantSteps_14 (lv_at hl 0 rfl) ?_
  refine lv_isub hx hb dX3_wantSteps_16 ?_
  refine va_mmin hx hb (by rw [hml]; exact hl.1.symm) hown (hw _ kw_7_7) (hw _ kw_7_8) (hw _ kw_7_9) (hw _ kw_7_10) (by exact Nat.le_of_ble_eq_true rfl) (by exact Nat.le_of_ble_eq_true rfl) (Nat.zero_le _) (Nat.zero_le _) dX3_wantSteps_17 ?_
  refine lv_topi (fun y_2 ey_2 => ?_)
  have hf := bnd_all hf y_2 ey_2
  refine lv_iload hx hb dX3_wantSteps_20 (lv_at hl 5 rfl) ?_
  refine lv_icmp_ge (tgt := 30) hx hb dX3_wantSteps_22 (by decide) (fun c_3 => ?_) (fun c_3 => ?_)
  · have hf := ip c_3 hf
    exact hRet _ _ _ _ _ _ hf hP hS dX3_wantSteps_30
  · have hf := iq c_3 hf
    refine lv_aload_n hx hb dX3_wantSteps_25 rfl (lv_at hl 1 rfl) ?_
    refine lv_iconst (v := 3) hx hb dX3_wantSteps_26 (by decide) ?_
    obtain ⟨t_fault_4, t_place_5, hc_6, hf⟩ := bd2_in hf
    refine wcV (w1 := [oX3 t_h t_a t_taped t_length t_at t_kind t_start t_value t_fault_4 t_place_5]) (va_runV (As := [.int 3]) (rest := []) ⟨hx, hb, hml, hown, hw⟩ ((ctX3_refuse l G t_h t_a t_taped t_length t_at t_kind t_start t_value t_fault t_place 3 _ _ hc_6) _) (kV hw calX3_refuse kw_8_1 rfl rfl ⟨Nat.le_of_ble_eq_true rfl, Nat.le_of_ble_eq_true rfl⟩) (wpV (hP.sub (ws' := [oX3 t_h t_a t_taped t_length t_at t_kind t_start t_value t_fault t_place]) [0] rfl) (hD.sub (ws' := [oX3 t_h t_a t_taped t_length t_at t_kind t_start t_value t_fault t_place]) [0] (by decide) rfl) hK (ci := 3) (q0 := 0) rfl rfl) rfl rfl hl.1 rfl (lv_room (Nat.le_of_ble_eq_true rfl)) dX3_wantSteps_27 ⟨Nat.zero_le _, Nat.zero_le _⟩) hS hA hP hD [0] rfl rfl (fun H locs hP hD hS => ?_)
    have hP : va_P G.1 vwCl [oX3 t_h t_a t_taped t_length t_at t_kind t_start t_value t_fault_4 t_place_5, oX1 p1_h p1_a p1_windows p1_washes p1_damp p1_heard p1_lines p1_hour p1_strings] H := hP
    have hD : va_D A [oX3 t_h t_a t_taped t_length t_at t_kind t_start t_value t_fault_4 t_place_5, oX1 p1_h p1_a p1_windows p1_washes p1_damp p1_heard p1_lines p1_hour p1_strings] := hD
    exact hRet _ _ _ _ _ _ hf hP hS dX3_wantSteps_30
theorem calX7_pairOf : CalS yX7_pairOf cX7_pairOf 2 (some .int) 2 := ⟨⟨kw_12_2, kw_1_2, by decide +kernel⟩, kw_12_1⟩
set_option maxHeartbeats 8000000 in
set_option maxRecDepth 100000 in
theorem ctX7_pairOf (l : Launch) (G : GT) (v0 : Int32) (v1 : Int32) (r : Int32) (hf : fX7_pairOf v0 v1 = some r) : RdI l yX7_pairOf (Cond.code yX7_pairOf cX7_pairOf 2 (some .int)) { frames := 1, cells := 0, slots := 0, locals := 32 } G [.int v0, .int v1] [] r := by
  intro sz
  refine Met.ofW (cc := cX7_pairOf) (maxL := 2) (ret := (some .int)) (by decide) rfl ?_
  intro p e s m args below meth c s₁ B hml hv
  obtain ⟨hargs, hsz, hP, hK⟩ := hv
  subst hsz
  obtain ⟨hx, hb, hr, hw, hown, hlk⟩ := fwB B
  refine fw_enter hargs (Nat.le_of_ble_eq_true rfl) (fun ls hl => ?_)
  have hl : lv_has ls 2 [(0, .int v0), (1, .int v1)] := hl
  refine fw_Q (P := fun Q => ∃ A : Nat → Prop, va_S A s.heap s.heap [] ∧ (∀ q, s.heap.size ≤ q → A q) ∧ ∀ (v : Int32) (H : Heap) (locs : List Loc) (pc : Nat) (ls : Array Slot), some v = some r → va_S A s.heap H locs → decode cX7_pairOf pc = .ok (.ireturn, 1) → W p l e ({ frames := 1, cells := 0, slots := 0, locals := 32 } : Room) s m args below meth c H locs 0 0 Q (F0 m pc ls [.int v])) ⟨fun q => s.heap.size ≤ q, va_S.rf, fun q h => h, fun v H locs pc ls h hS hd => retRI hx hb hr hlk hS h hd⟩ ?_
  rintro Q ⟨A, hS, hA, hRet⟩
  change W p l e ({ frames := 1, cells := 0, slots := 0, locals := 32 } : Room) s m args below meth c _ _ 0 0 Q _
  unfold fX7_pairOf at hf
  refine lv_bipush (v := 20) hx hb dX7_pairOf_0 (by decide) ?_
  refine lv_iload_n hx hb dX7_pairOf_2 rfl (lv_at hl 0 rfl) ?_
  refine lv_iload_n hx hb dX7_pairOf_3 rfl (lv_at hl 1 rfl) ?_
  refine va_mmin hx hb (by rw [hml]; exact hl.1.symm) hown (hw _ kw_12_3) (hw _ kw_7_8) (hw _ kw_7_9) (hw _ kw_7_10) (by exact Nat.le_of_ble_eq_true rfl) (by exact Nat.le_of_ble_eq_true rfl) (Nat.zero_le _) (Nat.zero_le _) dX7_pairOf_4 ?_
  refine lv_topi (fun y_1 ey_1 => ?_)
  have hf := bnd_all hf y_1 ey_1
  refine lv_imul hx hb dX7_pairOf_7 ?_
  refine lv_iload_n hx hb dX7_pairOf_8 rfl (lv_at hl 0 rfl) ?_
  refine lv_iload_n hx hb dX7_pairOf_9 rfl (lv_at hl 1 rfl) ?_
  refine va_mmax hx hb (by rw [hml]; exact hl.1.symm) hown (hw _ kw_12_4) (hw _ kw_12_5) (hw _ kw_7_9) (hw _ kw_12_6) (by exact Nat.le_of_ble_eq_true rfl) (by exact Nat.le_of_ble_eq_true rfl) (Nat.zero_le _) (Nat.zero_le _) dX7_pairOf_10 ?_
  refine lv_topi (fun y_2 ey_2 => ?_)
  have hf := bnd_all hf y_2 ey_2
  refine lv_iadd hx hb dX7_pairOf_13 ?_
  exact hRet _ _ _ _ _ hf hS dX7_pairOf_14
theorem calX3_readWash : CalV yX3_readWash cX3_readWash 5 none 1 := ⟨⟨kw_11_17, kw_1_15, by decide +kernel⟩, kw_11_15, kw_11_16⟩
set_option maxHeartbeats 8000000 in
set_option maxRecDepth 100000 in
theorem ctX3_readWash (l : Launch) (G : GT) (t_h : Nat) (t_a : Nat → Nat) (p1_h : Nat) (p1_a : Nat → Nat) (t_tape : Nat → Int32) (t_taped : Int32) (t_length : Int32) (t_at : Int32) (t_kind : Int32) (t_start : Int32) (t_value : Int32) (t_fault : Int32) (t_place : Int32) (p1_windows : Int32) (p1_washes : Int32) (p1_damp : Int32) (p1_heard : Int32) (p1_lines : Int32) (p1_hour : Int32) (p1_strings : Int32) (p1_washPairs : Nat → Int32) (p1_washHours : Nat → Int32) (o_t_at : Int32) (o_t_kind : Int32) (o_t_start : Int32) (o_t_value : Int32) (o_t_fault : Int32) (o_t_place : Int32) (o_p1_washes : Int32) (o_p1_washPairs : Nat → Int32) (o_p1_washHours : Nat → Int32) (hf : fX3_readWash t_tape t_length t_at t_kind t_start t_value t_fault t_place p1_windows p1_washes p1_washPairs p1_washHours = some (o_t_at, o_t_kind, o_t_start, o_t_value, o_t_fault, o_t_place, o_p1_washes, o_p1_washPairs, o_p1_washHours)) : WrV l yX3_readWash (Cond.code yX3_readWash cX3_readWash 5 none) { frames := 3, cells := 0, slots := 0, locals := 65 } G [.ref t_h, .ref p1_h] [oX3 t_h t_a t_taped t_length t_at t_kind t_start t_value t_fault t_place, arB G (t_a 0) 900 t_tape, oX1 p1_h p1_a p1_windows p1_washes p1_damp p1_heard p1_lines p1_hour p1_strings, arI G (p1_a 8) 8 p1_washPairs, arI G (p1_a 9) 8 p1_washHours] [oX3 t_h t_a t_taped t_length o_t_at o_t_kind o_t_start o_t_value o_t_fault o_t_place, arB G (t_a 0) 900 t_tape, oX1 p1_h p1_a p1_windows o_p1_washes p1_damp p1_heard p1_lines p1_hour p1_strings, arI G (p1_a 8) 8 o_p1_washPairs, arI G (p1_a 9) 8 o_p1_washHours] := by
  intro sz
  refine Met.ofW (cc := cX3_readWash) (maxL := 5) (ret := none) (by decide) rfl ?_
  intro p e s m args below meth c s₁ B hml hv
  obtain ⟨hargs, hsz, hP, hD0, hK⟩ := hv
  subst hsz
  obtain ⟨hx, hb, hr, hw, hown, hlk⟩ := fwB B
  refine fw_enter hargs (Nat.le_of_ble_eq_true rfl) (fun ls hl => ?_)
  have hl : lv_has ls 5 [(0, .ref t_h), (1, .ref p1_h)] := hl
  refine fw_Q (P := fun Q => ∃ A : Nat → Prop, va_D A [oX3 t_h t_a t_taped t_length t_at t_kind t_start t_value t_fault t_place, arB G (t_a 0) 900 t_tape, oX1 p1_h p1_a p1_windows p1_washes p1_damp p1_heard p1_lines p1_hour p1_strings, arI G (p1_a 8) 8 p1_washPairs, arI G (p1_a 9) 8 p1_washHours] ∧ va_S A s.heap s.heap [] ∧ (∀ q, s.heap.size ≤ q → A q) ∧ ∀ (n_t_at : Int32) (n_t_kind : Int32) (n_t_start : Int32) (n_t_value : Int32) (n_t_fault : Int32) (n_t_place : Int32) (n_p1_washes : Int32) (n_p1_washPairs : Nat → Int32) (n_p1_washHours : Nat → Int32) (H : Heap) (locs : List Loc) (pc : Nat) (ls : Array Slot), some (n_t_at, n_t_kind, n_t_start, n_t_value, n_t_fault, n_t_place, n_p1_washes, n_p1_washPairs, n_p1_washHours) = some (o_t_at, o_t_kind, o_t_start, o_t_value, o_t_fault, o_t_place, o_p1_washes, o_p1_washPairs, o_p1_washHours) → va_P G.1 vwCl [oX3 t_h t_a t_taped t_length n_t_at n_t_kind n_t_start n_t_value n_t_fault n_t_place, arB G (t_a 0) 900 t_tape, oX1 p1_h p1_a p1_windows n_p1_washes p1_damp p1_heard p1_lines p1_hour p1_strings, arI G (p1_a 8) 8 n_p1_washPairs, arI G (p1_a 9) 8 n_p1_washHours] H → va_S A s.heap H locs → decode cX3_readWash pc = .ok (.return_, 1) → W p l e ({ frames := 3, cells := 0, slots := 0, locals := 65 } : Room) s m args below meth c H locs 0 0 Q (F0 m pc ls [])) ⟨va_A [oX3 t_h t_a t_taped t_length t_at t_kind t_start t_value t_fault t_place, arB G (t_a 0) 900 t_tape, oX1 p1_h p1_a p1_windows p1_washes p1_damp p1_heard p1_lines p1_hour p1_strings, arI G (p1_a 8) 8 p1_washPairs, arI G (p1_a 9) 8 p1_washHours] s.heap.size, hD0.self (sz := s.heap.size), va_S.rf, fun q h => Or.inr h, ?_⟩ ?_
  · intro n_t_at n_t_kind n_t_start n_t_value n_t_fault n_t_place n_p1_washes n_p1_washPairs n_p1_washHours H locs pc ls h hP hS hd
    cases h
    exact retWV hx hb hr hlk hS hP hd
  rintro Q ⟨A, hD, hS, hA, hRet⟩
  change W p l e ({ frames := 3, cells := 0, slots := 0, locals := 65 } : Room) s m args below meth c _ _ 0 0 Q _
  unfold fX3_readWash at hf
  refine lv_aload_n hx hb dX3_readWash_0 rfl (lv_at hl 1 rfl) ?_
  refine va_getN (D := G.1) (ci := 1) (v := .int p1_washes) (C := RX1) (T := TX1) (N := 12) hx hb hw inW1 hown hK.1 hP 2 rfl rfl 1 (by decide) ((nf_7 hK.2).use rfl) (fun _ h9 => h9) rfl dX3_readWash_1 ?_
  refine lv_bipush (v := 8) hx hb dX3_readWash_4 (by decide) ?_
  refine lv_icmp_lt (tgt := 15) hx hb dX3_readWash_6 (by decide) (fun c_1 => ?_) (fun c_1 => ?_)
  · have hf := ip c_1 hf
    refine lv_aload_n hx hb dX3_readWash_15 rfl (lv_at hl 0 rfl) ?_
    refine lv_iconst (v := 0) hx hb dX3_readWash_16 (by decide) ?_
    refine lv_aload_n hx hb dX3_readWash_17 rfl (lv_at hl 1 rfl) ?_
    refine va_getN (D := G.1) (ci := 1) (v := .int p1_windows) (C := RX1) (T := TX1) (N := 12) hx hb hw inW1 hown hK.1 hP 2 rfl rfl 0 (by decide) ((nf_5 hK.2).use rfl) (fun _ h9 => h9) rfl dX3_readWash_18 ?_
    refine lv_iconst (v := 1) hx hb dX3_readWash_21 (by decide) ?_
    refine lv_isub hx hb dX3_readWash_22 ?_
    obtain ⟨r_8, t_at_2, t_kind_3, t_start_4, t_value_5, t_fault_6, t_place_7, hc_9, hf⟩ := bd7_in hf
    refine wcI (w1 := [oX3 t_h t_a t_taped t_length t_at_2 t_kind_3 t_start_4 t_value_5 t_fault_6 t_place_7, arB G (t_a 0) 900 t_tape]) (va_runV (As := [.int 0, .int (p1_windows - 1)]) (rest := []) ⟨hx, hb, hml, hown, hw⟩ ((ctX3_readNumber l G t_h t_a t_tape t_taped t_length t_at t_kind t_start t_value t_fault t_place 0 (p1_windows - 1) _ _ _ _ _ _ _ hc_9) _) (kV hw calX3_readNumber kw_10_22 rfl rfl ⟨Nat.le_of_ble_eq_true rfl, Nat.le_of_ble_eq_true rfl⟩) (wpV (hP.sub (ws' := [oX3 t_h t_a t_taped t_length t_at t_kind t_start t_value t_fault t_place, arB G (t_a 0) 900 t_tape]) [0, 1] rfl) (hD.sub (ws' := [oX3 t_h t_a t_taped t_length t_at t_kind t_start t_value t_fault t_place, arB G (t_a 0) 900 t_tape]) [0, 1] (by decide) rfl) hK (ci := 3) (q0 := 0) rfl rfl) rfl rfl hl.1 rfl (lv_room (Nat.le_of_ble_eq_true rfl)) dX3_readWash_23 ⟨Nat.zero_le _, Nat.zero_le _⟩) hS hA hP hD [0, 1] rfl rfl (fun H locs hP hD hS => ?_)
    have hP : va_P G.1 vwCl [oX3 t_h t_a t_taped t_length t_at_2 t_kind_3 t_start_4 t_value_5 t_fault_6 t_place_7, arB G (t_a 0) 900 t_tape, oX1 p1_h p1_a p1_windows p1_washes p1_damp p1_heard p1_lines p1_hour p1_strings, arI G (p1_a 8) 8 p1_washPairs, arI G (p1_a 9) 8 p1_washHours] H := hP
    have hD : va_D A [oX3 t_h t_a t_taped t_length t_at_2 t_kind_3 t_start_4 t_value_5 t_fault_6 t_place_7, arB G (t_a 0) 900 t_tape, oX1 p1_h p1_a p1_windows p1_washes p1_damp p1_heard p1_lines p1_hour p1_strings, arI G (p1_a 8) 8 p1_washPairs, arI G (p1_a 9) 8 p1_washHours] := hD
    refine lv_istore_n (lv' := [(2, .int r_8), (0, .ref t_h), (1, .ref p1_h)]) hx hb dX3_readWash_26 rfl hl (by decide) rfl (fun ls hl => ?_)
    refine lv_aload_n hx hb dX3_readWash_27 rfl (lv_at hl 1 rfl) ?_
    refine lv_iconst (v := 0) hx hb dX3_readWash_28 (by decide) ?_
    refine lv_aload_n hx hb dX3_readWash_29 rfl (lv_at hl 2 rfl) ?_
    refine va_getN (D := G.1) (ci := 1) (v := .int p1_windows) (C := RX1) (T := TX1) (N := 12) hx hb hw inW1 hown hK.1 hP 2 rfl rfl 0 (by decide) ((nf_5 hK.2).use rfl) (fun _ h9 => h9) rfl dX3_readWash_30 ?_
    refine lv_iconst (v := 1) hx hb dX3_readWash_33 (by decide) ?_
    refine lv_isub hx hb dX3_readWash_34 ?_
    obtain ⟨r_16, t_at_10, t_kind_11, t_start_12, t_value_13, t_fault_14, t_place_15, hc_17, hf⟩ := bd7_in hf
    refine wcI (w1 := [oX3 t_h t_a t_taped t_length t_at_10 t_kind_11 t_start_12 t_value_13 t_fault_14 t_place_15, arB G (t_a 0) 900 t_tape]) (va_runV (As := [.int 0, .int (p1_windows - 1)]) (rest := []) ⟨hx, hb, hml, hown, hw⟩ ((ctX3_readNumber l G t_h t_a t_tape t_taped t_length t_at_2 t_kind_3 t_start_4 t_value_5 t_fault_6 t_place_7 0 (p1_windows - 1) _ _ _ _ _ _ _ hc_17) _) (kV hw calX3_readNumber kw_10_22 rfl rfl ⟨Nat.le_of_ble_eq_true rfl, Nat.le_of_ble_eq_true rfl⟩) (wpV (hP.sub (ws' := [oX3 t_h t_a t_taped t_length t_at_2 t_kind_3 t_start_4 t_value_5 t_fault_6 t_place_7, arB G (t_a 0) 900 t_tape]) [0, 1] rfl) (hD.sub (ws' := [oX3 t_h t_a t_taped t_length t_at_2 t_kind_3 t_start_4 t_value_5 t_fault_6 t_place_7, arB G (t_a 0) 900 t_tape]) [0, 1] (by decide) rfl) hK (ci := 3) (q0 := 0) rfl rfl) rfl rfl hl.1 rfl (lv_room (Nat.le_of_ble_eq_true rfl)) dX3_readWash_35 ⟨Nat.zero_le _, Nat.zero_le _⟩) hS hA hP hD [0, 1] rfl rfl (fun H locs hP hD hS => ?_)
    have hP : va_P G.1 vwCl [oX3 t_h t_a t_taped t_length t_at_10 t_kind_11 t_start_12 t_value_13 t_fault_14 t_place_15, arB G (t_a 0) 900 t_tape, oX1 p1_h p1_a p1_windows p1_washes p1_damp p1_heard p1_lines p1_hour p1_strings, arI G (p1_a 8) 8 p1_washPairs, arI G (p1_a 9) 8 p1_washHours] H := hP
    have hD : va_D A [oX3 t_h t_a t_taped t_length t_at_10 t_kind_11 t_start_12 t_value_13 t_fault_14 t_place_15, arB G (t_a 0) 900 t_tape, oX1 p1_h p1_a p1_windows p1_washes p1_damp p1_heard p1_lines p1_hour p1_strings, arI G (p1_a 8) 8 p1_washPairs, arI G (p1_a 9) 8 p1_washHours] := hD
    refine lv_istore_n (lv' := [(3, .int r_16), (2, .int r_8), (0, .ref t_h), (1, .ref p1_h)]) hx hb dX3_readWash_38 rfl hl (by decide) rfl (fun ls hl => ?_)
    refine lv_aload_n hx hb dX3_readWash_39 rfl (lv_at hl 2 rfl) ?_
    refine lv_aload_n hx hb dX3_readWash_40 rfl (lv_at hl 3 rfl) ?_
    refine lv_iload_n hx hb dX3_readWash_41 rfl (lv_at hl 1 rfl) ?_
    refine lv_iload_n hx hb dX3_readWash_42 rfl (lv_at hl 0 rfl) ?_
    refine lv_iconst (v := 2) hx hb dX3_readWash_43 (by decide) ?_
    obtain ⟨t_fault_18, t_place_19, hc_20, hf⟩ := bd2_in hf
    refine wcV (w1 := [oX3 t_h t_a t_taped t_length t_at_10 t_kind_11 t_start_12 t_value_13 t_fault_18 t_place_19, oX1 p1_h p1_a p1_windows p1_washes p1_damp p1_heard p1_lines p1_hour p1_strings]) (va_runV (As := [.ref p1_h, .int r_8, .int r_16, .int 2]) (rest := []) ⟨hx, hb, hml, hown, hw⟩ ((ctX3_wantSteps l G t_h t_a p1_h p1_a t_taped t_length t_at_10 t_kind_11 t_start_12 t_value_13 t_fault_14 t_place_15 p1_windows p1_washes p1_damp p1_heard p1_lines p1_hour p1_strings r_8 r_16 2 _ _ hc_20) _) (kV hw calX3_wantSteps kw_11_18 rfl rfl ⟨Nat.le_of_ble_eq_true rfl, Nat.le_of_ble_eq_true rfl⟩) (wpV (hP.sub (ws' := [oX3 t_h t_a t_taped t_length t_at_10 t_kind_11 t_start_12 t_value_13 t_fault_14 t_place_15, oX1 p1_h p1_a p1_windows p1_washes p1_damp p1_heard p1_lines p1_hour p1_strings]) [0, 2] rfl) (hD.sub (ws' := [oX3 t_h t_a t_taped t_length t_at_10 t_kind_11 t_start_12 t_value_13 t_fault_14 t_place_15, oX1 p1_h p1_a p1_windows p1_washes p1_damp p1_heard p1_lines p1_hour p1_strings]) [0, 2] (by decide) rfl) hK (ci := 3) (q0 := 0) rfl rfl) rfl rfl hl.1 rfl (lv_room (Nat.le_of_ble_eq_true rfl)) dX3_readWash_44 ⟨Nat.zero_le _, Nat.zero_le _⟩) hS hA hP hD [0, 2] rfl rfl (fun H locs hP hD hS => ?_)
    have hP : va_P G.1 vwCl [oX3 t_h t_a t_taped t_length t_at_10 t_kind_11 t_start_12 t_value_13 t_fault_18 t_place_19, arB G (t_a 0) 900 t_tape, oX1 p1_h p1_a p1_windows p1_washes p1_damp p1_heard p1_lines p1_hour p1_strings, arI G (p1_a 8) 8 p1_washPairs, arI G (p1_a 9) 8 p1_washHours] H := hP
    have hD : va_D A [oX3 t_h t_a t_taped t_length t_at_10 t_kind_11 t_start_12 t_value_13 t_fault_18 t_place_19, arB G (t_a 0) 900 t_tape, oX1 p1_h p1_a p1_windows p1_washes p1_damp p1_heard p1_lines p1_hour p1_strings, arI G (p1_a 8) 8 p1_washPairs, arI G (p1_a 9) 8 p1_washHours] := hD
    refine lv_aload_n hx hb dX3_readWash_47 rfl (lv_at hl 2 rfl) ?_
    refine lv_iconst (v := 0) hx hb dX3_readWash_48 (by decide) ?_
    refine lv_sipush (v := 4095) hx hb dX3_readWash_49 (by decide) ?_
    obtain ⟨r_27, t_at_21, t_kind_22, t_start_23, t_value_24, t_fault_25, t_place_26, hc_28, hf⟩ := bd7_in hf
    refine wcI (w1 := [oX3 t_h t_a t_taped t_length t_at_21 t_kind_22 t_start_23 t_value_24 t_fault_25 t_place_26, arB G (t_a 0) 900 t_tape]) (va_runV (As := [.int 0, .int 4095]) (rest := []) ⟨hx, hb, hml, hown, hw⟩ ((ctX3_readNumber l G t_h t_a t_tape t_taped t_length t_at_10 t_kind_11 t_start_12 t_value_13 t_fault_18 t_place_19 0 4095 _ _ _ _ _ _ _ hc_28) _) (kV hw calX3_readNumber kw_10_22 rfl rfl ⟨Nat.le_of_ble_eq_true rfl, Nat.le_of_ble_eq_true rfl⟩) (wpV (hP.sub (ws' := [oX3 t_h t_a t_taped t_length t_at_10 t_kind_11 t_start_12 t_value_13 t_fault_18 t_place_19, arB G (t_a 0) 900 t_tape]) [0, 1] rfl) (hD.sub (ws' := [oX3 t_h t_a t_taped t_length t_at_10 t_kind_11 t_start_12 t_value_13 t_fault_18 t_place_19, arB G (t_a 0) 900 t_tape]) [0, 1] (by decide) rfl) hK (ci := 3) (q0 := 0) rfl rfl) rfl rfl hl.1 rfl (lv_room (Nat.le_of_ble_eq_true rfl)) dX3_readWash_52 ⟨Nat.zero_le _, Nat.zero_le _⟩) hS hA hP hD [0, 1] rfl rfl (fun H locs hP hD hS => ?_)
    have hP : va_P G.1 vwCl [oX3 t_h t_a t_taped t_length t_at_21 t_kind_22 t_start_23 t_value_24 t_fault_25 t_place_26, arB G (t_a 0) 900 t_tape, oX1 p1_h p1_a p1_windows p1_washes p1_damp p1_heard p1_lines p1_hour p1_strings, arI G (p1_a 8) 8 p1_washPairs, arI G (p1_a 9) 8 p1_washHours] H := hP
    have hD : va_D A [oX3 t_h t_a t_taped t_length t_at_21 t_kind_22 t_start_23 t_value_24 t_fault_25 t_place_26, arB G (t_a 0) 900 t_tape, oX1 p1_h p1_a p1_windows p1_washes p1_damp p1_heard p1_lines p1_hour p1_strings, arI G (p1_a 8) 8 p1_washPairs, arI G (p1_a 9) 8 p1_washHours] := hD
    refine lv_istore (lv' := [(4, .int r_27), (3, .int r_16), (2, .int r_8), (0, .ref t_h), (1, .ref p1_h)]) hx hb dX3_readWash_55 hl (by decide) rfl (fun ls hl => ?_)
    refine lv_aload_n hx hb dX3_readWash_57 rfl (lv_at hl 3 rfl) ?_
    obtain ⟨t_at_29, t_kind_30, t_start_31, t_value_32, t_fault_33, t_place_34, hc_35, hf⟩ := bd6_in hf
    refine wcV (w1 := [oX3 t_h t_a t_taped t_length t_at_29 t_kind_30 t_start_31 t_value_32 t_fault_33 t_place_34, arB G (t_a 0) 900 t_tape]) (va_runV (As := []) (rest := []) ⟨hx, hb, hml, hown, hw⟩ ((ctX3_readSemicolon l G t_h t_a t_tape t_taped t_length t_at_21 t_kind_22 t_start_23 t_value_24 t_fault_25 t_place_26 _ _ _ _ _ _ hc_35) _) (kV hw calX3_readSemicolon kw_11_2 rfl rfl ⟨Nat.le_of_ble_eq_true rfl, Nat.le_of_ble_eq_true rfl⟩) (wpV (hP.sub (ws' := [oX3 t_h t_a t_taped t_length t_at_21 t_kind_22 t_start_23 t_value_24 t_fault_25 t_place_26, arB G (t_a 0) 900 t_tape]) [0, 1] rfl) (hD.sub (ws' := [oX3 t_h t_a t_taped t_length t_at_21 t_kind_22 t_start_23 t_value_24 t_fault_25 t_place_26, arB G (t_a 0) 900 t_tape]) [0, 1] (by decide) rfl) hK (ci := 3) (q0 := 0) rfl rfl) rfl rfl hl.1 rfl (lv_room (Nat.le_of_ble_eq_true rfl)) dX3_readWash_58 ⟨Nat.zero_le _, Nat.zero_le _⟩) hS hA hP hD [0, 1] rfl rfl (fun H locs hP hD hS => ?_)
    have hP : va_P G.1 vwCl [oX3 t_h t_a t_taped t_length t_at_29 t_kind_30 t_start_31 t_value_32 t_fault_33 t_place_34, arB G (t_a 0) 900 t_tape, oX1 p1_h p1_a p1_windows p1_washes p1_damp p1_heard p1_lines p1_hour p1_strings, arI G (p1_a 8) 8 p1_washPairs, arI G (p1_a 9) 8 p1_washHours] H := hP
    have hD : va_D A [oX3 t_h t_a t_taped t_length t_at_29 t_kind_30 t_start_31 t_value_32 t_fault_33 t_place_34, arB G (t_a 0) 900 t_tape, oX1 p1_h p1_a p1_windows p1_washes p1_damp p1_heard p1_lines p1_hour p1_strings, arI G (p1_a 8) 8 p1_washPairs, arI G (p1_a 9) 8 p1_washHours] := hD
    refine lv_aload_n hx hb dX3_readWash_61 rfl (lv_at hl 3 rfl) ?_
    refine va_get (D := G.1) (ci := 3) (v := .int t_fault_33) (C := RX3) (T := TX3) (N := 9) hx hb hw inW3 hown hK.1 hP 0 rfl rfl 7 (by decide) (hw _ kw_7_13) (fun _ h9 => h9) rfl dX3_readWash_62 ?_
    refine lv_if_ne (tgt := 103) hx hb dX3_readWash_65 (by decide) (fun c_36 => ?_) (fun c_36 => ?_)
    · have hf := iq c_36 hf
      exact hRet _ _ _ _ _ _ _ _ _ _ _ _ _ hf hP hS dX3_readWash_103
    · have hf := ip c_36 hf
      refine lv_aload_n hx hb dX3_readWash_68 rfl (lv_at hl 4 rfl) ?_
      refine va_getN (D := G.1) (ci := 1) (v := .ref (p1_a 8)) (C := RX1) (T := TX1) (N := 12) hx hb hw inW1 hown hK.1 hP 2 rfl rfl 8 (by decide) ((nf_21 hK.2).use rfl) (fun _ h9 => h9) rfl dX3_readWash_69 ?_
      refine lv_aload_n hx hb dX3_readWash_72 rfl (lv_at hl 4 rfl) ?_
      refine va_getN (D := G.1) (ci := 1) (v := .int p1_washes) (C := RX1) (T := TX1) (N := 12) hx hb hw inW1 hown hK.1 hP 2 rfl rfl 1 (by decide) ((nf_7 hK.2).use rfl) (fun _ h9 => h9) rfl dX3_readWash_73 ?_
      refine lv_iload_n hx hb dX3_readWash_76 rfl (lv_at hl 2 rfl) ?_
      refine lv_iload_n hx hb dX3_readWash_77 rfl (lv_at hl 1 rfl) ?_
      obtain ⟨r_37, hc_38, hf⟩ := bd1_in hf
      refine rcI (va_runSN (As := [.int r_8, .int r_16]) (rest := [.int p1_washes, .ref (p1_a 8)]) ⟨hx, hb, hml, hown, hw⟩ ((ctX7_pairOf l G r_8 r_16 _ hc_38) _) (kSN hw calX7_pairOf (nm_6 hK.2) rfl rfl ⟨Nat.le_of_ble_eq_true rfl, Nat.le_of_ble_eq_true rfl⟩) (rpS (hP.sub (ws' := []) [] rfl) hK) rfl rfl hl.1 rfl (lv_room (Nat.le_of_ble_eq_true rfl)) dX3_readWash_78 ⟨Nat.zero_le _, Nat.zero_le _⟩) hS hA hP (fun H locs hP hS => ?_)
      obtain ⟨hi_40, hf⟩ := wrI_in hf
      refine xiast hx hb hK.1 hP hD hS 3 0 rfl rfl hi_40 dX3_readWash_81 (fun p1_washPairs_39 H locs ep1_washPairs_39 hP hD hS => ?_)
      have hf := hf p1_washPairs_39 ep1_washPairs_39
      have hP : va_P G.1 vwCl [oX3 t_h t_a t_taped t_length t_at_29 t_kind_30 t_start_31 t_value_32 t_fault_33 t_place_34, arB G (t_a 0) 900 t_tape, oX1 p1_h p1_a p1_windows p1_washes p1_damp p1_heard p1_lines p1_hour p1_strings, arI G (p1_a 8) 8 p1_washPairs_39, arI G (p1_a 9) 8 p1_washHours] H := hP
      have hD : va_D A [oX3 t_h t_a t_taped t_length t_at_29 t_kind_30 t_start_31 t_value_32 t_fault_33 t_place_34, arB G (t_a 0) 900 t_tape, oX1 p1_h p1_a p1_windows p1_washes p1_damp p1_heard p1_lines p1_hour p1_strings, arI G (p1_a 8) 8 p1_washPairs_39, arI G (p1_a 9) 8 p1_washHours] := hD
      refine lv_aload_n hx hb dX3_readWash_82 rfl (lv_at hl 4 rfl) ?_
      refine va_getN (D := G.1) (ci := 1) (v := .ref (p1_a 9)) (C := RX1) (T := TX1) (N := 12) hx hb hw inW1 hown hK.1 hP 2 rfl rfl 9 (by decide) ((nf_22 hK.2).use rfl) (fun _ h9 => h9) rfl dX3_readWash_83 ?_
      refine lv_aload_n hx hb dX3_readWash_86 rfl (lv_at hl 4 rfl) ?_
      refine va_getN (D := G.1) (ci := 1) (v := .int p1_washes) (C := RX1) (T := TX1) (N := 12) hx hb hw inW1 hown hK.1 hP 2 rfl rfl 1 (by decide) ((nf_7 hK.2).use rfl) (fun _ h9 => h9) rfl dX3_readWash_87 ?_
      refine lv_iload hx hb dX3_readWash_90 (lv_at hl 0 rfl) ?_
      obtain ⟨hi_42, hf⟩ := wrI_in hf
      refine xiast hx hb hK.1 hP hD hS 4 0 rfl rfl hi_42 dX3_readWash_92 (fun p1_washHours_41 H locs ep1_washHours_41 hP hD hS => ?_)
      have hf := hf p1_washHours_41 ep1_washHours_41
      have hP : va_P G.1 vwCl [oX3 t_h t_a t_taped t_length t_at_29 t_kind_30 t_start_31 t_value_32 t_fault_33 t_place_34, arB G (t_a 0) 900 t_tape, oX1 p1_h p1_a p1_windows p1_washes p1_damp p1_heard p1_lines p1_hour p1_strings, arI G (p1_a 8) 8 p1_washPairs_39, arI G (p1_a 9) 8 p1_washHours_41] H := hP
      have hD : va_D A [oX3 t_h t_a t_taped t_length t_at_29 t_kind_30 t_start_31 t_value_32 t_fault_33 t_place_34, arB G (t_a 0) 900 t_tape, oX1 p1_h p1_a p1_windows p1_washes p1_damp p1_heard p1_lines p1_hour p1_strings, arI G (p1_a 8) 8 p1_washPairs_39, arI G (p1_a 9) 8 p1_washHours_41] := hD
      refine lv_aload_n hx hb dX3_readWash_93 rfl (lv_at hl 4 rfl) ?_
      refine lv_dup hx hb dX3_readWash_94 rfl ?_
      refine va_getN (D := G.1) (ci := 1) (v := .int p1_washes) (C := RX1) (T := TX1) (N := 12) hx hb hw inW1 hown hK.1 hP 2 rfl rfl 1 (by decide) ((nf_7 hK.2).use rfl) (fun _ h9 => h9) rfl dX3_readWash_95 ?_
      refine lv_iconst (v := 1) hx hb dX3_readWash_98 (by decide) ?_
      refine lv_iadd hx hb dX3_readWash_99 ?_
      refine lv_topi (fun y_43 ey_43 => ?_)
      have hf := bnd_all hf y_43 ey_43
      refine va_putN (D := G.1) (ci := 1) (v := .int y_43) (ty := .int) (C := RX1) (T := TX1) (N := 12) hx hb hw inW1 tyX1 tyX1_ok nmX1 hown hK.1 hP hD hS 2 rfl rfl 1 (by decide) ((nf_7 hK.2).use rfl) (fun _ h9 => h9) rfl (by decide +kernel) rfl rfl (Nat.le_of_ble_eq_true rfl) dX3_readWash_100 (fun H locs hP hD hS => ?_)
      have hP : va_P G.1 vwCl [oX3 t_h t_a t_taped t_length t_at_29 t_kind_30 t_start_31 t_value_32 t_fault_33 t_place_34, arB G (t_a 0) 900 t_tape, oX1 p1_h p1_a p1_windows y_43 p1_damp p1_heard p1_lines p1_hour p1_strings, arI G (p1_a 8) 8 p1_washPairs_39, arI G (p1_a 9) 8 p1_washHours_41] H := hP
      have hD : va_D A [oX3 t_h t_a t_taped t_length t_at_29 t_kind_30 t_start_31 t_value_32 t_fault_33 t_place_34, arB G (t_a 0) 900 t_tape, oX1 p1_h p1_a p1_windows y_43 p1_damp p1_heard p1_lines p1_hour p1_strings, arI G (p1_a 8) 8 p1_washPairs_39, arI G (p1_a 9) 8 p1_washHours_41] := hD
      exact hRet _ _ _ _ _ _ _ _ _ _ _ _ _ hf hP hS dX3_readWash_103
  · have hf := iq c_1 hf
    refine lv_aload_n hx hb dX3_readWash_9 rfl (lv_at hl 0 rfl) ?_
    refine lv_iconst (v := 4) hx hb dX3_readWash_10 (by decide) ?_
    obtain ⟨t_fault_44, t_place_45, hc_46, hf⟩ := bd2_in hf
    refine wcV (w1 := [oX3 t_h t_a t_taped t_length t_at t_kind t_start t_value t_fault_44 t_place_45]) (va_runV (As := [.int 4]) (rest := []) ⟨hx, hb, hml, hown, hw⟩ ((ctX3_refuse l G t_h t_a t_taped t_length t_at t_kind t_start t_value t_fault t_place 4 _ _ hc_46) _) (kV hw calX3_refuse kw_8_1 rfl rfl ⟨Nat.le_of_ble_eq_true rfl, Nat.le_of_ble_eq_true rfl⟩) (wpV (hP.sub (ws' := [oX3 t_h t_a t_taped t_length t_at t_kind t_start t_value t_fault t_place]) [0] rfl) (hD.sub (ws' := [oX3 t_h t_a t_taped t_length t_at t_kind t_start t_value t_fault t_place]) [0] (by decide) rfl) hK (ci := 3) (q0 := 0) rfl rfl) rfl rfl hl.1 rfl (lv_room (Nat.le_of_ble_eq_true rfl)) dX3_readWash_11 ⟨Nat.zero_le _, Nat.zero_le _⟩) hS hA hP hD [0] rfl rfl (fun H locs hP hD hS => ?_)
    have hP : va_P G.1 vwCl [oX3 t_h t_a t_taped t_length t_at t_kind t_start t_value t_fault_44 t_place_45, arB G (t_a 0) 900 t_tape, oX1 p1_h p1_a p1_windows p1_washes p1_damp p1_heard p1_lines p1_hour p1_strings, arI G (p1_a 8) 8 p1_washPairs, arI G (p1_a 9) 8 p1_washHours] H := hP
    have hD : va_D A [oX3 t_h t_a t_taped t_length t_at t_kind t_start t_value t_fault_44 t_place_45, arB G (t_a 0) 900 t_tape, oX1 p1_h p1_a p1_windows p1_washes p1_damp p1_heard p1_lines p1_hour p1_strings, arI G (p1_a 8) 8 p1_washPairs, arI G (p1_a 9) 8 p1_washHours] := hD
    exact hRet _ _ _ _ _ _ _ _ _ _ _ _ _ hf hP hS dX3_readWash_14
theorem calX7_lesser : CalS yX7_lesser cX7_lesser 1 (some .int) 1 := ⟨⟨kw_12_21, kw_1_2, by decide +kernel⟩, kw_12_20⟩
set_option maxHeartbeats 8000000 in
set_option maxRecDepth 100000 in
theorem ctX7_lesser (l : Launch) (G : GT) (v0 : Int32) (r : Int32) (hf : fX7_lesser v0 = some r) : RdI l yX7_lesser (Cond.code yX7_lesser cX7_lesser 1 (some .int)) { frames := 0, cells := 0, slots := 0, locals := 0 } G [.int v0] [] r := by
  intro sz
  refine Met.ofW (cc := cX7_lesser) (maxL := 1) (ret := (some .int)) (by decide) rfl ?_
  intro p e s m args below meth c s₁ B hml hv
  obtain ⟨hargs, hsz, hP, hK⟩ := hv
  subst hsz
  obtain ⟨hx, hb, hr, hw, hown, hlk⟩ := fwB B
  refine fw_enter hargs (Nat.le_of_ble_eq_true rfl) (fun ls hl => ?_)
  have hl : lv_has ls 1 [(0, .int v0)] := hl
  refine fw_Q (P := fun Q => ∃ A : Nat → Prop, va_S A s.heap s.heap [] ∧ (∀ q, s.heap.size ≤ q → A q) ∧ ∀ (v : Int32) (H : Heap) (locs : List Loc) (pc : Nat) (ls : Array Slot), some v = some r → va_S A s.heap H locs → decode cX7_lesser pc = .ok (.ireturn, 1) → W p l e ({ frames := 0, cells := 0, slots := 0, locals := 0 } : Room) s m args below meth c H locs 0 0 Q (F0 m pc ls [.int v])) ⟨fun q => s.heap.size ≤ q, va_S.rf, fun q h => h, fun v H locs pc ls h hS hd => retRI hx hb hr hlk hS h hd⟩ ?_
  rintro Q ⟨A, hS, hA, hRet⟩
  change W p l e ({ frames := 0, cells := 0, slots := 0, locals := 0 } : Room) s m args below meth c _ _ 0 0 Q _
  unfold fX7_lesser at hf
  refine lv_iload_n hx hb dX7_lesser_0 rfl (lv_at hl 0 rfl) ?_
  refine lv_bipush (v := 20) hx hb dX7_lesser_1 (by decide) ?_
  refine lv_idiv hx hb dX7_lesser_3 (by decide) ?_
  exact hRet _ _ _ _ _ hf hS dX7_lesser_4
theorem calX7_greater : CalS yX7_greater cX7_greater 1 (some .int) 1 := ⟨⟨kw_12_23, kw_1_2, by decide +kernel⟩, kw_12_22⟩
set_option maxHeartbeats 8000000 in
set_option maxRecDepth 100000 in
theorem ctX7_greater (l : Launch) (G : GT) (v0 : Int32) (r : Int32) (hf : fX7_greater v0 = some r) : RdI l yX7_greater (Cond.code yX7_greater cX7_greater 1 (some .int)) { frames := 0, cells := 0, slots := 0, locals := 0 } G [.int v0] [] r := by
  intro sz
  refine Met.ofW (cc := cX7_greater) (maxL := 1) (ret := (some .int)) (by decide) rfl ?_
  intro p e s m args below meth c s₁ B hml hv
  obtain ⟨hargs, hsz, hP, hK⟩ := hv
  subst hsz
  obtain ⟨hx, hb, hr, hw, hown, hlk⟩ := fwB B
  refine fw_enter hargs (Nat.le_of_ble_eq_true rfl) (fun ls hl => ?_)
  have hl : lv_has ls 1 [(0, .int v0)] := hl
  refine fw_Q (P := fun Q => ∃ A : Nat → Prop, va_S A s.heap s.heap [] ∧ (∀ q, s.heap.size ≤ q → A q) ∧ ∀ (v : Int32) (H : Heap) (locs : List Loc) (pc : Nat) (ls : Array Slot), some v = some r → va_S A s.heap H locs → decode cX7_greater pc = .ok (.ireturn, 1) → W p l e ({ frames := 0, cells := 0, slots := 0, locals := 0 } : Room) s m args below meth c H locs 0 0 Q (F0 m pc ls [.int v])) ⟨fun q => s.heap.size ≤ q, va_S.rf, fun q h => h, fun v H locs pc ls h hS hd => retRI hx hb hr hlk hS h hd⟩ ?_
  rintro Q ⟨A, hS, hA, hRet⟩
  change W p l e ({ frames := 0, cells := 0, slots := 0, locals := 0 } : Room) s m args below meth c _ _ 0 0 Q _
  unfold fX7_greater at hf
  refine lv_iload_n hx hb dX7_greater_0 rfl (lv_at hl 0 rfl) ?_
  refine lv_bipush (v := 20) hx hb dX7_greater_1 (by decide) ?_
  refine lv_irem hx hb dX7_greater_3 (by decide) ?_
  exact hRet _ _ _ _ _ hf hS dX7_greater_4
theorem calX1_hasPair : CalV yX1_hasPair cX1_hasPair 4 (some .boolean) 1 := ⟨⟨kw_12_18, kw_1_19, by decide +kernel⟩, kw_12_16, kw_12_17⟩
set_option maxHeartbeats 8000000 in
set_option maxRecDepth 100000 in
theorem ctX1_hasPair (l : Launch) (G : GT) (t_h : Nat) (t_a : Nat → Nat) (t_windows : Int32) (t_washes : Int32) (t_damp : Int32) (t_heard : Int32) (t_lines : Int32) (t_hour : Int32) (t_strings : Int32) (v1 : Int64) (r : Int32) (hf : fX1_hasPair t_windows v1 = some r) : RdI l yX1_hasPair (Cond.code yX1_hasPair cX1_hasPair 4 (some .boolean)) { frames := 1, cells := 0, slots := 0, locals := 20 } G [.ref t_h, .long v1] [oX1 t_h t_a t_windows t_washes t_damp t_heard t_lines t_hour t_strings] r := by
  intro sz
  refine Met.ofW (cc := cX1_hasPair) (maxL := 4) (ret := (some .boolean)) (by decide) rfl ?_
  intro p e s m args below meth c s₁ B hml hv
  obtain ⟨hargs, hsz, hP, hK⟩ := hv
  subst hsz
  obtain ⟨hx, hb, hr, hw, hown, hlk⟩ := fwB B
  refine fw_enter hargs (Nat.le_of_ble_eq_true rfl) (fun ls hl => ?_)
  have hl : lv_has ls 4 [(0, .ref t_h), (1, .long v1)] := hl
  refine fw_Q (P := fun Q => ∃ A : Nat → Prop, va_S A s.heap s.heap [] ∧ (∀ q, s.heap.size ≤ q → A q) ∧ ∀ (v : Int32) (H : Heap) (locs : List Loc) (pc : Nat) (ls : Array Slot), some v = some r → va_S A s.heap H locs → narrow .boolean (.int v) = .int v → decode cX1_hasPair pc = .ok (.ireturn, 1) → W p l e ({ frames := 1, cells := 0, slots := 0, locals := 20 } : Room) s m args below meth c H locs 0 0 Q (F0 m pc ls [.int v])) ⟨fun q => s.heap.size ≤ q, va_S.rf, fun q h => h, fun v H locs pc ls h hS hn hd => retRZ hx hb hr hlk hS hn h hd⟩ ?_
  rintro Q ⟨A, hS, hA, hRet⟩
  change W p l e ({ frames := 1, cells := 0, slots := 0, locals := 20 } : Room) s m args below meth c _ _ 0 0 Q _
  unfold fX1_hasPair at hf
  refine lv_lload_n hx hb dX1_hasPair_0 rfl (lv_at hl 1 rfl) ?_
  refine lv_lconst (v := 0) hx hb dX1_hasPair_1 (by decide) ?_
  refine W.lcmp hx hb dX1_hasPair_2 ?_
  refine lv_if_lt (tgt := 14) hx hb dX1_hasPair_3 (by decide) (fun c_1 => ?_) (fun c_1 => ?_)
  · have hf := ip c_1 hf
    refine lv_iconst (v := 0) hx hb dX1_hasPair_14 (by decide) ?_
    exact hRet _ _ _ _ _ hf hS (by decide +kernel) dX1_hasPair_15
  · have hf := iq c_1 hf
    refine lv_lload_n hx hb dX1_hasPair_6 rfl (lv_at hl 1 rfl) ?_
    refine lv_ldc2 hx hb hown (hw _ kw_12_19) dX1_hasPair_7 ?_
    refine W.lcmp hx hb dX1_hasPair_10 ?_
    refine lv_if_lt (tgt := 16) hx hb dX1_hasPair_11 (by decide) (fun c_2 => ?_) (fun c_2 => ?_)
    · have hf := ip c_2 hf
      refine lv_lload_n hx hb dX1_hasPair_16 rfl (lv_at hl 1 rfl) ?_
      refine lv_l2i hx hb dX1_hasPair_17 rfl ?_
      refine lv_topi (fun y_3 ey_3 => ?_)
      have hf := bnd_all hf y_3 ey_3
      refine lv_istore_n (lv' := [(3, .int y_3), (0, .ref t_h), (1, .long v1)]) hx hb dX1_hasPair_18 rfl hl (by decide) rfl (fun ls hl => ?_)
      refine lv_iload_n hx hb dX1_hasPair_19 rfl (lv_at hl 0 rfl) ?_
      obtain ⟨r_4, hc_5, hf⟩ := bd1_in hf
      refine rcI (va_runSN (As := [.int y_3]) (rest := []) ⟨hx, hb, hml, hown, hw⟩ ((ctX7_lesser l G y_3 _ hc_5) _) (kSN hw calX7_lesser (nm_7 hK.2) rfl rfl ⟨Nat.le_of_ble_eq_true rfl, Nat.le_of_ble_eq_true rfl⟩) (rpS (hP.sub (ws' := []) [] rfl) hK) rfl rfl hl.1 rfl (lv_room (Nat.le_of_ble_eq_true rfl)) dX1_hasPair_20 ⟨Nat.zero_le _, Nat.zero_le _⟩) hS hA hP (fun H locs hP hS => ?_)
      refine lv_iload_n hx hb dX1_hasPair_23 rfl (lv_at hl 0 rfl) ?_
      obtain ⟨r_6, hc_7, hf⟩ := bd1_in hf
      refine rcI (va_runSN (As := [.int y_3]) (rest := [.int r_4]) ⟨hx, hb, hml, hown, hw⟩ ((ctX7_greater l G y_3 _ hc_7) _) (kSN hw calX7_greater (nm_8 hK.2) rfl rfl ⟨Nat.le_of_ble_eq_true rfl, Nat.le_of_ble_eq_true rfl⟩) (rpS (hP.sub (ws' := []) [] rfl) hK) rfl rfl hl.1 rfl (lv_room (Nat.le_of_ble_eq_true rfl)) dX1_hasPair_24 ⟨Nat.zero_le _, Nat.zero_le _⟩) hS hA hP (fun H locs hP hS => ?_)
      refine lv_icmp_ge (tgt := 45) hx hb dX1_hasPair_27 (by decide) (fun c_8 => ?_) (fun c_8 => ?_)
      · have hf := ip c_8 hf
        refine lv_iconst (v := 0) hx hb dX1_hasPair_45 (by decide) ?_
        exact hRet _ _ _ _ _ hf hS (by decide +kernel) dX1_hasPair_46
      · have hf := iq c_8 hf
        refine lv_iload_n hx hb dX1_hasPair_30 rfl (lv_at hl 0 rfl) ?_
        obtain ⟨r_9, hc_10, hf⟩ := bd1_in hf
        refine rcI (va_runSN (As := [.int y_3]) (rest := []) ⟨hx, hb, hml, hown, hw⟩ ((ctX7_greater l G y_3 _ hc_10) _) (kSN hw calX7_greater (nm_8 hK.2) rfl rfl ⟨Nat.le_of_ble_eq_true rfl, Nat.le_of_ble_eq_true rfl⟩) (rpS (hP.sub (ws' := []) [] rfl) hK) rfl rfl hl.1 rfl (lv_room (Nat.le_of_ble_eq_true rfl)) dX1_hasPair_31 ⟨Nat.zero_le _, Nat.zero_le _⟩) hS hA hP (fun H locs hP hS => ?_)
        refine lv_aload_n hx hb dX1_hasPair_34 rfl (lv_at hl 1 rfl) ?_
        refine va_get (D := G.1) (ci := 1) (v := .int t_windows) (C := RX1) (T := TX1) (N := 12) hx hb hw inW1 hown hK.1 hP 0 rfl rfl 0 (by decide) (hw _ kw_3_17) (fun _ h9 => h9) rfl dX1_hasPair_35 ?_
        refine lv_icmp_ge (tgt := 45) hx hb dX1_hasPair_38 (by decide) (fun c_11 => ?_) (fun c_11 => ?_)
        · have hf := ip c_11 hf
          refine lv_iconst (v := 0) hx hb dX1_hasPair_45 (by decide) ?_
          exact hRet _ _ _ _ _ hf hS (by decide +kernel) dX1_hasPair_46
        · have hf := iq c_11 hf
          refine lv_iconst (v := 1) hx hb dX1_hasPair_41 (by decide) ?_
          refine lv_goto (tgt := 46) hx hb dX1_hasPair_42 (by decide) ?_
          exact hRet _ _ _ _ _ hf hS (by decide +kernel) dX1_hasPair_46
    · have hf := iq c_2 hf
      refine lv_iconst (v := 0) hx hb dX1_hasPair_14 (by decide) ?_
      exact hRet _ _ _ _ _ hf hS (by decide +kernel) dX1_hasPair_15
theorem calX1_indexOf : CalV yX1_indexOf cX1_indexOf 3 (some .int) 1 := ⟨⟨kw_13_3, kw_1_19, by decide +kernel⟩, kw_13_1, kw_13_2⟩
set_option maxHeartbeats 8000000 in
set_option maxRecDepth 100000 in
theorem ctX1_indexOf (l : Launch) (G : GT) (t_h : Nat) (t_a : Nat → Nat) (t_windows : Int32) (t_washes : Int32) (t_damp : Int32) (t_heard : Int32) (t_lines : Int32) (t_hour : Int32) (t_strings : Int32) (t_pairs : Nat → Int32) (v1 : Int32) (r : Int32) (hf : fX1_indexOf t_strings t_pairs v1 = some r) : RdI l yX1_indexOf (Cond.code yX1_indexOf cX1_indexOf 3 (some .int)) { frames := 0, cells := 0, slots := 0, locals := 0 } G [.ref t_h, .int v1] [oX1 t_h t_a t_windows t_washes t_damp t_heard t_lines t_hour t_strings, arI G (t_a 10) 21 t_pairs] r := by
  intro sz
  refine Met.ofW (cc := cX1_indexOf) (maxL := 3) (ret := (some .int)) (by decide) rfl ?_
  intro p e s m args below meth c s₁ B hml hv
  obtain ⟨hargs, hsz, hP, hK⟩ := hv
  subst hsz
  obtain ⟨hx, hb, hr, hw, hown, hlk⟩ := fwB B
  refine fw_enter hargs (Nat.le_of_ble_eq_true rfl) (fun ls hl => ?_)
  have hl : lv_has ls 3 [(0, .ref t_h), (1, .int v1)] := hl
  refine fw_Q (P := fun Q => ∃ A : Nat → Prop, va_S A s.heap s.heap [] ∧ (∀ q, s.heap.size ≤ q → A q) ∧ ∀ (v : Int32) (H : Heap) (locs : List Loc) (pc : Nat) (ls : Array Slot), some v = some r → va_S A s.heap H locs → decode cX1_indexOf pc = .ok (.ireturn, 1) → W p l e ({ frames := 0, cells := 0, slots := 0, locals := 0 } : Room) s m args below meth c H locs 0 0 Q (F0 m pc ls [.int v])) ⟨fun q => s.heap.size ≤ q, va_S.rf, fun q h => h, fun v H locs pc ls h hS hd => retRI hx hb hr hlk hS h hd⟩ ?_
  rintro Q ⟨A, hS, hA, hRet⟩
  change W p l e ({ frames := 0, cells := 0, slots := 0, locals := 0 } : Room) s m args below meth c _ _ 0 0 Q _
  have L2 : ∀  (K : Option Int32) (n : Nat) (l2 : Int32) (H : Heap) (locs : List Loc) (ls : Array Slot), va_P G.1 vwCl [oX1 t_h t_a t_windows t_washes t_damp t_heard t_lines t_hour t_strings, arI G (t_a 10) 21 t_pairs] H → va_S A s.heap H locs → lv_has ls 3 [(0, .ref t_h), (1, .int v1), (2, .int l2)] → fX1_indexOf_2 v1 t_strings t_pairs K n l2 = some r → (∀  (H : Heap) (locs : List Loc) (ls : Array Slot), va_P G.1 vwCl [oX1 t_h t_a t_windows t_washes t_damp t_heard t_lines t_hour t_strings, arI G (t_a 10) 21 t_pairs] H → va_S A s.heap H locs → lv_has ls 3 [] → K = some r → W p l e ({ frames := 0, cells := 0, slots := 0, locals := 0 } : Room) s m args below meth c H locs 0 0 Q (F0 m 28 ls [])) → W p l e ({ frames := 0, cells := 0, slots := 0, locals := 0 } : Room) s m args below meth c H locs 0 0 Q (F0 m 2 ls []) := by
    intro  K n
    induction n with
    | zero => intro l2 H locs ls hP hS hl hf; rw [fX1_indexOf_2] at hf; cases hf
    | succ n ih =>
      intro l2 H locs ls hP hS hl hf hX
      rw [fX1_indexOf_2] at hf
      refine lv_iload_n hx hb dX1_indexOf_2 rfl (lv_at hl 2 rfl) ?_
      refine lv_aload_n hx hb dX1_indexOf_3 rfl (lv_at hl 0 rfl) ?_
      refine va_get (D := G.1) (ci := 1) (v := .int t_strings) (C := RX1) (T := TX1) (N := 12) hx hb hw inW1 hown hK.1 hP 0 rfl rfl 6 (by decide) (hw _ kw_3_23) (fun _ h9 => h9) rfl dX1_indexOf_4 ?_
      refine lv_icmp_ge (tgt := 28) hx hb dX1_indexOf_7 (by decide) (fun c_1 => ?_) (fun c_1 => ?_)
      · have hf := ip c_1 hf
        exact hX  _ _ _ hP hS (lv_sub hl [] rfl) hf
      · have hf := iq c_1 hf
        refine lv_aload_n hx hb dX1_indexOf_10 rfl (lv_at hl 0 rfl) ?_
        refine va_get (D := G.1) (ci := 1) (v := .ref (t_a 10)) (C := RX1) (T := TX1) (N := 12) hx hb hw inW1 hown hK.1 hP 0 rfl rfl 10 (by decide) (hw _ kw_3_11) (fun _ h9 => h9) rfl dX1_indexOf_11 ?_
        refine lv_iload_n hx hb dX1_indexOf_14 rfl (lv_at hl 2 rfl) ?_
        obtain ⟨hi_3, hf⟩ := rdI_in hf
        refine va_iald hx hb hK.1 hP 1 0 rfl rfl hi_3 dX1_indexOf_15 ?_
        refine lv_topi (fun x_2 ex_2 => ?_)
        have hf := hf x_2 ex_2
        refine lv_iload_n hx hb dX1_indexOf_16 rfl (lv_at hl 1 rfl) ?_
        refine lv_icmp_ne (tgt := 22) hx hb dX1_indexOf_17 (by decide) (fun c_4 => ?_) (fun c_4 => ?_)
        · have hf := iq c_4 hf
          refine lv_iinc (v := (l2 + 1)) (lv' := [(2, .int (l2 + 1)), (0, .ref t_h), (1, .int v1)]) hx hb dX1_indexOf_22 hl (k := 2) rfl (by rfl) (by decide) rfl (fun ls hl => ?_)
          refine lv_goto (tgt := 2) hx hb dX1_indexOf_25 (by decide) ?_
          exact ih _ _ _ _ hP hS (lv_sub hl [1, 2, 0] rfl) hf hX
        · have hf := ip c_4 hf
          refine lv_iload_n hx hb dX1_indexOf_20 rfl (lv_at hl 2 rfl) ?_
          exact hRet _ _ _ _ _ hf hS dX1_indexOf_21
  unfold fX1_indexOf at hf
  refine lv_iconst (v := 0) hx hb dX1_indexOf_0 (by decide) ?_
  refine lv_istore_n (lv' := [(2, .int 0), (0, .ref t_h), (1, .int v1)]) hx hb dX1_indexOf_1 rfl hl (by decide) rfl (fun ls hl => ?_)
  refine L2  _ _ _ _ _ _ hP hS (lv_sub hl [1, 2, 0] rfl) hf (fun  H locs ls hP hS hl hf => ?_)
  refine lv_iconst (v := (-1)) hx hb dX1_indexOf_28 (by decide) ?_
  exact hRet _ _ _ _ _ hf hS dX1_indexOf_29
theorem calX1_stringsAt : CalV yX1_stringsAt cX1_stringsAt 4 (some .int) 1 := ⟨⟨kw_13_7, kw_1_19, by decide +kernel⟩, kw_13_5, kw_13_6⟩
set_option maxHeartbeats 8000000 in
set_option maxRecDepth 100000 in
theorem ctX1_stringsAt (l : Launch) (G : GT) (t_h : Nat) (t_a : Nat → Nat) (t_windows : Int32) (t_washes : Int32) (t_damp : Int32) (t_heard : Int32) (t_lines : Int32) (t_hour : Int32) (t_strings : Int32) (t_pairs : Nat → Int32) (v1 : Int32) (r : Int32) (hf : fX1_stringsAt t_strings t_pairs v1 = some r) : RdI l yX1_stringsAt (Cond.code yX1_stringsAt cX1_stringsAt 4 (some .int)) { frames := 1, cells := 0, slots := 0, locals := 20 } G [.ref t_h, .int v1] [oX1 t_h t_a t_windows t_washes t_damp t_heard t_lines t_hour t_strings, arI G (t_a 10) 21 t_pairs] r := by
  intro sz
  refine Met.ofW (cc := cX1_stringsAt) (maxL := 4) (ret := (some .int)) (by decide) rfl ?_
  intro p e s m args below meth c s₁ B hml hv
  obtain ⟨hargs, hsz, hP, hK⟩ := hv
  subst hsz
  obtain ⟨hx, hb, hr, hw, hown, hlk⟩ := fwB B
  refine fw_enter hargs (Nat.le_of_ble_eq_true rfl) (fun ls hl => ?_)
  have hl : lv_has ls 4 [(0, .ref t_h), (1, .int v1)] := hl
  refine fw_Q (P := fun Q => ∃ A : Nat → Prop, va_S A s.heap s.heap [] ∧ (∀ q, s.heap.size ≤ q → A q) ∧ ∀ (v : Int32) (H : Heap) (locs : List Loc) (pc : Nat) (ls : Array Slot), some v = some r → va_S A s.heap H locs → decode cX1_stringsAt pc = .ok (.ireturn, 1) → W p l e ({ frames := 1, cells := 0, slots := 0, locals := 20 } : Room) s m args below meth c H locs 0 0 Q (F0 m pc ls [.int v])) ⟨fun q => s.heap.size ≤ q, va_S.rf, fun q h => h, fun v H locs pc ls h hS hd => retRI hx hb hr hlk hS h hd⟩ ?_
  rintro Q ⟨A, hS, hA, hRet⟩
  change W p l e ({ frames := 1, cells := 0, slots := 0, locals := 20 } : Room) s m args below meth c _ _ 0 0 Q _
  have L4 : ∀  (K : Int32 → Option Int32) (n : Nat) (l2 : Int32) (l3 : Int32) (H : Heap) (locs : List Loc) (ls : Array Slot), va_P G.1 vwCl [oX1 t_h t_a t_windows t_washes t_damp t_heard t_lines t_hour t_strings, arI G (t_a 10) 21 t_pairs] H → va_S A s.heap H locs → lv_has ls 4 [(0, .ref t_h), (1, .int v1), (2, .int l2), (3, .int l3)] → fX1_stringsAt_4 v1 t_strings t_pairs K n l2 l3 = some r → (∀ (k2 : Int32) (H : Heap) (locs : List Loc) (ls : Array Slot), va_P G.1 vwCl [oX1 t_h t_a t_windows t_washes t_damp t_heard t_lines t_hour t_strings, arI G (t_a 10) 21 t_pairs] H → va_S A s.heap H locs → lv_has ls 4 [(2, .int k2)] → K k2 = some r → W p l e ({ frames := 1, cells := 0, slots := 0, locals := 20 } : Room) s m args below meth c H locs 0 0 Q (F0 m 47 ls [])) → W p l e ({ frames := 1, cells := 0, slots := 0, locals := 20 } : Room) s m args below meth c H locs 0 0 Q (F0 m 4 ls []) := by
    intro  K n
    induction n with
    | zero => intro l2 l3 H locs ls hP hS hl hf; rw [fX1_stringsAt_4] at hf; cases hf
    | succ n ih =>
      intro l2 l3 H locs ls hP hS hl hf hX
      rw [fX1_stringsAt_4] at hf
      refine lv_iload_n hx hb dX1_stringsAt_4 rfl (lv_at hl 3 rfl) ?_
      refine lv_aload_n hx hb dX1_stringsAt_5 rfl (lv_at hl 0 rfl) ?_
      refine va_get (D := G.1) (ci := 1) (v := .int t_strings) (C := RX1) (T := TX1) (N := 12) hx hb hw inW1 hown hK.1 hP 0 rfl rfl 6 (by decide) (hw _ kw_3_23) (fun _ h9 => h9) rfl dX1_stringsAt_6 ?_
      refine lv_icmp_ge (tgt := 47) hx hb dX1_stringsAt_9 (by decide) (fun c_1 => ?_) (fun c_1 => ?_)
      · have hf := ip c_1 hf
        exact hX _ _ _ _ hP hS (lv_sub hl [2] rfl) hf
      · have hf := iq c_1 hf
        refine lv_aload_n hx hb dX1_stringsAt_12 rfl (lv_at hl 0 rfl) ?_
        refine va_get (D := G.1) (ci := 1) (v := .ref (t_a 10)) (C := RX1) (T := TX1) (N := 12) hx hb hw inW1 hown hK.1 hP 0 rfl rfl 10 (by decide) (hw _ kw_3_11) (fun _ h9 => h9) rfl dX1_stringsAt_13 ?_
        refine lv_iload_n hx hb dX1_stringsAt_16 rfl (lv_at hl 3 rfl) ?_
        obtain ⟨hi_3, hf⟩ := rdI_in hf
        refine va_iald hx hb hK.1 hP 1 0 rfl rfl hi_3 dX1_stringsAt_17 ?_
        refine lv_topi (fun x_2 ex_2 => ?_)
        have hf := hf x_2 ex_2
        obtain ⟨r_4, hc_5, hf⟩ := bd1_in hf
        refine rcI (va_runSN (As := [.int x_2]) (rest := []) ⟨hx, hb, hml, hown, hw⟩ ((ctX7_lesser l G x_2 _ hc_5) _) (kSN hw calX7_lesser (nm_7 hK.2) rfl rfl ⟨Nat.le_of_ble_eq_true rfl, Nat.le_of_ble_eq_true rfl⟩) (rpS (hP.sub (ws' := []) [] rfl) hK) rfl rfl hl.1 rfl (lv_room (Nat.le_of_ble_eq_true rfl)) dX1_stringsAt_18 ⟨Nat.zero_le _, Nat.zero_le _⟩) hS hA hP (fun H locs hP hS => ?_)
        refine lv_iload_n hx hb dX1_stringsAt_21 rfl (lv_at hl 1 rfl) ?_
        refine lv_icmp_eq (tgt := 38) hx hb dX1_stringsAt_22 (by decide) (fun c_6 => ?_) (fun c_6 => ?_)
        · have hf := ip c_6 hf
          refine lv_iinc (v := (l2 + 1)) (lv' := [(2, .int (l2 + 1)), (0, .ref t_h), (1, .int v1), (3, .int l3)]) hx hb dX1_stringsAt_38 hl (k := 2) rfl (by rfl) (by decide) rfl (fun ls hl => ?_)
          refine lv_iinc (v := (l3 + 1)) (lv' := [(3, .int (l3 + 1)), (2, .int (l2 + 1)), (0, .ref t_h), (1, .int v1)]) hx hb dX1_stringsAt_41 hl (k := 3) rfl (by rfl) (by decide) rfl (fun ls hl => ?_)
          refine lv_goto (tgt := 4) hx hb dX1_stringsAt_44 (by decide) ?_
          exact ih _ _ _ _ _ hP hS (lv_sub hl [2, 3, 1, 0] rfl) hf hX
        · have hf := iq c_6 hf
          refine lv_aload_n hx hb dX1_stringsAt_25 rfl (lv_at hl 0 rfl) ?_
          refine va_get (D := G.1) (ci := 1) (v := .ref (t_a 10)) (C := RX1) (T := TX1) (N := 12) hx hb hw inW1 hown hK.1 hP 0 rfl rfl 10 (by decide) (hw _ kw_3_11) (fun _ h9 => h9) rfl dX1_stringsAt_26 ?_
          refine lv_iload_n hx hb dX1_stringsAt_29 rfl (lv_at hl 3 rfl) ?_
          obtain ⟨hi_8, hf⟩ := rdI_in hf
          refine va_iald hx hb hK.1 hP 1 0 rfl rfl hi_8 dX1_stringsAt_30 ?_
          refine lv_topi (fun x_7 ex_7 => ?_)
          have hf := hf x_7 ex_7
          obtain ⟨r_9, hc_10, hf⟩ := bd1_in hf
          refine rcI (va_runSN (As := [.int x_7]) (rest := []) ⟨hx, hb, hml, hown, hw⟩ ((ctX7_greater l G x_7 _ hc_10) _) (kSN hw calX7_greater (nm_8 hK.2) rfl rfl ⟨Nat.le_of_ble_eq_true rfl, Nat.le_of_ble_eq_true rfl⟩) (rpS (hP.sub (ws' := []) [] rfl) hK) rfl rfl hl.1 rfl (lv_room (Nat.le_of_ble_eq_true rfl)) dX1_stringsAt_31 ⟨Nat.zero_le _, Nat.zero_le _⟩) hS hA hP (fun H locs hP hS => ?_)
          refine lv_iload_n hx hb dX1_stringsAt_34 rfl (lv_at hl 1 rfl) ?_
          refine lv_icmp_ne (tgt := 41) hx hb dX1_stringsAt_35 (by decide) (fun c_11 => ?_) (fun c_11 => ?_)
          · have hf := iq c_11 hf
            refine lv_iinc (v := (l3 + 1)) (lv' := [(3, .int (l3 + 1)), (0, .ref t_h), (1, .int v1), (2, .int l2)]) hx hb dX1_stringsAt_41 hl (k := 3) rfl (by rfl) (by decide) rfl (fun ls hl => ?_)
            refine lv_goto (tgt := 4) hx hb dX1_stringsAt_44 (by decide) ?_
            exact ih _ _ _ _ _ hP hS (lv_sub hl [1, 2, 3, 0] rfl) hf hX
          · have hf := ip c_11 hf
            refine lv_iinc (v := (l2 + 1)) (lv' := [(2, .int (l2 + 1)), (0, .ref t_h), (1, .int v1), (3, .int l3)]) hx hb dX1_stringsAt_38 hl (k := 2) rfl (by rfl) (by decide) rfl (fun ls hl => ?_)
            refine lv_iinc (v := (l3 + 1)) (lv' := [(3, .int (l3 + 1)), (2, .int (l2 + 1)), (0, .ref t_h), (1, .int v1)]) hx hb dX1_stringsAt_41 hl (k := 3) rfl (by rfl) (by decide) rfl (fun ls hl => ?_)
            refine lv_goto (tgt := 4) hx hb dX1_stringsAt_44 (by decide) ?_
            exact ih _ _ _ _ _ hP hS (lv_sub hl [2, 3, 1, 0] rfl) hf hX
  unfold fX1_stringsAt at hf
  refine lv_iconst (v := 0) hx hb dX1_stringsAt_0 (by decide) ?_
  refine lv_istore_n (lv' := [(2, .int 0), (0, .ref t_h), (1, .int v1)]) hx hb dX1_stringsAt_1 rfl hl (by decide) rfl (fun ls hl => ?_)
  refine lv_iconst (v := 0) hx hb dX1_stringsAt_2 (by decide) ?_
  refine lv_istore_n (lv' := [(3, .int 0), (2, .int 0), (0, .ref t_h), (1, .int v1)]) hx hb dX1_stringsAt_3 rfl hl (by decide) rfl (fun ls hl => ?_)
  refine L4  _ _ _ _ _ _ _ hP hS (lv_sub hl [2, 3, 1, 0] rfl) hf (fun w_12 H locs ls hP hS hl hf => ?_)
  refine lv_iload_n hx hb dX1_stringsAt_47 rfl (lv_at hl 0 rfl) ?_
  exact hRet _ _ _ _ _ hf hS dX1_stringsAt_48
theorem calX7_crossing : CalS yX7_crossing cX7_crossing 7 (some .boolean) 2 := ⟨⟨kw_13_9, kw_1_2, by decide +kernel⟩, kw_13_8⟩
set_option maxHeartbeats 8000000 in
set_option maxRecDepth 100000 in
theorem ctX7_crossing (l : Launch) (G : GT) (v0 : Int32) (v1 : Int32) (r : Int32) (hf : fX7_crossing v0 v1 = some r) : RdI l yX7_crossing (Cond.code yX7_crossing cX7_crossing 7 (some .boolean)) { frames := 1, cells := 0, slots := 0, locals := 20 } G [.int v0, .int v1] [] r := by
  intro sz
  refine Met.ofW (cc := cX7_crossing) (maxL := 7) (ret := (some .boolean)) (by decide) rfl ?_
  intro p e s m args below meth c s₁ B hml hv
  obtain ⟨hargs, hsz, hP, hK⟩ := hv
  subst hsz
  obtain ⟨hx, hb, hr, hw, hown, hlk⟩ := fwB B
  refine fw_enter hargs (Nat.le_of_ble_eq_true rfl) (fun ls hl => ?_)
  have hl : lv_has ls 7 [(0, .int v0), (1, .int v1)] := hl
  refine fw_Q (P := fun Q => ∃ A : Nat → Prop, va_S A s.heap s.heap [] ∧ (∀ q, s.heap.size ≤ q → A q) ∧ ∀ (v : Int32) (H : Heap) (locs : List Loc) (pc : Nat) (ls : Array Slot), some v = some r → va_S A s.heap H locs → narrow .boolean (.int v) = .int v → decode cX7_crossing pc = .ok (.ireturn, 1) → W p l e ({ frames := 1, cells := 0, slots := 0, locals := 20 } : Room) s m args below meth c H locs 0 0 Q (F0 m pc ls [.int v])) ⟨fun q => s.heap.size ≤ q, va_S.rf, fun q h => h, fun v H locs pc ls h hS hn hd => retRZ hx hb hr hlk hS hn h hd⟩ ?_
  rintro Q ⟨A, hS, hA, hRet⟩
  change W p l e ({ frames := 1, cells := 0, slots := 0, locals := 20 } : Room) s m args below meth c _ _ 0 0 Q _
  unfold fX7_crossing at hf
  refine lv_iload_n hx hb dX7_crossing_0 rfl (lv_at hl 0 rfl) ?_
  obtain ⟨r_1, hc_2, hf⟩ := bd1_in hf
  refine rcI (va_runS (As := [.int v0]) (rest := []) ⟨hx, hb, hml, hown, hw⟩ ((ctX7_lesser l G v0 _ hc_2) _) (kS hw calX7_lesser kw_13_10 rfl rfl ⟨Nat.le_of_ble_eq_true rfl, Nat.le_of_ble_eq_true rfl⟩) (rpS (hP.sub (ws' := []) [] rfl) hK) rfl rfl hl.1 rfl (lv_room (Nat.le_of_ble_eq_true rfl)) dX7_crossing_1 ⟨Nat.zero_le _, Nat.zero_le _⟩) hS hA hP (fun H locs hP hS => ?_)
  refine lv_istore_n (lv' := [(2, .int r_1), (0, .int v0), (1, .int v1)]) hx hb dX7_crossing_4 rfl hl (by decide) rfl (fun ls hl => ?_)
  refine lv_iload_n hx hb dX7_crossing_5 rfl (lv_at hl 1 rfl) ?_
  obtain ⟨r_3, hc_4, hf⟩ := bd1_in hf
  refine rcI (va_runS (As := [.int v0]) (rest := []) ⟨hx, hb, hml, hown, hw⟩ ((ctX7_greater l G v0 _ hc_4) _) (kS hw calX7_greater kw_13_11 rfl rfl ⟨Nat.le_of_ble_eq_true rfl, Nat.le_of_ble_eq_true rfl⟩) (rpS (hP.sub (ws' := []) [] rfl) hK) rfl rfl hl.1 rfl (lv_room (Nat.le_of_ble_eq_true rfl)) dX7_crossing_6 ⟨Nat.zero_le _, Nat.zero_le _⟩) hS hA hP (fun H locs hP hS => ?_)
  refine lv_istore_n (lv' := [(3, .int r_3), (2, .int r_1), (0, .int v0), (1, .int v1)]) hx hb dX7_crossing_9 rfl hl (by decide) rfl (fun ls hl => ?_)
  refine lv_iload_n hx hb dX7_crossing_10 rfl (lv_at hl 3 rfl) ?_
  obtain ⟨r_5, hc_6, hf⟩ := bd1_in hf
  refine rcI (va_runS (As := [.int v1]) (rest := []) ⟨hx, hb, hml, hown, hw⟩ ((ctX7_lesser l G v1 _ hc_6) _) (kS hw calX7_lesser kw_13_10 rfl rfl ⟨Nat.le_of_ble_eq_true rfl, Nat.le_of_ble_eq_true rfl⟩) (rpS (hP.sub (ws' := []) [] rfl) hK) rfl rfl hl.1 rfl (lv_room (Nat.le_of_ble_eq_true rfl)) dX7_crossing_11 ⟨Nat.zero_le _, Nat.zero_le _⟩) hS hA hP (fun H locs hP hS => ?_)
  refine lv_istore (lv' := [(4, .int r_5), (3, .int r_3), (2, .int r_1), (0, .int v0), (1, .int v1)]) hx hb dX7_crossing_14 hl (by decide) rfl (fun ls hl => ?_)
  refine lv_iload_n hx hb dX7_crossing_16 rfl (lv_at hl 4 rfl) ?_
  obtain ⟨r_7, hc_8, hf⟩ := bd1_in hf
  refine rcI (va_runS (As := [.int v1]) (rest := []) ⟨hx, hb, hml, hown, hw⟩ ((ctX7_greater l G v1 _ hc_8) _) (kS hw calX7_greater kw_13_11 rfl rfl ⟨Nat.le_of_ble_eq_true rfl, Nat.le_of_ble_eq_true rfl⟩) (rpS (hP.sub (ws' := []) [] rfl) hK) rfl rfl hl.1 rfl (lv_room (Nat.le_of_ble_eq_true rfl)) dX7_crossing_17 ⟨Nat.zero_le _, Nat.zero_le _⟩) hS hA hP (fun H locs hP hS => ?_)
  refine lv_istore (lv' := [(5, .int r_7), (4, .int r_5), (3, .int r_3), (2, .int r_1), (0, .int v0), (1, .int v1)]) hx hb dX7_crossing_20 hl (by decide) rfl (fun ls hl => ?_)
  refine lv_iload_n hx hb dX7_crossing_22 rfl (lv_at hl 3 rfl) ?_
  refine lv_iload hx hb dX7_crossing_23 (lv_at hl 1 rfl) ?_
  refine jn_el hf (fun k_10 ek_10 hf => ?_)
  have J51 : ∀ (z_9 : Int32) (H : Heap) (locs : List Loc) (ls : Array Slot), va_P G.1 vwCl [] H → va_S A s.heap H locs → lv_has ls 7 [(2, .int r_1), (3, .int r_3), (4, .int r_5), (5, .int r_7)] → k_10 z_9 = some r → W p l e ({ frames := 1, cells := 0, slots := 0, locals := 20 } : Room) s m args below meth c H locs 0 0 Q (F0 m 51 ls [.int z_9]) := by
    intro z_9 H locs ls hP hS hl hf
    rw [ek_10] at hf
    refine lv_istore (lv' := [(6, .int z_9), (2, .int r_1), (3, .int r_3), (4, .int r_5), (5, .int r_7)]) hx hb dX7_crossing_51 hl (by decide) rfl (fun ls hl => ?_)
    refine lv_iload hx hb dX7_crossing_53 (lv_at hl 0 rfl) ?_
    refine lv_if_eq (tgt := 99) hx hb dX7_crossing_55 (by decide) (fun c_11 => ?_) (fun c_11 => ?_)
    · have hf := ip c_11 hf
      refine lv_iconst (v := 0) hx hb dX7_crossing_99 (by decide) ?_
      exact hRet _ _ _ _ _ hf hS (by decide +kernel) dX7_crossing_100
    · have hf := iq c_11 hf
      refine lv_iload hx hb dX7_crossing_58 (lv_at hl 3 rfl) ?_
      refine lv_iload_n hx hb dX7_crossing_60 rfl (lv_at hl 1 rfl) ?_
      refine jn_el hf (fun k_13 ek_13 hf => ?_)
      have J75 : ∀ (z_12 : Int32) (H : Heap) (locs : List Loc) (ls : Array Slot), va_P G.1 vwCl [] H → va_S A s.heap H locs → lv_has ls 7 [(2, .int r_1), (3, .int r_3), (5, .int r_7)] → k_13 z_12 = some r → W p l e ({ frames := 1, cells := 0, slots := 0, locals := 20 } : Room) s m args below meth c H locs 0 0 Q (F0 m 75 ls [.int z_12]) := by
        intro z_12 H locs ls hP hS hl hf
        rw [ek_13] at hf
        refine lv_iload hx hb dX7_crossing_75 (lv_at hl 2 rfl) ?_
        refine lv_iload_n hx hb dX7_crossing_77 rfl (lv_at hl 0 rfl) ?_
        refine jn_el hf (fun k_15 ek_15 hf => ?_)
        have J92 : ∀ (z_14 : Int32) (H : Heap) (locs : List Loc) (ls : Array Slot), va_P G.1 vwCl [] H → va_S A s.heap H locs → lv_has ls 7 [] → k_15 z_14 = some r → W p l e ({ frames := 1, cells := 0, slots := 0, locals := 20 } : Room) s m args below meth c H locs 0 0 Q (F0 m 92 ls [.int z_14, .int z_12]) := by
          intro z_14 H locs ls hP hS hl hf
          rw [ek_15] at hf
          refine lv_icmp_eq (tgt := 99) hx hb dX7_crossing_92 (by decide) (fun c_16 => ?_) (fun c_16 => ?_)
          · have hf := ip c_16 hf
            refine lv_iconst (v := 0) hx hb dX7_crossing_99 (by decide) ?_
            exact hRet _ _ _ _ _ hf hS (by decide +kernel) dX7_crossing_100
          · have hf := iq c_16 hf
            refine lv_iconst (v := 1) hx hb dX7_crossing_95 (by decide) ?_
            refine lv_goto (tgt := 100) hx hb dX7_crossing_96 (by decide) ?_
            exact hRet _ _ _ _ _ hf hS (by decide +kernel) dX7_crossing_100
        refine lv_icmp_le (tgt := 91) hx hb dX7_crossing_78 (by decide) (fun c_17 => ?_) (fun c_17 => ?_)
        · have hf := ip c_17 hf
          refine lv_iconst (v := 0) hx hb dX7_crossing_91 (by decide) ?_
          exact J92 _ _ _ _ hP hS (lv_sub hl [] rfl) hf
        · have hf := iq c_17 hf
          refine lv_iload hx hb dX7_crossing_81 (lv_at hl 2 rfl) ?_
          refine lv_iload_n hx hb dX7_crossing_83 rfl (lv_at hl 1 rfl) ?_
          refine lv_icmp_ge (tgt := 91) hx hb dX7_crossing_84 (by decide) (fun c_18 => ?_) (fun c_18 => ?_)
          · have hf := ip c_18 hf
            refine lv_iconst (v := 0) hx hb dX7_crossing_91 (by decide) ?_
            exact J92 _ _ _ _ hP hS (lv_sub hl [] rfl) hf
          · have hf := iq c_18 hf
            refine lv_iconst (v := 1) hx hb dX7_crossing_87 (by decide) ?_
            refine lv_goto (tgt := 92) hx hb dX7_crossing_88 (by decide) ?_
            exact J92 _ _ _ _ hP hS (lv_sub hl [] rfl) hf
      refine lv_icmp_le (tgt := 74) hx hb dX7_crossing_61 (by decide) (fun c_19 => ?_) (fun c_19 => ?_)
      · have hf := ip c_19 hf
        refine lv_iconst (v := 0) hx hb dX7_crossing_74 (by decide) ?_
        exact J75 _ _ _ _ hP hS (lv_sub hl [1, 2, 4] rfl) hf
      · have hf := iq c_19 hf
        refine lv_iload hx hb dX7_crossing_64 (lv_at hl 3 rfl) ?_
        refine lv_iload_n hx hb dX7_crossing_66 rfl (lv_at hl 2 rfl) ?_
        refine lv_icmp_ge (tgt := 74) hx hb dX7_crossing_67 (by decide) (fun c_20 => ?_) (fun c_20 => ?_)
        · have hf := ip c_20 hf
          refine lv_iconst (v := 0) hx hb dX7_crossing_74 (by decide) ?_
          exact J75 _ _ _ _ hP hS (lv_sub hl [1, 2, 4] rfl) hf
        · have hf := iq c_20 hf
          refine lv_iconst (v := 1) hx hb dX7_crossing_70 (by decide) ?_
          refine lv_goto (tgt := 75) hx hb dX7_crossing_71 (by decide) ?_
          exact J75 _ _ _ _ hP hS (lv_sub hl [1, 2, 4] rfl) hf
  refine lv_icmp_eq (tgt := 50) hx hb dX7_crossing_25 (by decide) (fun c_21 => ?_) (fun c_21 => ?_)
  · have hf := ip c_21 hf
    refine lv_iconst (v := 0) hx hb dX7_crossing_50 (by decide) ?_
    exact J51 _ _ _ _ hP hS (lv_sub hl [3, 2, 1, 0] rfl) hf
  · have hf := iq c_21 hf
    refine lv_iload_n hx hb dX7_crossing_28 rfl (lv_at hl 3 rfl) ?_
    refine lv_iload hx hb dX7_crossing_29 (lv_at hl 0 rfl) ?_
    refine lv_icmp_eq (tgt := 50) hx hb dX7_crossing_31 (by decide) (fun c_22 => ?_) (fun c_22 => ?_)
    · have hf := ip c_22 hf
      refine lv_iconst (v := 0) hx hb dX7_crossing_50 (by decide) ?_
      exact J51 _ _ _ _ hP hS (lv_sub hl [3, 2, 1, 0] rfl) hf
    · have hf := iq c_22 hf
      refine lv_iload_n hx hb dX7_crossing_34 rfl (lv_at hl 2 rfl) ?_
      refine lv_iload hx hb dX7_crossing_35 (lv_at hl 1 rfl) ?_
      refine lv_icmp_eq (tgt := 50) hx hb dX7_crossing_37 (by decide) (fun c_23 => ?_) (fun c_23 => ?_)
      · have hf := ip c_23 hf
        refine lv_iconst (v := 0) hx hb dX7_crossing_50 (by decide) ?_
        exact J51 _ _ _ _ hP hS (lv_sub hl [3, 2, 1, 0] rfl) hf
      · have hf := iq c_23 hf
        refine lv_iload_n hx hb dX7_crossing_40 rfl (lv_at hl 2 rfl) ?_
        refine lv_iload hx hb dX7_crossing_41 (lv_at hl 0 rfl) ?_
        refine lv_icmp_eq (tgt := 50) hx hb dX7_crossing_43 (by decide) (fun c_24 => ?_) (fun c_24 => ?_)
        · have hf := ip c_24 hf
          refine lv_iconst (v := 0) hx hb dX7_crossing_50 (by decide) ?_
          exact J51 _ _ _ _ hP hS (lv_sub hl [3, 2, 1, 0] rfl) hf
        · have hf := iq c_24 hf
          refine lv_iconst (v := 1) hx hb dX7_crossing_46 (by decide) ?_
          refine lv_goto (tgt := 51) hx hb dX7_crossing_47 (by decide) ?_
          exact J51 _ _ _ _ hP hS (lv_sub hl [3, 2, 1, 0] rfl) hf
theorem calX1_whyNot : CalV yX1_whyNot cX1_whyNot 5 (some .int) 1 := ⟨⟨kw_12_14, kw_1_19, by decide +kernel⟩, kw_12_12, kw_12_13⟩
set_option maxHeartbeats 8000000 in
set_option maxRecDepth 100000 in
theorem ctX1_whyNot (l : Launch) (G : GT) (t_h : Nat) (t_a : Nat → Nat) (t_windows : Int32) (t_washes : Int32) (t_damp : Int32) (t_heard : Int32) (t_lines : Int32) (t_hour : Int32) (t_strings : Int32) (t_cans : Nat → Int32) (t_pairs : Nat → Int32) (v1 : Int32) (r : Int32) (hf : fX1_whyNot t_windows t_strings t_cans t_pairs v1 = some r) : RdI l yX1_whyNot (Cond.code yX1_whyNot cX1_whyNot 5 (some .int)) { frames := 2, cells := 0, slots := 0, locals := 46 } G [.ref t_h, .int v1] [oX1 t_h t_a t_windows t_washes t_damp t_heard t_lines t_hour t_strings, arI G (t_a 7) 12 t_cans, arI G (t_a 10) 21 t_pairs] r := by
  intro sz
  refine Met.ofW (cc := cX1_whyNot) (maxL := 5) (ret := (some .int)) (by decide) rfl ?_
  intro p e s m args below meth c s₁ B hml hv
  obtain ⟨hargs, hsz, hP, hK⟩ := hv
  subst hsz
  obtain ⟨hx, hb, hr, hw, hown, hlk⟩ := fwB B
  refine fw_enter hargs (Nat.le_of_ble_eq_true rfl) (fun ls hl => ?_)
  have hl : lv_has ls 5 [(0, .ref t_h), (1, .int v1)] := hl
  refine fw_Q (P := fun Q => ∃ A : Nat → Prop, va_S A s.heap s.heap [] ∧ (∀ q, s.heap.size ≤ q → A q) ∧ ∀ (v : Int32) (H : Heap) (locs : List Loc) (pc : Nat) (ls : Array Slot), some v = some r → va_S A s.heap H locs → decode cX1_whyNot pc = .ok (.ireturn, 1) → W p l e ({ frames := 2, cells := 0, slots := 0, locals := 46 } : Room) s m args below meth c H locs 0 0 Q (F0 m pc ls [.int v])) ⟨fun q => s.heap.size ≤ q, va_S.rf, fun q h => h, fun v H locs pc ls h hS hd => retRI hx hb hr hlk hS h hd⟩ ?_
  rintro Q ⟨A, hS, hA, hRet⟩
  change W p l e ({ frames := 2, cells := 0, slots := 0, locals := 46 } : Room) s m args below meth c _ _ 0 0 Q _
  have L65 : ∀  (K : Option Int32) (n : Nat) (l4 : Int32) (H : Heap) (locs : List Loc) (ls : Array Slot), va_P G.1 vwCl [oX1 t_h t_a t_windows t_washes t_damp t_heard t_lines t_hour t_strings, arI G (t_a 7) 12 t_cans, arI G (t_a 10) 21 t_pairs] H → va_S A s.heap H locs → lv_has ls 5 [(0, .ref t_h), (1, .int v1), (4, .int l4)] → fX1_whyNot_65 v1 t_strings t_pairs K n l4 = some r → (∀  (H : Heap) (locs : List Loc) (ls : Array Slot), va_P G.1 vwCl [oX1 t_h t_a t_windows t_washes t_damp t_heard t_lines t_hour t_strings, arI G (t_a 7) 12 t_cans, arI G (t_a 10) 21 t_pairs] H → va_S A s.heap H locs → lv_has ls 5 [] → K = some r → W p l e ({ frames := 2, cells := 0, slots := 0, locals := 46 } : Room) s m args below meth c H locs 0 0 Q (F0 m 96 ls [])) → W p l e ({ frames := 2, cells := 0, slots := 0, locals := 46 } : Room) s m args below meth c H locs 0 0 Q (F0 m 65 ls []) := by
    intro  K n
    induction n with
    | zero => intro l4 H locs ls hP hS hl hf; rw [fX1_whyNot_65] at hf; cases hf
    | succ n ih =>
      intro l4 H locs ls hP hS hl hf hX
      rw [fX1_whyNot_65] at hf
      refine lv_iload hx hb dX1_whyNot_65 (lv_at hl 2 rfl) ?_
      refine lv_aload_n hx hb dX1_whyNot_67 rfl (lv_at hl 0 rfl) ?_
      refine va_get (D := G.1) (ci := 1) (v := .int t_strings) (C := RX1) (T := TX1) (N := 12) hx hb hw inW1 hown hK.1 hP 0 rfl rfl 6 (by decide) (hw _ kw_3_23) (fun _ h9 => h9) rfl dX1_whyNot_68 ?_
      refine lv_icmp_ge (tgt := 96) hx hb dX1_whyNot_71 (by decide) (fun c_21 => ?_) (fun c_21 => ?_)
      · have hf := ip c_21 hf
        exact hX  _ _ _ hP hS (lv_sub hl [] rfl) hf
      · have hf := iq c_21 hf
        refine lv_iload_n hx hb dX1_whyNot_74 rfl (lv_at hl 1 rfl) ?_
        refine lv_aload_n hx hb dX1_whyNot_75 rfl (lv_at hl 0 rfl) ?_
        refine va_get (D := G.1) (ci := 1) (v := .ref (t_a 10)) (C := RX1) (T := TX1) (N := 12) hx hb hw inW1 hown hK.1 hP 0 rfl rfl 10 (by decide) (hw _ kw_3_11) (fun _ h9 => h9) rfl dX1_whyNot_76 ?_
        refine lv_iload hx hb dX1_whyNot_79 (lv_at hl 2 rfl) ?_
        obtain ⟨hi_23, hf⟩ := rdI_in hf
        refine va_iald hx hb hK.1 hP 2 0 rfl rfl hi_23 dX1_whyNot_81 ?_
        refine lv_topi (fun x_22 ex_22 => ?_)
        have hf := hf x_22 ex_22
        obtain ⟨r_24, hc_25, hf⟩ := bd1_in hf
        refine rcI (va_runSN (As := [.int v1, .int x_22]) (rest := []) ⟨hx, hb, hml, hown, hw⟩ ((ctX7_crossing l G v1 x_22 _ hc_25) _) (kSN hw calX7_crossing (nm_9 hK.2) rfl rfl ⟨Nat.le_of_ble_eq_true rfl, Nat.le_of_ble_eq_true rfl⟩) (rpS (hP.sub (ws' := []) [] rfl) hK) rfl rfl hl.1 rfl (lv_room (Nat.le_of_ble_eq_true rfl)) dX1_whyNot_82 ⟨Nat.zero_le _, Nat.zero_le _⟩) hS hA hP (fun H locs hP hS => ?_)
        refine lv_if_eq (tgt := 90) hx hb dX1_whyNot_85 (by decide) (fun c_26 => ?_) (fun c_26 => ?_)
        · have hf := ip c_26 hf
          refine lv_iinc (v := (l4 + 1)) (lv' := [(4, .int (l4 + 1)), (0, .ref t_h), (1, .int v1)]) hx hb dX1_whyNot_90 hl (k := 2) rfl (by rfl) (by decide) rfl (fun ls hl => ?_)
          refine lv_goto (tgt := 65) hx hb dX1_whyNot_93 (by decide) ?_
          exact ih _ _ _ _ hP hS (lv_sub hl [1, 2, 0] rfl) hf hX
        · have hf := iq c_26 hf
          refine lv_iconst (v := 4) hx hb dX1_whyNot_88 (by decide) ?_
          exact hRet _ _ _ _ _ hf hS dX1_whyNot_89
  unfold fX1_whyNot at hf
  refine lv_aload_n hx hb dX1_whyNot_0 rfl (lv_at hl 0 rfl) ?_
  refine lv_iload_n hx hb dX1_whyNot_1 rfl (lv_at hl 1 rfl) ?_
  refine lv_i2l hx hb dX1_whyNot_2 rfl ?_
  obtain ⟨r_1, hc_2, hf⟩ := bd1_in hf
  refine rcI (va_runV (As := [.long (Int32.toInt64 v1)]) (rest := []) ⟨hx, hb, hml, hown, hw⟩ ((ctX1_hasPair l G t_h t_a t_windows t_washes t_damp t_heard t_lines t_hour t_strings (Int32.toInt64 v1) _ hc_2) _) (kV hw calX1_hasPair kw_12_15 rfl rfl ⟨Nat.le_of_ble_eq_true rfl, Nat.le_of_ble_eq_true rfl⟩) (rpV (hP.sub (ws' := [oX1 t_h t_a t_windows t_washes t_damp t_heard t_lines t_hour t_strings]) [0] rfl) hK (ci := 1) (q0 := 0) rfl rfl) rfl rfl hl.1 rfl (lv_room (Nat.le_of_ble_eq_true rfl)) dX1_whyNot_3 ⟨Nat.zero_le _, Nat.zero_le _⟩) hS hA hP (fun H locs hP hS => ?_)
  refine lv_if_ne (tgt := 11) hx hb dX1_whyNot_6 (by decide) (fun c_3 => ?_) (fun c_3 => ?_)
  · have hf := iq c_3 hf
    refine lv_aload_n hx hb dX1_whyNot_11 rfl (lv_at hl 0 rfl) ?_
    refine lv_iload_n hx hb dX1_whyNot_12 rfl (lv_at hl 1 rfl) ?_
    obtain ⟨r_4, hc_5, hf⟩ := bd1_in hf
    refine rcI (va_runV (As := [.int v1]) (rest := []) ⟨hx, hb, hml, hown, hw⟩ ((ctX1_indexOf l G t_h t_a t_windows t_washes t_damp t_heard t_lines t_hour t_strings t_pairs v1 _ hc_5) _) (kV hw calX1_indexOf kw_13_0 rfl rfl ⟨Nat.le_of_ble_eq_true rfl, Nat.le_of_ble_eq_true rfl⟩) (rpV (hP.sub (ws' := [oX1 t_h t_a t_windows t_washes t_damp t_heard t_lines t_hour t_strings, arI G (t_a 10) 21 t_pairs]) [0, 2] rfl) hK (ci := 1) (q0 := 0) rfl rfl) rfl rfl hl.1 rfl (lv_room (Nat.le_of_ble_eq_true rfl)) dX1_whyNot_13 ⟨Nat.zero_le _, Nat.zero_le _⟩) hS hA hP (fun H locs hP hS => ?_)
    refine lv_iconst (v := (-1)) hx hb dX1_whyNot_16 (by decide) ?_
    refine lv_icmp_eq (tgt := 22) hx hb dX1_whyNot_17 (by decide) (fun c_6 => ?_) (fun c_6 => ?_)
    · have hf := ip c_6 hf
      refine lv_iload_n hx hb dX1_whyNot_22 rfl (lv_at hl 1 rfl) ?_
      obtain ⟨r_7, hc_8, hf⟩ := bd1_in hf
      refine rcI (va_runSN (As := [.int v1]) (rest := []) ⟨hx, hb, hml, hown, hw⟩ ((ctX7_lesser l G v1 _ hc_8) _) (kSN hw calX7_lesser (nm_7 hK.2) rfl rfl ⟨Nat.le_of_ble_eq_true rfl, Nat.le_of_ble_eq_true rfl⟩) (rpS (hP.sub (ws' := []) [] rfl) hK) rfl rfl hl.1 rfl (lv_room (Nat.le_of_ble_eq_true rfl)) dX1_whyNot_23 ⟨Nat.zero_le _, Nat.zero_le _⟩) hS hA hP (fun H locs hP hS => ?_)
      refine lv_istore_n (lv' := [(2, .int r_7), (0, .ref t_h), (1, .int v1)]) hx hb dX1_whyNot_26 rfl hl (by decide) rfl (fun ls hl => ?_)
      refine lv_iload_n hx hb dX1_whyNot_27 rfl (lv_at hl 2 rfl) ?_
      obtain ⟨r_9, hc_10, hf⟩ := bd1_in hf
      refine rcI (va_runSN (As := [.int v1]) (rest := []) ⟨hx, hb, hml, hown, hw⟩ ((ctX7_greater l G v1 _ hc_10) _) (kSN hw calX7_greater (nm_8 hK.2) rfl rfl ⟨Nat.le_of_ble_eq_true rfl, Nat.le_of_ble_eq_true rfl⟩) (rpS (hP.sub (ws' := []) [] rfl) hK) rfl rfl hl.1 rfl (lv_room (Nat.le_of_ble_eq_true rfl)) dX1_whyNot_28 ⟨Nat.zero_le _, Nat.zero_le _⟩) hS hA hP (fun H locs hP hS => ?_)
      refine lv_istore_n (lv' := [(3, .int r_9), (2, .int r_7), (0, .ref t_h), (1, .int v1)]) hx hb dX1_whyNot_31 rfl hl (by decide) rfl (fun ls hl => ?_)
      refine lv_aload_n hx hb dX1_whyNot_32 rfl (lv_at hl 2 rfl) ?_
      refine lv_iload_n hx hb dX1_whyNot_33 rfl (lv_at hl 1 rfl) ?_
      obtain ⟨r_11, hc_12, hf⟩ := bd1_in hf
      refine rcI (va_runV (As := [.int r_7]) (rest := []) ⟨hx, hb, hml, hown, hw⟩ ((ctX1_stringsAt l G t_h t_a t_windows t_washes t_damp t_heard t_lines t_hour t_strings t_pairs r_7 _ hc_12) _) (kV hw calX1_stringsAt kw_13_4 rfl rfl ⟨Nat.le_of_ble_eq_true rfl, Nat.le_of_ble_eq_true rfl⟩) (rpV (hP.sub (ws' := [oX1 t_h t_a t_windows t_washes t_damp t_heard t_lines t_hour t_strings, arI G (t_a 10) 21 t_pairs]) [0, 2] rfl) hK (ci := 1) (q0 := 0) rfl rfl) rfl rfl hl.1 rfl (lv_room (Nat.le_of_ble_eq_true rfl)) dX1_whyNot_34 ⟨Nat.zero_le _, Nat.zero_le _⟩) hS hA hP (fun H locs hP hS => ?_)
      refine lv_aload_n hx hb dX1_whyNot_37 rfl (lv_at hl 2 rfl) ?_
      refine va_get (D := G.1) (ci := 1) (v := .ref (t_a 7)) (C := RX1) (T := TX1) (N := 12) hx hb hw inW1 hown hK.1 hP 0 rfl rfl 7 (by decide) (hw _ kw_3_8) (fun _ h9 => h9) rfl dX1_whyNot_38 ?_
      refine lv_iload_n hx hb dX1_whyNot_41 rfl (lv_at hl 1 rfl) ?_
      obtain ⟨hi_14, hf⟩ := rdI_in hf
      refine va_iald hx hb hK.1 hP 1 0 rfl rfl hi_14 dX1_whyNot_42 ?_
      refine lv_topi (fun x_13 ex_13 => ?_)
      have hf := hf x_13 ex_13
      refine lv_icmp_ge (tgt := 60) hx hb dX1_whyNot_43 (by decide) (fun c_15 => ?_) (fun c_15 => ?_)
      · have hf := ip c_15 hf
        refine lv_iconst (v := 3) hx hb dX1_whyNot_60 (by decide) ?_
        exact hRet _ _ _ _ _ hf hS dX1_whyNot_61
      · have hf := iq c_15 hf
        refine lv_aload_n hx hb dX1_whyNot_46 rfl (lv_at hl 2 rfl) ?_
        refine lv_iload_n hx hb dX1_whyNot_47 rfl (lv_at hl 0 rfl) ?_
        obtain ⟨r_16, hc_17, hf⟩ := bd1_in hf
        refine rcI (va_runV (As := [.int r_9]) (rest := []) ⟨hx, hb, hml, hown, hw⟩ ((ctX1_stringsAt l G t_h t_a t_windows t_washes t_damp t_heard t_lines t_hour t_strings t_pairs r_9 _ hc_17) _) (kV hw calX1_stringsAt kw_13_4 rfl rfl ⟨Nat.le_of_ble_eq_true rfl, Nat.le_of_ble_eq_true rfl⟩) (rpV (hP.sub (ws' := [oX1 t_h t_a t_windows t_washes t_damp t_heard t_lines t_hour t_strings, arI G (t_a 10) 21 t_pairs]) [0, 2] rfl) hK (ci := 1) (q0 := 0) rfl rfl) rfl rfl hl.1 rfl (lv_room (Nat.le_of_ble_eq_true rfl)) dX1_whyNot_48 ⟨Nat.zero_le _, Nat.zero_le _⟩) hS hA hP (fun H locs hP hS => ?_)
        refine lv_aload_n hx hb dX1_whyNot_51 rfl (lv_at hl 2 rfl) ?_
        refine va_get (D := G.1) (ci := 1) (v := .ref (t_a 7)) (C := RX1) (T := TX1) (N := 12) hx hb hw inW1 hown hK.1 hP 0 rfl rfl 7 (by decide) (hw _ kw_3_8) (fun _ h9 => h9) rfl dX1_whyNot_52 ?_
        refine lv_iload_n hx hb dX1_whyNot_55 rfl (lv_at hl 0 rfl) ?_
        obtain ⟨hi_19, hf⟩ := rdI_in hf
        refine va_iald hx hb hK.1 hP 1 0 rfl rfl hi_19 dX1_whyNot_56 ?_
        refine lv_topi (fun x_18 ex_18 => ?_)
        have hf := hf x_18 ex_18
        refine lv_icmp_lt (tgt := 62) hx hb dX1_whyNot_57 (by decide) (fun c_20 => ?_) (fun c_20 => ?_)
        · have hf := ip c_20 hf
          refine lv_iconst (v := 0) hx hb dX1_whyNot_62 (by decide) ?_
          refine lv_istore (lv' := [(4, .int 0), (3, .int r_9), (2, .int r_7), (0, .ref t_h), (1, .int v1)]) hx hb dX1_whyNot_63 hl (by decide) rfl (fun ls hl => ?_)
          refine L65  _ _ _ _ _ _ hP hS (lv_sub hl [3, 4, 0] rfl) hf (fun  H locs ls hP hS hl hf => ?_)
          refine lv_iconst (v := 0) hx hb dX1_whyNot_96 (by decide) ?_
          exact hRet _ _ _ _ _ hf hS dX1_whyNot_97
        · have hf := iq c_20 hf
          refine lv_iconst (v := 3) hx hb dX1_whyNot_60 (by decide) ?_
          exact hRet _ _ _ _ _ hf hS dX1_whyNot_61
    · have hf := iq c_6 hf
      refine lv_iconst (v := 2) hx hb dX1_whyNot_20 (by decide) ?_
      exact hRet _ _ _ _ _ hf hS dX1_whyNot_21
  · have hf := ip c_3 hf
    refine lv_iconst (v := 1) hx hb dX1_whyNot_9 (by decide) ?_
    exact hRet _ _ _ _ _ hf hS dX1_whyNot_10
theorem calX1_addString : CalV yX1_addString cX1_addString 5 none 2 := ⟨⟨kw_13_15, kw_1_19, by decide +kernel⟩, kw_13_13, kw_13_14⟩
set_option maxHeartbeats 8000000 in
set_option maxRecDepth 100000 in
theorem ctX1_addString (l : Launch) (G : GT) (t_h : Nat) (t_a : Nat → Nat) (t_windows : Int32) (t_washes : Int32) (t_damp : Int32) (t_heard : Int32) (t_lines : Int32) (t_hour : Int32) (t_strings : Int32) (t_pairs : Nat → Int32) (t_knots : Nat → Int32) (v1 : Int32) (v2 : Int32) (o_t_strings : Int32) (o_t_pairs : Nat → Int32) (o_t_knots : Nat → Int32) (hf : fX1_addString t_strings t_pairs t_knots v1 v2 = some (o_t_strings, o_t_pairs, o_t_knots)) : WrV l yX1_addString (Cond.code yX1_addString cX1_addString 5 none) { frames := 0, cells := 0, slots := 0, locals := 0 } G [.ref t_h, .int v1, .int v2] [oX1 t_h t_a t_windows t_washes t_damp t_heard t_lines t_hour t_strings, arI G (t_a 10) 21 t_pairs, arI G (t_a 11) 21 t_knots] [oX1 t_h t_a t_windows t_washes t_damp t_heard t_lines t_hour o_t_strings, arI G (t_a 10) 21 o_t_pairs, arI G (t_a 11) 21 o_t_knots] := by
  intro sz
  refine Met.ofW (cc := cX1_addString) (maxL := 5) (ret := none) (by decide) rfl ?_
  intro p e s m args below meth c s₁ B hml hv
  obtain ⟨hargs, hsz, hP, hD0, hK⟩ := hv
  subst hsz
  obtain ⟨hx, hb, hr, hw, hown, hlk⟩ := fwB B
  refine fw_enter hargs (Nat.le_of_ble_eq_true rfl) (fun ls hl => ?_)
  have hl : lv_has ls 5 [(0, .ref t_h), (1, .int v1), (2, .int v2)] := hl
  refine fw_Q (P := fun Q => ∃ A : Nat → Prop, va_D A [oX1 t_h t_a t_windows t_washes t_damp t_heard t_lines t_hour t_strings, arI G (t_a 10) 21 t_pairs, arI G (t_a 11) 21 t_knots] ∧ va_S A s.heap s.heap [] ∧ (∀ q, s.heap.size ≤ q → A q) ∧ ∀ (n_t_strings : Int32) (n_t_pairs : Nat → Int32) (n_t_knots : Nat → Int32) (H : Heap) (locs : List Loc) (pc : Nat) (ls : Array Slot), some (n_t_strings, n_t_pairs, n_t_knots) = some (o_t_strings, o_t_pairs, o_t_knots) → va_P G.1 vwCl [oX1 t_h t_a t_windows t_washes t_damp t_heard t_lines t_hour n_t_strings, arI G (t_a 10) 21 n_t_pairs, arI G (t_a 11) 21 n_t_knots] H → va_S A s.heap H locs → decode cX1_addString pc = .ok (.return_, 1) → W p l e ({ frames := 0, cells := 0, slots := 0, locals := 0 } : Room) s m args below meth c H locs 0 0 Q (F0 m pc ls [])) ⟨va_A [oX1 t_h t_a t_windows t_washes t_damp t_heard t_lines t_hour t_strings, arI G (t_a 10) 21 t_pairs, arI G (t_a 11) 21 t_knots] s.heap.size, hD0.self (sz := s.heap.size), va_S.rf, fun q h => Or.inr h, ?_⟩ ?_
  · intro n_t_strings n_t_pairs n_t_knots H locs pc ls h hP hS hd
    cases h
    exact retWV hx hb hr hlk hS hP hd
  rintro Q ⟨A, hD, hS, hA, hRet⟩
  change W p l e ({ frames := 0, cells := 0, slots := 0, locals := 0 } : Room) s m args below meth c _ _ 0 0 Q _
  have L21 : ∀ (t_strings : Int32) (K : Int32 → (Nat → Int32) → (Nat → Int32) → Option (Int32 × (Nat → Int32) × (Nat → Int32))) (n : Nat) (l3 : Int32) (l4 : Int32) (t_pairs : Nat → Int32) (t_knots : Nat → Int32) (H : Heap) (locs : List Loc) (ls : Array Slot), va_P G.1 vwCl [oX1 t_h t_a t_windows t_washes t_damp t_heard t_lines t_hour t_strings, arI G (t_a 10) 21 t_pairs, arI G (t_a 11) 21 t_knots] H → va_D A [oX1 t_h t_a t_windows t_washes t_damp t_heard t_lines t_hour t_strings, arI G (t_a 10) 21 t_pairs, arI G (t_a 11) 21 t_knots] → va_S A s.heap H locs → lv_has ls 5 [(0, .ref t_h), (1, .int v1), (2, .int v2), (3, .int l3), (4, .int l4)] → fX1_addString_21 v1 K n l3 l4 t_pairs t_knots = some (o_t_strings, o_t_pairs, o_t_knots) → (∀ (k3 : Int32) (kt_pairs : Nat → Int32) (kt_knots : Nat → Int32) (H : Heap) (locs : List Loc) (ls : Array Slot), va_P G.1 vwCl [oX1 t_h t_a t_windows t_washes t_damp t_heard t_lines t_hour t_strings, arI G (t_a 10) 21 kt_pairs, arI G (t_a 11) 21 kt_knots] H → va_D A [oX1 t_h t_a t_windows t_washes t_damp t_heard t_lines t_hour t_strings, arI G (t_a 10) 21 kt_pairs, arI G (t_a 11) 21 kt_knots] → va_S A s.heap H locs → lv_has ls 5 [(0, .ref t_h), (1, .int v1), (2, .int v2), (3, .int k3)] → K k3 kt_pairs kt_knots = some (o_t_strings, o_t_pairs, o_t_knots) → W p l e ({ frames := 0, cells := 0, slots := 0, locals := 0 } : Room) s m args below meth c H locs 0 0 Q (F0 m 82 ls [])) → W p l e ({ frames := 0, cells := 0, slots := 0, locals := 0 } : Room) s m args below meth c H locs 0 0 Q (F0 m 21 ls []) := by
    intro t_strings K n
    induction n with
    | zero => intro l3 l4 t_pairs t_knots H locs ls hP hD hS hl hf; rw [fX1_addString_21] at hf; cases hf
    | succ n ih =>
      intro l3 l4 t_pairs t_knots H locs ls hP hD hS hl hf hX
      rw [fX1_addString_21] at hf
      refine lv_iload hx hb dX1_addString_21 (lv_at hl 4 rfl) ?_
      refine lv_if_le (tgt := 82) hx hb dX1_addString_23 (by decide) (fun c_2 => ?_) (fun c_2 => ?_)
      · have hf := ip c_2 hf
        exact hX _ _ _ _ _ _ hP hD hS (lv_sub hl [0, 1, 2, 3] rfl) hf
      · have hf := iq c_2 hf
        refine lv_aload_n hx hb dX1_addString_26 rfl (lv_at hl 0 rfl) ?_
        refine va_get (D := G.1) (ci := 1) (v := .ref (t_a 10)) (C := RX1) (T := TX1) (N := 12) hx hb hw inW1 hown hK.1 hP 0 rfl rfl 10 (by decide) (hw _ kw_3_11) (fun _ h9 => h9) rfl dX1_addString_27 ?_
        refine lv_iload hx hb dX1_addString_30 (lv_at hl 4 rfl) ?_
        refine lv_iconst (v := 1) hx hb dX1_addString_32 (by decide) ?_
        refine lv_isub hx hb dX1_addString_33 ?_
        obtain ⟨hi_4, hf⟩ := rdI_in hf
        refine va_iald hx hb hK.1 hP 1 0 rfl rfl hi_4 dX1_addString_34 ?_
        refine lv_topi (fun x_3 ex_3 => ?_)
        have hf := hf x_3 ex_3
        refine lv_iload_n hx hb dX1_addString_35 rfl (lv_at hl 1 rfl) ?_
        refine lv_icmp_le (tgt := 82) hx hb dX1_addString_36 (by decide) (fun c_5 => ?_) (fun c_5 => ?_)
        · have hf := ip c_5 hf
          exact hX _ _ _ _ _ _ hP hD hS (lv_sub hl [0, 1, 2, 3] rfl) hf
        · have hf := iq c_5 hf
          refine lv_aload_n hx hb dX1_addString_39 rfl (lv_at hl 0 rfl) ?_
          refine va_get (D := G.1) (ci := 1) (v := .ref (t_a 10)) (C := RX1) (T := TX1) (N := 12) hx hb hw inW1 hown hK.1 hP 0 rfl rfl 10 (by decide) (hw _ kw_3_11) (fun _ h9 => h9) rfl dX1_addString_40 ?_
          refine lv_iload hx hb dX1_addString_43 (lv_at hl 4 rfl) ?_
          refine lv_aload_n hx hb dX1_addString_45 rfl (lv_at hl 0 rfl) ?_
          refine va_get (D := G.1) (ci := 1) (v := .ref (t_a 10)) (C := RX1) (T := TX1) (N := 12) hx hb hw inW1 hown hK.1 hP 0 rfl rfl 10 (by decide) (hw _ kw_3_11) (fun _ h9 => h9) rfl dX1_addString_46 ?_
          refine lv_iload hx hb dX1_addString_49 (lv_at hl 4 rfl) ?_
          refine lv_iconst (v := 1) hx hb dX1_addString_51 (by decide) ?_
          refine lv_isub hx hb dX1_addString_52 ?_
          obtain ⟨hi_7, hf⟩ := rdI_in hf
          refine va_iald hx hb hK.1 hP 1 0 rfl rfl hi_7 dX1_addString_53 ?_
          refine lv_topi (fun x_6 ex_6 => ?_)
          have hf := hf x_6 ex_6
          obtain ⟨hi_9, hf⟩ := wrI_in hf
          refine xiast hx hb hK.1 hP hD hS 1 0 rfl rfl hi_9 dX1_addString_54 (fun t_pairs_8 H locs et_pairs_8 hP hD hS => ?_)
          have hf := hf t_pairs_8 et_pairs_8
          have hP : va_P G.1 vwCl [oX1 t_h t_a t_windows t_washes t_damp t_heard t_lines t_hour t_strings, arI G (t_a 10) 21 t_pairs_8, arI G (t_a 11) 21 t_knots] H := hP
          have hD : va_D A [oX1 t_h t_a t_windows t_washes t_damp t_heard t_lines t_hour t_strings, arI G (t_a 10) 21 t_pairs_8, arI G (t_a 11) 21 t_knots] := hD
          refine lv_aload_n hx hb dX1_addString_55 rfl (lv_at hl 0 rfl) ?_
          refine va_get (D := G.1) (ci := 1) (v := .ref (t_a 11)) (C := RX1) (T := TX1) (N := 12) hx hb hw inW1 hown hK.1 hP 0 rfl rfl 11 (by decide) (hw _ kw_3_12) (fun _ h9 => h9) rfl dX1_addString_56 ?_
          refine lv_iload hx hb dX1_addString_59 (lv_at hl 4 rfl) ?_
          refine lv_aload_n hx hb dX1_addString_61 rfl (lv_at hl 0 rfl) ?_
          refine va_get (D := G.1) (ci := 1) (v := .ref (t_a 11)) (C := RX1) (T := TX1) (N := 12) hx hb hw inW1 hown hK.1 hP 0 rfl rfl 11 (by decide) (hw _ kw_3_12) (fun _ h9 => h9) rfl dX1_addString_62 ?_
          refine lv_iload hx hb dX1_addString_65 (lv_at hl 4 rfl) ?_
          refine lv_iconst (v := 1) hx hb dX1_addString_67 (by decide) ?_
          refine lv_isub hx hb dX1_addString_68 ?_
          obtain ⟨hi_11, hf⟩ := rdI_in hf
          refine va_iald hx hb hK.1 hP 2 0 rfl rfl hi_11 dX1_addString_69 ?_
          refine lv_topi (fun x_10 ex_10 => ?_)
          have hf := hf x_10 ex_10
          obtain ⟨hi_13, hf⟩ := wrI_in hf
          refine xiast hx hb hK.1 hP hD hS 2 0 rfl rfl hi_13 dX1_addString_70 (fun t_knots_12 H locs et_knots_12 hP hD hS => ?_)
          have hf := hf t_knots_12 et_knots_12
          have hP : va_P G.1 vwCl [oX1 t_h t_a t_windows t_washes t_damp t_heard t_lines t_hour t_strings, arI G (t_a 10) 21 t_pairs_8, arI G (t_a 11) 21 t_knots_12] H := hP
          have hD : va_D A [oX1 t_h t_a t_windows t_washes t_damp t_heard t_lines t_hour t_strings, arI G (t_a 10) 21 t_pairs_8, arI G (t_a 11) 21 t_knots_12] := hD
          refine lv_iload hx hb dX1_addString_71 (lv_at hl 4 rfl) ?_
          refine lv_iconst (v := 1) hx hb dX1_addString_73 (by decide) ?_
          refine lv_isub hx hb dX1_addString_74 ?_
          refine lv_topi (fun y_14 ey_14 => ?_)
          have hf := bnd_all hf y_14 ey_14
          refine lv_istore_n (lv' := [(3, .int y_14), (0, .ref t_h), (1, .int v1), (2, .int v2), (4, .int l4)]) hx hb dX1_addString_75 rfl hl (by decide) rfl (fun ls hl => ?_)
          refine lv_iinc (v := (l4 + (-1))) (lv' := [(4, .int (l4 + (-1))), (3, .int y_14), (0, .ref t_h), (1, .int v1), (2, .int v2)]) hx hb dX1_addString_76 hl (k := 4) rfl (by rfl) (by decide) rfl (fun ls hl => ?_)
          refine lv_goto (tgt := 21) hx hb dX1_addString_79 (by decide) ?_
          exact ih _ _ _ _ _ _ _ hP hD hS (lv_sub hl [2, 3, 4, 1, 0] rfl) hf hX
  unfold fX1_addString at hf
  refine lv_aload_n hx hb dX1_addString_0 rfl (lv_at hl 0 rfl) ?_
  refine va_get (D := G.1) (ci := 1) (v := .int t_strings) (C := RX1) (T := TX1) (N := 12) hx hb hw inW1 hown hK.1 hP 0 rfl rfl 6 (by decide) (hw _ kw_3_23) (fun _ h9 => h9) rfl dX1_addString_1 ?_
  refine lv_bipush (v := 21) hx hb dX1_addString_4 (by decide) ?_
  refine lv_icmp_lt (tgt := 10) hx hb dX1_addString_6 (by decide) (fun c_1 => ?_) (fun c_1 => ?_)
  · have hf := ip c_1 hf
    refine lv_aload_n hx hb dX1_addString_10 rfl (lv_at hl 0 rfl) ?_
    refine va_get (D := G.1) (ci := 1) (v := .int t_strings) (C := RX1) (T := TX1) (N := 12) hx hb hw inW1 hown hK.1 hP 0 rfl rfl 6 (by decide) (hw _ kw_3_23) (fun _ h9 => h9) rfl dX1_addString_11 ?_
    refine lv_istore_n (lv' := [(3, .int t_strings), (0, .ref t_h), (1, .int v1), (2, .int v2)]) hx hb dX1_addString_14 rfl hl (by decide) rfl (fun ls hl => ?_)
    refine lv_aload_n hx hb dX1_addString_15 rfl (lv_at hl 1 rfl) ?_
    refine va_get (D := G.1) (ci := 1) (v := .int t_strings) (C := RX1) (T := TX1) (N := 12) hx hb hw inW1 hown hK.1 hP 0 rfl rfl 6 (by decide) (hw _ kw_3_23) (fun _ h9 => h9) rfl dX1_addString_16 ?_
    refine lv_istore (lv' := [(4, .int t_strings), (3, .int t_strings), (0, .ref t_h), (1, .int v1), (2, .int v2)]) hx hb dX1_addString_19 hl (by decide) rfl (fun ls hl => ?_)
    refine L21 _ _ _ _ _ _ _ _ _ _ hP hD hS (lv_sub hl [2, 3, 4, 1, 0] rfl) hf (fun w_15 t_pairs_16 t_knots_17 H locs ls hP hD hS hl hf => ?_)
    refine lv_aload_n hx hb dX1_addString_82 rfl (lv_at hl 0 rfl) ?_
    refine va_get (D := G.1) (ci := 1) (v := .ref (t_a 10)) (C := RX1) (T := TX1) (N := 12) hx hb hw inW1 hown hK.1 hP 0 rfl rfl 10 (by decide) (hw _ kw_3_11) (fun _ h9 => h9) rfl dX1_addString_83 ?_
    refine lv_iload_n hx hb dX1_addString_86 rfl (lv_at hl 3 rfl) ?_
    refine lv_iload_n hx hb dX1_addString_87 rfl (lv_at hl 1 rfl) ?_
    obtain ⟨hi_19, hf⟩ := wrI_in hf
    refine xiast hx hb hK.1 hP hD hS 1 0 rfl rfl hi_19 dX1_addString_88 (fun t_pairs_18 H locs et_pairs_18 hP hD hS => ?_)
    have hf := hf t_pairs_18 et_pairs_18
    have hP : va_P G.1 vwCl [oX1 t_h t_a t_windows t_washes t_damp t_heard t_lines t_hour t_strings, arI G (t_a 10) 21 t_pairs_18, arI G (t_a 11) 21 t_knots_17] H := hP
    have hD : va_D A [oX1 t_h t_a t_windows t_washes t_damp t_heard t_lines t_hour t_strings, arI G (t_a 10) 21 t_pairs_18, arI G (t_a 11) 21 t_knots_17] := hD
    refine lv_aload_n hx hb dX1_addString_89 rfl (lv_at hl 0 rfl) ?_
    refine va_get (D := G.1) (ci := 1) (v := .ref (t_a 11)) (C := RX1) (T := TX1) (N := 12) hx hb hw inW1 hown hK.1 hP 0 rfl rfl 11 (by decide) (hw _ kw_3_12) (fun _ h9 => h9) rfl dX1_addString_90 ?_
    refine lv_iload_n hx hb dX1_addString_93 rfl (lv_at hl 3 rfl) ?_
    refine lv_iload_n hx hb dX1_addString_94 rfl (lv_at hl 2 rfl) ?_
    obtain ⟨hi_21, hf⟩ := wrI_in hf
    refine xiast hx hb hK.1 hP hD hS 2 0 rfl rfl hi_21 dX1_addString_95 (fun t_knots_20 H locs et_knots_20 hP hD hS => ?_)
    have hf := hf t_knots_20 et_knots_20
    have hP : va_P G.1 vwCl [oX1 t_h t_a t_windows t_washes t_damp t_heard t_lines t_hour t_strings, arI G (t_a 10) 21 t_pairs_18, arI G (t_a 11) 21 t_knots_20] H := hP
    have hD : va_D A [oX1 t_h t_a t_windows t_washes t_damp t_heard t_lines t_hour t_strings, arI G (t_a 10) 21 t_pairs_18, arI G (t_a 11) 21 t_knots_20] := hD
    refine lv_aload_n hx hb dX1_addString_96 rfl (lv_at hl 0 rfl) ?_
    refine lv_dup hx hb dX1_addString_97 rfl ?_
    refine va_get (D := G.1) (ci := 1) (v := .int t_strings) (C := RX1) (T := TX1) (N := 12) hx hb hw inW1 hown hK.1 hP 0 rfl rfl 6 (by decide) (hw _ kw_3_23) (fun _ h9 => h9) rfl dX1_addString_98 ?_
    refine lv_iconst (v := 1) hx hb dX1_addString_101 (by decide) ?_
    refine lv_iadd hx hb dX1_addString_102 ?_
    refine lv_topi (fun y_22 ey_22 => ?_)
    have hf := bnd_all hf y_22 ey_22
    refine va_put (D := G.1) (ci := 1) (v := .int y_22) (ty := .int) (C := RX1) (T := TX1) (N := 12) hx hb hw inW1 tyX1 tyX1_ok nmX1 hown hK.1 hP hD hS 0 rfl rfl 6 (by decide) (hw _ kw_3_23) (fun _ h9 => h9) rfl (by decide +kernel) rfl rfl (Nat.le_of_ble_eq_true rfl) dX1_addString_103 (fun H locs hP hD hS => ?_)
    have hP : va_P G.1 vwCl [oX1 t_h t_a t_windows t_washes t_damp t_heard t_lines t_hour y_22, arI G (t_a 10) 21 t_pairs_18, arI G (t_a 11) 21 t_knots_20] H := hP
    have hD : va_D A [oX1 t_h t_a t_windows t_washes t_damp t_heard t_lines t_hour y_22, arI G (t_a 10) 21 t_pairs_18, arI G (t_a 11) 21 t_knots_20] := hD
    exact hRet _ _ _ _ _ _ _ hf hP hS dX1_addString_106
  · have hf := iq c_1 hf
    exact hRet _ _ _ _ _ _ _ hf hP hS dX1_addString_9
theorem calX1_hasWindow : CalV yX1_hasWindow cX1_hasWindow 2 (some .boolean) 1 := ⟨⟨kw_18_4, kw_1_19, by decide +kernel⟩, kw_18_2, kw_18_3⟩
set_option maxHeartbeats 8000000 in
set_option maxRecDepth 100000 in
theorem ctX1_hasWindow (l : Launch) (G : GT) (t_h : Nat) (t_a : Nat → Nat) (t_windows : Int32) (t_washes : Int32) (t_damp : Int32) (t_heard : Int32) (t_lines : Int32) (t_hour : Int32) (t_strings : Int32) (v1 : Int32) (r : Int32) (hf : fX1_hasWindow t_windows v1 = some r) : RdI l yX1_hasWindow (Cond.code yX1_hasWindow cX1_hasWindow 2 (some .boolean)) { frames := 0, cells := 0, slots := 0, locals := 0 } G [.ref t_h, .int v1] [oX1 t_h t_a t_windows t_washes t_damp t_heard t_lines t_hour t_strings] r := by
  intro sz
  refine Met.ofW (cc := cX1_hasWindow) (maxL := 2) (ret := (some .boolean)) (by decide) rfl ?_
  intro p e s m args below meth c s₁ B hml hv
  obtain ⟨hargs, hsz, hP, hK⟩ := hv
  subst hsz
  obtain ⟨hx, hb, hr, hw, hown, hlk⟩ := fwB B
  refine fw_enter hargs (Nat.le_of_ble_eq_true rfl) (fun ls hl => ?_)
  have hl : lv_has ls 2 [(0, .ref t_h), (1, .int v1)] := hl
  refine fw_Q (P := fun Q => ∃ A : Nat → Prop, va_S A s.heap s.heap [] ∧ (∀ q, s.heap.size ≤ q → A q) ∧ ∀ (v : Int32) (H : Heap) (locs : List Loc) (pc : Nat) (ls : Array Slot), some v = some r → va_S A s.heap H locs → narrow .boolean (.int v) = .int v → decode cX1_hasWindow pc = .ok (.ireturn, 1) → W p l e ({ frames := 0, cells := 0, slots := 0, locals := 0 } : Room) s m args below meth c H locs 0 0 Q (F0 m pc ls [.int v])) ⟨fun q => s.heap.size ≤ q, va_S.rf, fun q h => h, fun v H locs pc ls h hS hn hd => retRZ hx hb hr hlk hS hn h hd⟩ ?_
  rintro Q ⟨A, hS, hA, hRet⟩
  change W p l e ({ frames := 0, cells := 0, slots := 0, locals := 0 } : Room) s m args below meth c _ _ 0 0 Q _
  unfold fX1_hasWindow at hf
  refine lv_iload_n hx hb dX1_hasWindow_0 rfl (lv_at hl 1 rfl) ?_
  refine lv_if_lt (tgt := 16) hx hb dX1_hasWindow_1 (by decide) (fun c_1 => ?_) (fun c_1 => ?_)
  · have hf := ip c_1 hf
    refine lv_iconst (v := 0) hx hb dX1_hasWindow_16 (by decide) ?_
    exact hRet _ _ _ _ _ hf hS (by decide +kernel) dX1_hasWindow_17
  · have hf := iq c_1 hf
    refine lv_iload_n hx hb dX1_hasWindow_4 rfl (lv_at hl 1 rfl) ?_
    refine lv_aload_n hx hb dX1_hasWindow_5 rfl (lv_at hl 0 rfl) ?_
    refine va_get (D := G.1) (ci := 1) (v := .int t_windows) (C := RX1) (T := TX1) (N := 12) hx hb hw inW1 hown hK.1 hP 0 rfl rfl 0 (by decide) (hw _ kw_3_17) (fun _ h9 => h9) rfl dX1_hasWindow_6 ?_
    refine lv_icmp_ge (tgt := 16) hx hb dX1_hasWindow_9 (by decide) (fun c_2 => ?_) (fun c_2 => ?_)
    · have hf := ip c_2 hf
      refine lv_iconst (v := 0) hx hb dX1_hasWindow_16 (by decide) ?_
      exact hRet _ _ _ _ _ hf hS (by decide +kernel) dX1_hasWindow_17
    · have hf := iq c_2 hf
      refine lv_iconst (v := 1) hx hb dX1_hasWindow_12 (by decide) ?_
      refine lv_goto (tgt := 17) hx hb dX1_hasWindow_13 (by decide) ?_
      exact hRet _ _ _ _ _ hf hS (by decide +kernel) dX1_hasWindow_17
theorem calX1_slackAt : CalV yX1_slackAt cX1_slackAt 5 (some .boolean) 2 := ⟨⟨kw_18_19, kw_1_19, by decide +kernel⟩, kw_18_17, kw_18_18⟩
set_option maxHeartbeats 8000000 in
set_option maxRecDepth 100000 in
theorem ctX1_slackAt (l : Launch) (G : GT) (t_h : Nat) (t_a : Nat → Nat) (t_windows : Int32) (t_washes : Int32) (t_damp : Int32) (t_heard : Int32) (t_lines : Int32) (t_hour : Int32) (t_strings : Int32) (t_washPairs : Nat → Int32) (t_washHours : Nat → Int32) (v1 : Int32) (v2 : Int32) (r : Int32) (hf : fX1_slackAt t_washes t_washPairs t_washHours v1 v2 = some r) : RdI l yX1_slackAt (Cond.code yX1_slackAt cX1_slackAt 5 (some .boolean)) { frames := 2, cells := 0, slots := 0, locals := 46 } G [.ref t_h, .int v1, .int v2] [oX1 t_h t_a t_windows t_washes t_damp t_heard t_lines t_hour t_strings, arI G (t_a 8) 8 t_washPairs, arI G (t_a 9) 8 t_washHours] r := by
  intro sz
  refine Met.ofW (cc := cX1_slackAt) (maxL := 5) (ret := (some .boolean)) (by decide) rfl ?_
  intro p e s m args below meth c s₁ B hml hv
  obtain ⟨hargs, hsz, hP, hK⟩ := hv
  subst hsz
  obtain ⟨hx, hb, hr, hw, hown, hlk⟩ := fwB B
  refine fw_enter hargs (Nat.le_of_ble_eq_true rfl) (fun ls hl => ?_)
  have hl : lv_has ls 5 [(0, .ref t_h), (1, .int v1), (2, .int v2)] := hl
  refine fw_Q (P := fun Q => ∃ A : Nat → Prop, va_S A s.heap s.heap [] ∧ (∀ q, s.heap.size ≤ q → A q) ∧ ∀ (v : Int32) (H : Heap) (locs : List Loc) (pc : Nat) (ls : Array Slot), some v = some r → va_S A s.heap H locs → narrow .boolean (.int v) = .int v → decode cX1_slackAt pc = .ok (.ireturn, 1) → W p l e ({ frames := 2, cells := 0, slots := 0, locals := 46 } : Room) s m args below meth c H locs 0 0 Q (F0 m pc ls [.int v])) ⟨fun q => s.heap.size ≤ q, va_S.rf, fun q h => h, fun v H locs pc ls h hS hn hd => retRZ hx hb hr hlk hS hn h hd⟩ ?_
  rintro Q ⟨A, hS, hA, hRet⟩
  change W p l e ({ frames := 2, cells := 0, slots := 0, locals := 46 } : Room) s m args below meth c _ _ 0 0 Q _
  have L2 : ∀  (K : Option Int32) (n : Nat) (l3 : Int32) (H : Heap) (locs : List Loc) (ls : Array Slot), va_P G.1 vwCl [oX1 t_h t_a t_windows t_washes t_damp t_heard t_lines t_hour t_strings, arI G (t_a 8) 8 t_washPairs, arI G (t_a 9) 8 t_washHours] H → va_S A s.heap H locs → lv_has ls 5 [(0, .ref t_h), (1, .int v1), (2, .int v2), (3, .int l3)] → fX1_slackAt_2 v1 v2 t_washes t_washPairs t_washHours K n l3 = some r → (∀  (H : Heap) (locs : List Loc) (ls : Array Slot), va_P G.1 vwCl [oX1 t_h t_a t_windows t_washes t_damp t_heard t_lines t_hour t_strings, arI G (t_a 8) 8 t_washPairs, arI G (t_a 9) 8 t_washHours] H → va_S A s.heap H locs → lv_has ls 5 [] → K = some r → W p l e ({ frames := 2, cells := 0, slots := 0, locals := 46 } : Room) s m args below meth c H locs 0 0 Q (F0 m 59 ls [])) → W p l e ({ frames := 2, cells := 0, slots := 0, locals := 46 } : Room) s m args below meth c H locs 0 0 Q (F0 m 2 ls []) := by
    intro  K n
    induction n with
    | zero => intro l3 H locs ls hP hS hl hf; rw [fX1_slackAt_2] at hf; cases hf
    | succ n ih =>
      intro l3 H locs ls hP hS hl hf hX
      rw [fX1_slackAt_2] at hf
      refine lv_iload_n hx hb dX1_slackAt_2 rfl (lv_at hl 3 rfl) ?_
      refine lv_aload_n hx hb dX1_slackAt_3 rfl (lv_at hl 0 rfl) ?_
      refine va_get (D := G.1) (ci := 1) (v := .int t_washes) (C := RX1) (T := TX1) (N := 12) hx hb hw inW1 hown hK.1 hP 0 rfl rfl 1 (by decide) (hw _ kw_3_18) (fun _ h9 => h9) rfl dX1_slackAt_4 ?_
      refine lv_icmp_ge (tgt := 59) hx hb dX1_slackAt_7 (by decide) (fun c_1 => ?_) (fun c_1 => ?_)
      · have hf := ip c_1 hf
        exact hX  _ _ _ hP hS (lv_sub hl [] rfl) hf
      · have hf := iq c_1 hf
        refine lv_aload_n hx hb dX1_slackAt_10 rfl (lv_at hl 0 rfl) ?_
        refine va_get (D := G.1) (ci := 1) (v := .ref (t_a 9)) (C := RX1) (T := TX1) (N := 12) hx hb hw inW1 hown hK.1 hP 0 rfl rfl 9 (by decide) (hw _ kw_3_10) (fun _ h9 => h9) rfl dX1_slackAt_11 ?_
        refine lv_iload_n hx hb dX1_slackAt_14 rfl (lv_at hl 3 rfl) ?_
        obtain ⟨hi_3, hf⟩ := rdI_in hf
        refine va_iald hx hb hK.1 hP 2 0 rfl rfl hi_3 dX1_slackAt_15 ?_
        refine lv_topi (fun x_2 ex_2 => ?_)
        have hf := hf x_2 ex_2
        refine lv_iload_n hx hb dX1_slackAt_16 rfl (lv_at hl 2 rfl) ?_
        refine lv_bipush (v := 12) hx hb dX1_slackAt_17 (by decide) ?_
        refine lv_irem hx hb dX1_slackAt_19 (by decide) ?_
        refine lv_ishr hx hb dX1_slackAt_20 ?_
        refine lv_iconst (v := 1) hx hb dX1_slackAt_21 (by decide) ?_
        refine lv_iand hx hb dX1_slackAt_22 ?_
        refine jn_el hf (fun k_5 ek_5 hf => ?_)
        have J31 : ∀ (z_4 : Int32) (H : Heap) (locs : List Loc) (ls : Array Slot), va_P G.1 vwCl [oX1 t_h t_a t_windows t_washes t_damp t_heard t_lines t_hour t_strings, arI G (t_a 8) 8 t_washPairs, arI G (t_a 9) 8 t_washHours] H → va_S A s.heap H locs → lv_has ls 5 [(0, .ref t_h), (1, .int v1), (2, .int v2), (3, .int l3)] → k_5 z_4 = some r → W p l e ({ frames := 2, cells := 0, slots := 0, locals := 46 } : Room) s m args below meth c H locs 0 0 Q (F0 m 31 ls [.int z_4]) := by
          intro z_4 H locs ls hP hS hl hf
          rw [ek_5] at hf
          refine lv_istore (lv' := [(4, .int z_4), (0, .ref t_h), (1, .int v1), (2, .int v2), (3, .int l3)]) hx hb dX1_slackAt_31 hl (by decide) rfl (fun ls hl => ?_)
          refine lv_iload hx hb dX1_slackAt_33 (lv_at hl 0 rfl) ?_
          refine lv_if_eq (tgt := 53) hx hb dX1_slackAt_35 (by decide) (fun c_6 => ?_) (fun c_6 => ?_)
          · have hf := ip c_6 hf
            refine lv_iinc (v := (l3 + 1)) (lv' := [(3, .int (l3 + 1)), (4, .int z_4), (0, .ref t_h), (1, .int v1), (2, .int v2)]) hx hb dX1_slackAt_53 hl (k := 4) rfl (by rfl) (by decide) rfl (fun ls hl => ?_)
            refine lv_goto (tgt := 2) hx hb dX1_slackAt_56 (by decide) ?_
            exact ih _ _ _ _ hP hS (lv_sub hl [2, 3, 4, 0] rfl) hf hX
          · have hf := iq c_6 hf
            refine lv_iload_n hx hb dX1_slackAt_38 rfl (lv_at hl 2 rfl) ?_
            refine lv_aload_n hx hb dX1_slackAt_39 rfl (lv_at hl 1 rfl) ?_
            refine va_get (D := G.1) (ci := 1) (v := .ref (t_a 8)) (C := RX1) (T := TX1) (N := 12) hx hb hw inW1 hown hK.1 hP 0 rfl rfl 8 (by decide) (hw _ kw_3_9) (fun _ h9 => h9) rfl dX1_slackAt_40 ?_
            refine lv_iload_n hx hb dX1_slackAt_43 rfl (lv_at hl 4 rfl) ?_
            obtain ⟨hi_8, hf⟩ := rdI_in hf
            refine va_iald hx hb hK.1 hP 1 0 rfl rfl hi_8 dX1_slackAt_44 ?_
            refine lv_topi (fun x_7 ex_7 => ?_)
            have hf := hf x_7 ex_7
            obtain ⟨r_9, hc_10, hf⟩ := bd1_in hf
            refine rcI (va_runSN (As := [.int v1, .int x_7]) (rest := []) ⟨hx, hb, hml, hown, hw⟩ ((ctX7_crossing l G v1 x_7 _ hc_10) _) (kSN hw calX7_crossing (nm_9 hK.2) rfl rfl ⟨Nat.le_of_ble_eq_true rfl, Nat.le_of_ble_eq_true rfl⟩) (rpS (hP.sub (ws' := []) [] rfl) hK) rfl rfl hl.1 rfl (lv_room (Nat.le_of_ble_eq_true rfl)) dX1_slackAt_45 ⟨Nat.zero_le _, Nat.zero_le _⟩) hS hA hP (fun H locs hP hS => ?_)
            refine lv_if_eq (tgt := 53) hx hb dX1_slackAt_48 (by decide) (fun c_11 => ?_) (fun c_11 => ?_)
            · have hf := ip c_11 hf
              refine lv_iinc (v := (l3 + 1)) (lv' := [(3, .int (l3 + 1)), (4, .int z_4), (0, .ref t_h), (1, .int v1), (2, .int v2)]) hx hb dX1_slackAt_53 hl (k := 4) rfl (by rfl) (by decide) rfl (fun ls hl => ?_)
              refine lv_goto (tgt := 2) hx hb dX1_slackAt_56 (by decide) ?_
              exact ih _ _ _ _ hP hS (lv_sub hl [2, 3, 4, 0] rfl) hf hX
            · have hf := iq c_11 hf
              refine lv_iconst (v := 1) hx hb dX1_slackAt_51 (by decide) ?_
              exact hRet _ _ _ _ _ hf hS (by decide +kernel) dX1_slackAt_52
        refine lv_if_eq (tgt := 30) hx hb dX1_slackAt_23 (by decide) (fun c_12 => ?_) (fun c_12 => ?_)
        · have hf := ip c_12 hf
          refine lv_iconst (v := 0) hx hb dX1_slackAt_30 (by decide) ?_
          exact J31 _ _ _ _ hP hS (lv_sub hl [0, 1, 2, 3] rfl) hf
        · have hf := iq c_12 hf
          refine lv_iconst (v := 1) hx hb dX1_slackAt_26 (by decide) ?_
          refine lv_goto (tgt := 31) hx hb dX1_slackAt_27 (by decide) ?_
          exact J31 _ _ _ _ hP hS (lv_sub hl [0, 1, 2, 3] rfl) hf
  unfold fX1_slackAt at hf
  refine lv_iconst (v := 0) hx hb dX1_slackAt_0 (by decide) ?_
  refine lv_istore_n (lv' := [(3, .int 0), (0, .ref t_h), (1, .int v1), (2, .int v2)]) hx hb dX1_slackAt_1 rfl hl (by decide) rfl (fun ls hl => ?_)
  refine L2  _ _ _ _ _ _ hP hS (lv_sub hl [1, 2, 3, 0] rfl) hf (fun  H locs ls hP hS hl hf => ?_)
  refine lv_iconst (v := 0) hx hb dX1_slackAt_59 (by decide) ?_
  exact hRet _ _ _ _ _ hf hS (by decide +kernel) dX1_slackAt_60
theorem calX6_join : CalV yX6_join cX6_join 3 none 2 := ⟨⟨kw_18_23, kw_2_0, by decide +kernel⟩, kw_18_21, kw_18_22⟩
set_option maxHeartbeats 8000000 in
set_option maxRecDepth 100000 in
theorem ctX6_join (l : Launch) (G : GT) (t_h : Nat) (t_a : Nat → Nat) (t_windows : Int32) (t_links : Nat → Int32) (t_goal : Int32) (t_otherFrom : Int32) (t_otherTo : Int32) (t_least : Int32) (v1 : Int32) (v2 : Int32) (o_t_links : Nat → Int32) (hf : fX6_join t_links v1 v2 = some o_t_links) : WrV l yX6_join (Cond.code yX6_join cX6_join 3 none) { frames := 0, cells := 0, slots := 0, locals := 0 } G [.ref t_h, .int v1, .int v2] [oX6 t_h t_a t_windows t_goal t_otherFrom t_otherTo t_least, arI G (t_a 1) 12 t_links] [oX6 t_h t_a t_windows t_goal t_otherFrom t_otherTo t_least, arI G (t_a 1) 12 o_t_links] := by
  intro sz
  refine Met.ofW (cc := cX6_join) (maxL := 3) (ret := none) (by decide) rfl ?_
  intro p e s m args below meth c s₁ B hml hv
  obtain ⟨hargs, hsz, hP, hD0, hK⟩ := hv
  subst hsz
  obtain ⟨hx, hb, hr, hw, hown, hlk⟩ := fwB B
  refine fw_enter hargs (Nat.le_of_ble_eq_true rfl) (fun ls hl => ?_)
  have hl : lv_has ls 3 [(0, .ref t_h), (1, .int v1), (2, .int v2)] := hl
  refine fw_Q (P := fun Q => ∃ A : Nat → Prop, va_D A [oX6 t_h t_a t_windows t_goal t_otherFrom t_otherTo t_least, arI G (t_a 1) 12 t_links] ∧ va_S A s.heap s.heap [] ∧ (∀ q, s.heap.size ≤ q → A q) ∧ ∀ (n_t_links : Nat → Int32) (H : Heap) (locs : List Loc) (pc : Nat) (ls : Array Slot), some n_t_links = some o_t_links → va_P G.1 vwCl [oX6 t_h t_a t_windows t_goal t_otherFrom t_otherTo t_least, arI G (t_a 1) 12 n_t_links] H → va_S A s.heap H locs → decode cX6_join pc = .ok (.return_, 1) → W p l e ({ frames := 0, cells := 0, slots := 0, locals := 0 } : Room) s m args below meth c H locs 0 0 Q (F0 m pc ls [])) ⟨va_A [oX6 t_h t_a t_windows t_goal t_otherFrom t_otherTo t_least, arI G (t_a 1) 12 t_links] s.heap.size, hD0.self (sz := s.heap.size), va_S.rf, fun q h => Or.inr h, ?_⟩ ?_
  · intro n_t_links H locs pc ls h hP hS hd
    cases h
    exact retWV hx hb hr hlk hS hP hd
  rintro Q ⟨A, hD, hS, hA, hRet⟩
  change W p l e ({ frames := 0, cells := 0, slots := 0, locals := 0 } : Room) s m args below meth c _ _ 0 0 Q _
  unfold fX6_join at hf
  refine lv_aload_n hx hb dX6_join_0 rfl (lv_at hl 0 rfl) ?_
  refine va_get (D := G.1) (ci := 6) (v := .ref (t_a 1)) (C := RX6) (T := TX6) (N := 9) hx hb hw inW6 hown hK.1 hP 0 rfl rfl 1 (by decide) (hw _ kw_4_7) (fun _ h9 => h9) rfl dX6_join_1 ?_
  refine lv_iload_n hx hb dX6_join_4 rfl (lv_at hl 1 rfl) ?_
  refine lv_dup2_11 hx hb dX6_join_5 rfl rfl ?_
  obtain ⟨hi_2, hf⟩ := rdI_in hf
  refine va_iald hx hb hK.1 hP 1 0 rfl rfl hi_2 dX6_join_6 ?_
  refine lv_topi (fun x_1 ex_1 => ?_)
  have hf := hf x_1 ex_1
  refine lv_iconst (v := 1) hx hb dX6_join_7 (by decide) ?_
  refine lv_iload_n hx hb dX6_join_8 rfl (lv_at hl 2 rfl) ?_
  refine lv_ishl hx hb dX6_join_9 ?_
  refine lv_ior hx hb dX6_join_10 ?_
  obtain ⟨hi_4, hf⟩ := wrI_in hf
  refine xiast hx hb hK.1 hP hD hS 1 0 rfl rfl hi_4 dX6_join_11 (fun t_links_3 H locs et_links_3 hP hD hS => ?_)
  have hf := hf t_links_3 et_links_3
  have hP : va_P G.1 vwCl [oX6 t_h t_a t_windows t_goal t_otherFrom t_otherTo t_least, arI G (t_a 1) 12 t_links_3] H := hP
  have hD : va_D A [oX6 t_h t_a t_windows t_goal t_otherFrom t_otherTo t_least, arI G (t_a 1) 12 t_links_3] := hD
  refine lv_aload_n hx hb dX6_join_12 rfl (lv_at hl 0 rfl) ?_
  refine va_get (D := G.1) (ci := 6) (v := .ref (t_a 1)) (C := RX6) (T := TX6) (N := 9) hx hb hw inW6 hown hK.1 hP 0 rfl rfl 1 (by decide) (hw _ kw_4_7) (fun _ h9 => h9) rfl dX6_join_13 ?_
  refine lv_iload_n hx hb dX6_join_16 rfl (lv_at hl 2 rfl) ?_
  refine lv_dup2_11 hx hb dX6_join_17 rfl rfl ?_
  obtain ⟨hi_6, hf⟩ := rdI_in hf
  refine va_iald hx hb hK.1 hP 1 0 rfl rfl hi_6 dX6_join_18 ?_
  refine lv_topi (fun x_5 ex_5 => ?_)
  have hf := hf x_5 ex_5
  refine lv_iconst (v := 1) hx hb dX6_join_19 (by decide) ?_
  refine lv_iload_n hx hb dX6_join_20 rfl (lv_at hl 1 rfl) ?_
  refine lv_ishl hx hb dX6_join_21 ?_
  refine lv_ior hx hb dX6_join_22 ?_
  obtain ⟨hi_8, hf⟩ := wrI_in hf
  refine xiast hx hb hK.1 hP hD hS 1 0 rfl rfl hi_8 dX6_join_23 (fun t_links_7 H locs et_links_7 hP hD hS => ?_)
  have hf := hf t_links_7 et_links_7
  have hP : va_P G.1 vwCl [oX6 t_h t_a t_windows t_goal t_otherFrom t_otherTo t_least, arI G (t_a 1) 12 t_links_7] H := hP
  have hD : va_D A [oX6 t_h t_a t_windows t_goal t_otherFrom t_otherTo t_least, arI G (t_a 1) 12 t_links_7] := hD
  exact hRet _ _ _ _ _ hf hP hS dX6_join_24
theorem calX1_lengthOf : CalV yX1_lengthOf cX1_lengthOf 3 (some .int) 1 := ⟨⟨kw_19_11, kw_1_19, by decide +kernel⟩, kw_19_9, kw_19_10⟩
set_option maxHeartbeats 8000000 in
set_option maxRecDepth 100000 in
theorem ctX1_lengthOf (l : Launch) (G : GT) (t_h : Nat) (t_a : Nat → Nat) (t_windows : Int32) (t_washes : Int32) (t_damp : Int32) (t_heard : Int32) (t_lines : Int32) (t_hour : Int32) (t_strings : Int32) (v1 : Int32) (r : Int32) (hf : fX1_lengthOf t_windows v1 = some r) : RdI l yX1_lengthOf (Cond.code yX1_lengthOf cX1_lengthOf 3 (some .int)) { frames := 1, cells := 0, slots := 0, locals := 20 } G [.ref t_h, .int v1] [oX1 t_h t_a t_windows t_washes t_damp t_heard t_lines t_hour t_strings] r := by
  intro sz
  refine Met.ofW (cc := cX1_lengthOf) (maxL := 3) (ret := (some .int)) (by decide) rfl ?_
  intro p e s m args below meth c s₁ B hml hv
  obtain ⟨hargs, hsz, hP, hK⟩ := hv
  subst hsz
  obtain ⟨hx, hb, hr, hw, hown, hlk⟩ := fwB B
  refine fw_enter hargs (Nat.le_of_ble_eq_true rfl) (fun ls hl => ?_)
  have hl : lv_has ls 3 [(0, .ref t_h), (1, .int v1)] := hl
  refine fw_Q (P := fun Q => ∃ A : Nat → Prop, va_S A s.heap s.heap [] ∧ (∀ q, s.heap.size ≤ q → A q) ∧ ∀ (v : Int32) (H : Heap) (locs : List Loc) (pc : Nat) (ls : Array Slot), some v = some r → va_S A s.heap H locs → decode cX1_lengthOf pc = .ok (.ireturn, 1) → W p l e ({ frames := 1, cells := 0, slots := 0, locals := 20 } : Room) s m args below meth c H locs 0 0 Q (F0 m pc ls [.int v])) ⟨fun q => s.heap.size ≤ q, va_S.rf, fun q h => h, fun v H locs pc ls h hS hd => retRI hx hb hr hlk hS h hd⟩ ?_
  rintro Q ⟨A, hS, hA, hRet⟩
  change W p l e ({ frames := 1, cells := 0, slots := 0, locals := 20 } : Room) s m args below meth c _ _ 0 0 Q _
  unfold fX1_lengthOf at hf
  refine lv_iload_n hx hb dX1_lengthOf_0 rfl (lv_at hl 1 rfl) ?_
  obtain ⟨r_1, hc_2, hf⟩ := bd1_in hf
  refine rcI (va_runSN (As := [.int v1]) (rest := []) ⟨hx, hb, hml, hown, hw⟩ ((ctX7_greater l G v1 _ hc_2) _) (kSN hw calX7_greater (nm_8 hK.2) rfl rfl ⟨Nat.le_of_ble_eq_true rfl, Nat.le_of_ble_eq_true rfl⟩) (rpS (hP.sub (ws' := []) [] rfl) hK) rfl rfl hl.1 rfl (lv_room (Nat.le_of_ble_eq_true rfl)) dX1_lengthOf_1 ⟨Nat.zero_le _, Nat.zero_le _⟩) hS hA hP (fun H locs hP hS => ?_)
  refine lv_iload_n hx hb dX1_lengthOf_4 rfl (lv_at hl 1 rfl) ?_
  obtain ⟨r_3, hc_4, hf⟩ := bd1_in hf
  refine rcI (va_runSN (As := [.int v1]) (rest := [.int r_1]) ⟨hx, hb, hml, hown, hw⟩ ((ctX7_lesser l G v1 _ hc_4) _) (kSN hw calX7_lesser (nm_7 hK.2) rfl rfl ⟨Nat.le_of_ble_eq_true rfl, Nat.le_of_ble_eq_true rfl⟩) (rpS (hP.sub (ws' := []) [] rfl) hK) rfl rfl hl.1 rfl (lv_room (Nat.le_of_ble_eq_true rfl)) dX1_lengthOf_5 ⟨Nat.zero_le _, Nat.zero_le _⟩) hS hA hP (fun H locs hP hS => ?_)
  refine lv_isub hx hb dX1_lengthOf_8 ?_
  refine lv_topi (fun y_5 ey_5 => ?_)
  have hf := bnd_all hf y_5 ey_5
  refine lv_istore_n (lv' := [(2, .int y_5), (0, .ref t_h), (1, .int v1)]) hx hb dX1_lengthOf_9 rfl hl (by decide) rfl (fun ls hl => ?_)
  refine lv_iload_n hx hb dX1_lengthOf_10 rfl (lv_at hl 0 rfl) ?_
  refine lv_aload_n hx hb dX1_lengthOf_11 rfl (lv_at hl 1 rfl) ?_
  refine va_get (D := G.1) (ci := 1) (v := .int t_windows) (C := RX1) (T := TX1) (N := 12) hx hb hw inW1 hown hK.1 hP 0 rfl rfl 0 (by decide) (hw _ kw_3_17) (fun _ h9 => h9) rfl dX1_lengthOf_12 ?_
  refine lv_iload_n hx hb dX1_lengthOf_15 rfl (lv_at hl 0 rfl) ?_
  refine lv_isub hx hb dX1_lengthOf_16 ?_
  refine lv_imul hx hb dX1_lengthOf_17 ?_
  exact hRet _ _ _ _ _ hf hS dX1_lengthOf_18
theorem calX1_bareLoss : CalV yX1_bareLoss cX1_bareLoss 2 (some .int) 1 := ⟨⟨kw_19_7, kw_1_19, by decide +kernel⟩, kw_19_5, kw_19_6⟩
set_option maxHeartbeats 8000000 in
set_option maxRecDepth 100000 in
theorem ctX1_bareLoss (l : Launch) (G : GT) (t_h : Nat) (t_a : Nat → Nat) (t_windows : Int32) (t_washes : Int32) (t_damp : Int32) (t_heard : Int32) (t_lines : Int32) (t_hour : Int32) (t_strings : Int32) (v1 : Int32) (r : Int32) (hf : fX1_bareLoss t_windows t_damp v1 = some r) : RdI l yX1_bareLoss (Cond.code yX1_bareLoss cX1_bareLoss 2 (some .int)) { frames := 2, cells := 0, slots := 0, locals := 42 } G [.ref t_h, .int v1] [oX1 t_h t_a t_windows t_washes t_damp t_heard t_lines t_hour t_strings] r := by
  intro sz
  refine Met.ofW (cc := cX1_bareLoss) (maxL := 2) (ret := (some .int)) (by decide) rfl ?_
  intro p e s m args below meth c s₁ B hml hv
  obtain ⟨hargs, hsz, hP, hK⟩ := hv
  subst hsz
  obtain ⟨hx, hb, hr, hw, hown, hlk⟩ := fwB B
  refine fw_enter hargs (Nat.le_of_ble_eq_true rfl) (fun ls hl => ?_)
  have hl : lv_has ls 2 [(0, .ref t_h), (1, .int v1)] := hl
  refine fw_Q (P := fun Q => ∃ A : Nat → Prop, va_S A s.heap s.heap [] ∧ (∀ q, s.heap.size ≤ q → A q) ∧ ∀ (v : Int32) (H : Heap) (locs : List Loc) (pc : Nat) (ls : Array Slot), some v = some r → va_S A s.heap H locs → decode cX1_bareLoss pc = .ok (.ireturn, 1) → W p l e ({ frames := 2, cells := 0, slots := 0, locals := 42 } : Room) s m args below meth c H locs 0 0 Q (F0 m pc ls [.int v])) ⟨fun q => s.heap.size ≤ q, va_S.rf, fun q h => h, fun v H locs pc ls h hS hd => retRI hx hb hr hlk hS h hd⟩ ?_
  rintro Q ⟨A, hS, hA, hRet⟩
  change W p l e ({ frames := 2, cells := 0, slots := 0, locals := 42 } : Room) s m args below meth c _ _ 0 0 Q _
  unfold fX1_bareLoss at hf
  refine lv_aload_n hx hb dX1_bareLoss_0 rfl (lv_at hl 0 rfl) ?_
  refine lv_iload_n hx hb dX1_bareLoss_1 rfl (lv_at hl 1 rfl) ?_
  obtain ⟨r_1, hc_2, hf⟩ := bd1_in hf
  refine rcI (va_runV (As := [.int v1]) (rest := []) ⟨hx, hb, hml, hown, hw⟩ ((ctX1_lengthOf l G t_h t_a t_windows t_washes t_damp t_heard t_lines t_hour t_strings v1 _ hc_2) _) (kV hw calX1_lengthOf kw_19_8 rfl rfl ⟨Nat.le_of_ble_eq_true rfl, Nat.le_of_ble_eq_true rfl⟩) (rpV (hP.sub (ws' := [oX1 t_h t_a t_windows t_washes t_damp t_heard t_lines t_hour t_strings]) [0] rfl) hK (ci := 1) (q0 := 0) rfl rfl) rfl rfl hl.1 rfl (lv_room (Nat.le_of_ble_eq_true rfl)) dX1_bareLoss_2 ⟨Nat.zero_le _, Nat.zero_le _⟩) hS hA hP (fun H locs hP hS => ?_)
  refine lv_bipush (v := 10) hx hb dX1_bareLoss_5 (by decide) ?_
  refine lv_aload_n hx hb dX1_bareLoss_7 rfl (lv_at hl 0 rfl) ?_
  refine va_get (D := G.1) (ci := 1) (v := .int t_damp) (C := RX1) (T := TX1) (N := 12) hx hb hw inW1 hown hK.1 hP 0 rfl rfl 2 (by decide) (hw _ kw_3_19) (fun _ h9 => h9) rfl dX1_bareLoss_8 ?_
  refine lv_iadd hx hb dX1_bareLoss_11 ?_
  refine lv_imul hx hb dX1_bareLoss_12 ?_
  refine lv_bipush (v := 10) hx hb dX1_bareLoss_13 (by decide) ?_
  refine lv_idiv hx hb dX1_bareLoss_15 (by decide) ?_
  exact hRet _ _ _ _ _ hf hS dX1_bareLoss_16
theorem calX1_lossAt : CalV yX1_lossAt cX1_lossAt 2 (some .int) 1 := ⟨⟨kw_19_3, kw_1_19, by decide +kernel⟩, kw_19_1, kw_19_2⟩
set_option maxHeartbeats 8000000 in
set_option maxRecDepth 100000 in
theorem ctX1_lossAt (l : Launch) (G : GT) (t_h : Nat) (t_a : Nat → Nat) (t_windows : Int32) (t_washes : Int32) (t_damp : Int32) (t_heard : Int32) (t_lines : Int32) (t_hour : Int32) (t_strings : Int32) (t_pairs : Nat → Int32) (t_knots : Nat → Int32) (v1 : Int32) (r : Int32) (hf : fX1_lossAt t_windows t_damp t_pairs t_knots v1 = some r) : RdI l yX1_lossAt (Cond.code yX1_lossAt cX1_lossAt 2 (some .int)) { frames := 3, cells := 0, slots := 0, locals := 63 } G [.ref t_h, .int v1] [oX1 t_h t_a t_windows t_washes t_damp t_heard t_lines t_hour t_strings, arI G (t_a 10) 21 t_pairs, arI G (t_a 11) 21 t_knots] r := by
  intro sz
  refine Met.ofW (cc := cX1_lossAt) (maxL := 2) (ret := (some .int)) (by decide) rfl ?_
  intro p e s m args below meth c s₁ B hml hv
  obtain ⟨hargs, hsz, hP, hK⟩ := hv
  subst hsz
  obtain ⟨hx, hb, hr, hw, hown, hlk⟩ := fwB B
  refine fw_enter hargs (Nat.le_of_ble_eq_true rfl) (fun ls hl => ?_)
  have hl : lv_has ls 2 [(0, .ref t_h), (1, .int v1)] := hl
  refine fw_Q (P := fun Q => ∃ A : Nat → Prop, va_S A s.heap s.heap [] ∧ (∀ q, s.heap.size ≤ q → A q) ∧ ∀ (v : Int32) (H : Heap) (locs : List Loc) (pc : Nat) (ls : Array Slot), some v = some r → va_S A s.heap H locs → decode cX1_lossAt pc = .ok (.ireturn, 1) → W p l e ({ frames := 3, cells := 0, slots := 0, locals := 63 } : Room) s m args below meth c H locs 0 0 Q (F0 m pc ls [.int v])) ⟨fun q => s.heap.size ≤ q, va_S.rf, fun q h => h, fun v H locs pc ls h hS hd => retRI hx hb hr hlk hS h hd⟩ ?_
  rintro Q ⟨A, hS, hA, hRet⟩
  change W p l e ({ frames := 3, cells := 0, slots := 0, locals := 63 } : Room) s m args below meth c _ _ 0 0 Q _
  unfold fX1_lossAt at hf
  refine lv_aload_n hx hb dX1_lossAt_0 rfl (lv_at hl 0 rfl) ?_
  refine lv_aload_n hx hb dX1_lossAt_1 rfl (lv_at hl 0 rfl) ?_
  refine va_get (D := G.1) (ci := 1) (v := .ref (t_a 10)) (C := RX1) (T := TX1) (N := 12) hx hb hw inW1 hown hK.1 hP 0 rfl rfl 10 (by decide) (hw _ kw_3_11) (fun _ h9 => h9) rfl dX1_lossAt_2 ?_
  refine lv_iload_n hx hb dX1_lossAt_5 rfl (lv_at hl 1 rfl) ?_
  obtain ⟨hi_2, hf⟩ := rdI_in hf
  refine va_iald hx hb hK.1 hP 1 0 rfl rfl hi_2 dX1_lossAt_6 ?_
  refine lv_topi (fun x_1 ex_1 => ?_)
  have hf := hf x_1 ex_1
  obtain ⟨r_3, hc_4, hf⟩ := bd1_in hf
  refine rcI (va_runV (As := [.int x_1]) (rest := []) ⟨hx, hb, hml, hown, hw⟩ ((ctX1_bareLoss l G t_h t_a t_windows t_washes t_damp t_heard t_lines t_hour t_strings x_1 _ hc_4) _) (kV hw calX1_bareLoss kw_19_4 rfl rfl ⟨Nat.le_of_ble_eq_true rfl, Nat.le_of_ble_eq_true rfl⟩) (rpV (hP.sub (ws' := [oX1 t_h t_a t_windows t_washes t_damp t_heard t_lines t_hour t_strings]) [0] rfl) hK (ci := 1) (q0 := 0) rfl rfl) rfl rfl hl.1 rfl (lv_room (Nat.le_of_ble_eq_true rfl)) dX1_lossAt_7 ⟨Nat.zero_le _, Nat.zero_le _⟩) hS hA hP (fun H locs hP hS => ?_)
  refine lv_iconst (v := 3) hx hb dX1_lossAt_10 (by decide) ?_
  refine lv_aload_n hx hb dX1_lossAt_11 rfl (lv_at hl 0 rfl) ?_
  refine va_get (D := G.1) (ci := 1) (v := .ref (t_a 11)) (C := RX1) (T := TX1) (N := 12) hx hb hw inW1 hown hK.1 hP 0 rfl rfl 11 (by decide) (hw _ kw_3_12) (fun _ h9 => h9) rfl dX1_lossAt_12 ?_
  refine lv_iload_n hx hb dX1_lossAt_15 rfl (lv_at hl 1 rfl) ?_
  obtain ⟨hi_6, hf⟩ := rdI_in hf
  refine va_iald hx hb hK.1 hP 2 0 rfl rfl hi_6 dX1_lossAt_16 ?_
  refine lv_topi (fun x_5 ex_5 => ?_)
  have hf := hf x_5 ex_5
  refine lv_imul hx hb dX1_lossAt_17 ?_
  refine lv_iadd hx hb dX1_lossAt_18 ?_
  exact hRet _ _ _ _ _ hf hS dX1_lossAt_19
theorem calX6_setLoss : CalV yX6_setLoss cX6_setLoss 5 none 3 := ⟨⟨kw_19_15, kw_2_0, by decide +kernel⟩, kw_19_13, kw_19_14⟩
set_option maxHeartbeats 8000000 in
set_option maxRecDepth 100000 in
theorem ctX6_setLoss (l : Launch) (G : GT) (t_h : Nat) (t_a : Nat → Nat) (t_windows : Int32) (t_prices : Nat → Int32) (t_goal : Int32) (t_otherFrom : Int32) (t_otherTo : Int32) (t_least : Int32) (v1 : Int32) (v2 : Int32) (v3 : Int32) (o_t_prices : Nat → Int32) (hf : fX6_setLoss t_prices v1 v2 v3 = some o_t_prices) : WrV l yX6_setLoss (Cond.code yX6_setLoss cX6_setLoss 5 none) { frames := 0, cells := 0, slots := 0, locals := 0 } G [.ref t_h, .int v1, .int v2, .int v3] [oX6 t_h t_a t_windows t_goal t_otherFrom t_otherTo t_least, arI G (t_a 2) 144 t_prices] [oX6 t_h t_a t_windows t_goal t_otherFrom t_otherTo t_least, arI G (t_a 2) 144 o_t_prices] := by
  intro sz
  refine Met.ofW (cc := cX6_setLoss) (maxL := 5) (ret := none) (by decide) rfl ?_
  intro p e s m args below meth c s₁ B hml hv
  obtain ⟨hargs, hsz, hP, hD0, hK⟩ := hv
  subst hsz
  obtain ⟨hx, hb, hr, hw, hown, hlk⟩ := fwB B
  refine fw_enter hargs (Nat.le_of_ble_eq_true rfl) (fun ls hl => ?_)
  have hl : lv_has ls 5 [(0, .ref t_h), (1, .int v1), (2, .int v2), (3, .int v3)] := hl
  refine fw_Q (P := fun Q => ∃ A : Nat → Prop, va_D A [oX6 t_h t_a t_windows t_goal t_otherFrom t_otherTo t_least, arI G (t_a 2) 144 t_prices] ∧ va_S A s.heap s.heap [] ∧ (∀ q, s.heap.size ≤ q → A q) ∧ ∀ (n_t_prices : Nat → Int32) (H : Heap) (locs : List Loc) (pc : Nat) (ls : Array Slot), some n_t_prices = some o_t_prices → va_P G.1 vwCl [oX6 t_h t_a t_windows t_goal t_otherFrom t_otherTo t_least, arI G (t_a 2) 144 n_t_prices] H → va_S A s.heap H locs → decode cX6_setLoss pc = .ok (.return_, 1) → W p l e ({ frames := 0, cells := 0, slots := 0, locals := 0 } : Room) s m args below meth c H locs 0 0 Q (F0 m pc ls [])) ⟨va_A [oX6 t_h t_a t_windows t_goal t_otherFrom t_otherTo t_least, arI G (t_a 2) 144 t_prices] s.heap.size, hD0.self (sz := s.heap.size), va_S.rf, fun q h => Or.inr h, ?_⟩ ?_
  · intro n_t_prices H locs pc ls h hP hS hd
    cases h
    exact retWV hx hb hr hlk hS hP hd
  rintro Q ⟨A, hD, hS, hA, hRet⟩
  change W p l e ({ frames := 0, cells := 0, slots := 0, locals := 0 } : Room) s m args below meth c _ _ 0 0 Q _
  unfold fX6_setLoss at hf
  refine lv_bipush (v := 16) hx hb dX6_setLoss_0 (by decide) ?_
  refine lv_iload_n hx hb dX6_setLoss_2 rfl (lv_at hl 3 rfl) ?_
  refine lv_imul hx hb dX6_setLoss_3 ?_
  refine lv_iconst (v := 1) hx hb dX6_setLoss_4 (by decide) ?_
  refine lv_iadd hx hb dX6_setLoss_5 ?_
  refine lv_topi (fun y_1 ey_1 => ?_)
  have hf := bnd_all hf y_1 ey_1
  refine lv_istore (lv' := [(4, .int y_1), (0, .ref t_h), (1, .int v1), (2, .int v2), (3, .int v3)]) hx hb dX6_setLoss_6 hl (by decide) rfl (fun ls hl => ?_)
  refine lv_aload_n hx hb dX6_setLoss_8 rfl (lv_at hl 1 rfl) ?_
  refine va_get (D := G.1) (ci := 6) (v := .ref (t_a 2)) (C := RX6) (T := TX6) (N := 9) hx hb hw inW6 hown hK.1 hP 0 rfl rfl 2 (by decide) (hw _ kw_4_8) (fun _ h9 => h9) rfl dX6_setLoss_9 ?_
  refine lv_bipush (v := 12) hx hb dX6_setLoss_12 (by decide) ?_
  refine lv_iload_n hx hb dX6_setLoss_14 rfl (lv_at hl 2 rfl) ?_
  refine lv_imul hx hb dX6_setLoss_15 ?_
  refine lv_iload_n hx hb dX6_setLoss_16 rfl (lv_at hl 3 rfl) ?_
  refine lv_iadd hx hb dX6_setLoss_17 ?_
  refine lv_iload hx hb dX6_setLoss_18 (lv_at hl 0 rfl) ?_
  obtain ⟨hi_3, hf⟩ := wrI_in hf
  refine xiast hx hb hK.1 hP hD hS 1 0 rfl rfl hi_3 dX6_setLoss_20 (fun t_prices_2 H locs et_prices_2 hP hD hS => ?_)
  have hf := hf t_prices_2 et_prices_2
  have hP : va_P G.1 vwCl [oX6 t_h t_a t_windows t_goal t_otherFrom t_otherTo t_least, arI G (t_a 2) 144 t_prices_2] H := hP
  have hD : va_D A [oX6 t_h t_a t_windows t_goal t_otherFrom t_otherTo t_least, arI G (t_a 2) 144 t_prices_2] := hD
  refine lv_aload_n hx hb dX6_setLoss_21 rfl (lv_at hl 1 rfl) ?_
  refine va_get (D := G.1) (ci := 6) (v := .ref (t_a 2)) (C := RX6) (T := TX6) (N := 9) hx hb hw inW6 hown hK.1 hP 0 rfl rfl 2 (by decide) (hw _ kw_4_8) (fun _ h9 => h9) rfl dX6_setLoss_22 ?_
  refine lv_bipush (v := 12) hx hb dX6_setLoss_25 (by decide) ?_
  refine lv_iload_n hx hb dX6_setLoss_27 rfl (lv_at hl 3 rfl) ?_
  refine lv_imul hx hb dX6_setLoss_28 ?_
  refine lv_iload_n hx hb dX6_setLoss_29 rfl (lv_at hl 2 rfl) ?_
  refine lv_iadd hx hb dX6_setLoss_30 ?_
  refine lv_iload hx hb dX6_setLoss_31 (lv_at hl 0 rfl) ?_
  obtain ⟨hi_5, hf⟩ := wrI_in hf
  refine xiast hx hb hK.1 hP hD hS 1 0 rfl rfl hi_5 dX6_setLoss_33 (fun t_prices_4 H locs et_prices_4 hP hD hS => ?_)
  have hf := hf t_prices_4 et_prices_4
  have hP : va_P G.1 vwCl [oX6 t_h t_a t_windows t_goal t_otherFrom t_otherTo t_least, arI G (t_a 2) 144 t_prices_4] H := hP
  have hD : va_D A [oX6 t_h t_a t_windows t_goal t_otherFrom t_otherTo t_least, arI G (t_a 2) 144 t_prices_4] := hD
  exact hRet _ _ _ _ _ hf hP hS dX6_setLoss_34
theorem calX6_takeStrings : CalV yX6_takeStrings cX6_takeStrings 5 none 2 := ⟨⟨kw_18_13, kw_2_0, by decide +kernel⟩, kw_18_11, kw_18_12⟩
set_option maxHeartbeats 8000000 in
set_option maxRecDepth 100000 in
theorem ctX6_takeStrings (l : Launch) (G : GT) (t_h : Nat) (t_a : Nat → Nat) (p1_h : Nat) (p1_a : Nat → Nat) (t_windows : Int32) (t_links : Nat → Int32) (t_prices : Nat → Int32) (t_goal : Int32) (t_otherFrom : Int32) (t_otherTo : Int32) (t_least : Int32) (p1_windows : Int32) (p1_washes : Int32) (p1_damp : Int32) (p1_heard : Int32) (p1_lines : Int32) (p1_hour : Int32) (p1_strings : Int32) (p1_washPairs : Nat → Int32) (p1_washHours : Nat → Int32) (p1_pairs : Nat → Int32) (p1_knots : Nat → Int32) (v2 : Int32) (o_t_windows : Int32) (o_t_links : Nat → Int32) (o_t_prices : Nat → Int32) (hf : fX6_takeStrings t_windows t_links t_prices p1_windows p1_washes p1_damp p1_strings p1_washPairs p1_washHours p1_pairs p1_knots v2 = some (o_t_windows, o_t_links, o_t_prices)) : WrV l yX6_takeStrings (Cond.code yX6_takeStrings cX6_takeStrings 5 none) { frames := 4, cells := 0, slots := 0, locals := 84 } G [.ref t_h, .ref p1_h, .int v2] [oX6 t_h t_a t_windows t_goal t_otherFrom t_otherTo t_least, arI G (t_a 1) 12 t_links, arI G (t_a 2) 144 t_prices, oX1 p1_h p1_a p1_windows p1_washes p1_damp p1_heard p1_lines p1_hour p1_strings, arI G (p1_a 8) 8 p1_washPairs, arI G (p1_a 9) 8 p1_washHours, arI G (p1_a 10) 21 p1_pairs, arI G (p1_a 11) 21 p1_knots] [oX6 t_h t_a o_t_windows t_goal t_otherFrom t_otherTo t_least, arI G (t_a 1) 12 o_t_links, arI G (t_a 2) 144 o_t_prices, oX1 p1_h p1_a p1_windows p1_washes p1_damp p1_heard p1_lines p1_hour p1_strings, arI G (p1_a 8) 8 p1_washPairs, arI G (p1_a 9) 8 p1_washHours, arI G (p1_a 10) 21 p1_pairs, arI G (p1_a 11) 21 p1_knots] := by
  intro sz
  refine Met.ofW (cc := cX6_takeStrings) (maxL := 5) (ret := none) (by decide) rfl ?_
  intro p e s m args below meth c s₁ B hml hv
  obtain ⟨hargs, hsz, hP, hD0, hK⟩ := hv
  subst hsz
  obtain ⟨hx, hb, hr, hw, hown, hlk⟩ := fwB B
  refine fw_enter hargs (Nat.le_of_ble_eq_true rfl) (fun ls hl => ?_)
  have hl : lv_has ls 5 [(0, .ref t_h), (1, .ref p1_h), (2, .int v2)] := hl
  refine fw_Q (P := fun Q => ∃ A : Nat → Prop, va_D A [oX6 t_h t_a t_windows t_goal t_otherFrom t_otherTo t_least, arI G (t_a 1) 12 t_links, arI G (t_a 2) 144 t_prices, oX1 p1_h p1_a p1_windows p1_washes p1_damp p1_heard p1_lines p1_hour p1_strings, arI G (p1_a 8) 8 p1_washPairs, arI G (p1_a 9) 8 p1_washHours, arI G (p1_a 10) 21 p1_pairs, arI G (p1_a 11) 21 p1_knots] ∧ va_S A s.heap s.heap [] ∧ (∀ q, s.heap.size ≤ q → A q) ∧ ∀ (n_t_windows : Int32) (n_t_links : Nat → Int32) (n_t_prices : Nat → Int32) (H : Heap) (locs : List Loc) (pc : Nat) (ls : Array Slot), some (n_t_windows, n_t_links, n_t_prices) = some (o_t_windows, o_t_links, o_t_prices) → va_P G.1 vwCl [oX6 t_h t_a n_t_windows t_goal t_otherFrom t_otherTo t_least, arI G (t_a 1) 12 n_t_links, arI G (t_a 2) 144 n_t_prices, oX1 p1_h p1_a p1_windows p1_washes p1_damp p1_heard p1_lines p1_hour p1_strings, arI G (p1_a 8) 8 p1_washPairs, arI G (p1_a 9) 8 p1_washHours, arI G (p1_a 10) 21 p1_pairs, arI G (p1_a 11) 21 p1_knots] H → va_S A s.heap H locs → decode cX6_takeStrings pc = .ok (.return_, 1) → W p l e ({ frames := 4, cells := 0, slots := 0, locals := 84 } : Room) s m args below meth c H locs 0 0 Q (F0 m pc ls [])) ⟨va_A [oX6 t_h t_a t_windows t_goal t_otherFrom t_otherTo t_least, arI G (t_a 1) 12 t_links, arI G (t_a 2) 144 t_prices, oX1 p1_h p1_a p1_windows p1_washes p1_damp p1_heard p1_lines p1_hour p1_strings, arI G (p1_a 8) 8 p1_washPairs, arI G (p1_a 9) 8 p1_washHours, arI G (p1_a 10) 21 p1_pairs, arI G (p1_a 11) 21 p1_knots] s.heap.size, hD0.self (sz := s.heap.size), va_S.rf, fun q h => Or.inr h, ?_⟩ ?_
  · intro n_t_windows n_t_links n_t_prices H locs pc ls h hP hS hd
    cases h
    exact retWV hx hb hr hlk hS hP hd
  rintro Q ⟨A, hD, hS, hA, hRet⟩
  change W p l e ({ frames := 4, cells := 0, slots := 0, locals := 84 } : Room) s m args below meth c _ _ 0 0 Q _
  have L18 : ∀ (t_windows : Int32) (K : (Nat → Int32) → (Nat → Int32) → Option (Int32 × (Nat → Int32) × (Nat → Int32))) (n : Nat) (l3 : Int32) (t_links : Nat → Int32) (t_prices : Nat → Int32) (H : Heap) (locs : List Loc) (ls : Array Slot), va_P G.1 vwCl [oX6 t_h t_a t_windows t_goal t_otherFrom t_otherTo t_least, arI G (t_a 1) 12 t_links, arI G (t_a 2) 144 t_prices, oX1 p1_h p1_a p1_windows p1_washes p1_damp p1_heard p1_lines p1_hour p1_strings, arI G (p1_a 8) 8 p1_washPairs, arI G (p1_a 9) 8 p1_washHours, arI G (p1_a 10) 21 p1_pairs, arI G (p1_a 11) 21 p1_knots] H → va_D A [oX6 t_h t_a t_windows t_goal t_otherFrom t_otherTo t_least, arI G (t_a 1) 12 t_links, arI G (t_a 2) 144 t_prices, oX1 p1_h p1_a p1_windows p1_washes p1_damp p1_heard p1_lines p1_hour p1_strings, arI G (p1_a 8) 8 p1_washPairs, arI G (p1_a 9) 8 p1_washHours, arI G (p1_a 10) 21 p1_pairs, arI G (p1_a 11) 21 p1_knots] → va_S A s.heap H locs → lv_has ls 5 [(0, .ref t_h), (1, .ref p1_h), (2, .int v2), (3, .int l3)] → fX6_takeStrings_18 v2 p1_windows p1_washes p1_damp p1_strings p1_washPairs p1_washHours p1_pairs p1_knots K n l3 t_links t_prices = some (o_t_windows, o_t_links, o_t_prices) → (∀ (kt_links : Nat → Int32) (kt_prices : Nat → Int32) (H : Heap) (locs : List Loc) (ls : Array Slot), va_P G.1 vwCl [oX6 t_h t_a t_windows t_goal t_otherFrom t_otherTo t_least, arI G (t_a 1) 12 kt_links, arI G (t_a 2) 144 kt_prices, oX1 p1_h p1_a p1_windows p1_washes p1_damp p1_heard p1_lines p1_hour p1_strings, arI G (p1_a 8) 8 p1_washPairs, arI G (p1_a 9) 8 p1_washHours, arI G (p1_a 10) 21 p1_pairs, arI G (p1_a 11) 21 p1_knots] H → va_D A [oX6 t_h t_a t_windows t_goal t_otherFrom t_otherTo t_least, arI G (t_a 1) 12 kt_links, arI G (t_a 2) 144 kt_prices, oX1 p1_h p1_a p1_windows p1_washes p1_damp p1_heard p1_lines p1_hour p1_strings, arI G (p1_a 8) 8 p1_washPairs, arI G (p1_a 9) 8 p1_washHours, arI G (p1_a 10) 21 p1_pairs, arI G (p1_a 11) 21 p1_knots] → va_S A s.heap H locs → lv_has ls 5 [] → K kt_links kt_prices = some (o_t_windows, o_t_links, o_t_prices) → W p l e ({ frames := 4, cells := 0, slots := 0, locals := 84 } : Room) s m args below meth c H locs 0 0 Q (F0 m 83 ls [])) → W p l e ({ frames := 4, cells := 0, slots := 0, locals := 84 } : Room) s m args below meth c H locs 0 0 Q (F0 m 18 ls []) := by
    intro t_windows K n
    induction n with
    | zero => intro l3 t_links t_prices H locs ls hP hD hS hl hf; rw [fX6_takeStrings_18] at hf; cases hf
    | succ n ih =>
      intro l3 t_links t_prices H locs ls hP hD hS hl hf hX
      rw [fX6_takeStrings_18] at hf
      refine lv_iload_n hx hb dX6_takeStrings_18 rfl (lv_at hl 3 rfl) ?_
      refine lv_aload_n hx hb dX6_takeStrings_19 rfl (lv_at hl 1 rfl) ?_
      refine va_getN (D := G.1) (ci := 1) (v := .int p1_strings) (C := RX1) (T := TX1) (N := 12) hx hb hw inW1 hown hK.1 hP 3 rfl rfl 6 (by decide) ((nf_17 hK.2).use rfl) (fun _ h9 => h9) rfl dX6_takeStrings_20 ?_
      refine lv_icmp_ge (tgt := 83) hx hb dX6_takeStrings_23 (by decide) (fun c_3 => ?_) (fun c_3 => ?_)
      · have hf := ip c_3 hf
        exact hX _ _ _ _ _ hP hD hS (lv_sub hl [] rfl) hf
      · have hf := iq c_3 hf
        refine lv_aload_n hx hb dX6_takeStrings_26 rfl (lv_at hl 1 rfl) ?_
        refine va_getN (D := G.1) (ci := 1) (v := .ref (p1_a 10)) (C := RX1) (T := TX1) (N := 12) hx hb hw inW1 hown hK.1 hP 3 rfl rfl 10 (by decide) ((nf_23 hK.2).use rfl) (fun _ h9 => h9) rfl dX6_takeStrings_27 ?_
        refine lv_iload_n hx hb dX6_takeStrings_30 rfl (lv_at hl 3 rfl) ?_
        obtain ⟨hi_5, hf⟩ := rdI_in hf
        refine va_iald hx hb hK.1 hP 6 0 rfl rfl hi_5 dX6_takeStrings_31 ?_
        refine lv_topi (fun x_4 ex_4 => ?_)
        have hf := hf x_4 ex_4
        refine lv_istore (lv' := [(4, .int x_4), (0, .ref t_h), (1, .ref p1_h), (2, .int v2), (3, .int l3)]) hx hb dX6_takeStrings_32 hl (by decide) rfl (fun ls hl => ?_)
        refine lv_aload_n hx hb dX6_takeStrings_34 rfl (lv_at hl 2 rfl) ?_
        refine lv_iload hx hb dX6_takeStrings_35 (lv_at hl 0 rfl) ?_
        refine lv_iload_n hx hb dX6_takeStrings_37 rfl (lv_at hl 3 rfl) ?_
        obtain ⟨r_6, hc_7, hf⟩ := bd1_in hf
        refine rcI (va_runV (As := [.int x_4, .int v2]) (rest := []) ⟨hx, hb, hml, hown, hw⟩ ((ctX1_slackAt l G p1_h p1_a p1_windows p1_washes p1_damp p1_heard p1_lines p1_hour p1_strings p1_washPairs p1_washHours x_4 v2 _ hc_7) _) (kV hw calX1_slackAt kw_18_16 rfl rfl ⟨Nat.le_of_ble_eq_true rfl, Nat.le_of_ble_eq_true rfl⟩) (rpV (hP.sub (ws' := [oX1 p1_h p1_a p1_windows p1_washes p1_damp p1_heard p1_lines p1_hour p1_strings, arI G (p1_a 8) 8 p1_washPairs, arI G (p1_a 9) 8 p1_washHours]) [3, 4, 5] rfl) hK (ci := 1) (q0 := 0) rfl rfl) rfl rfl hl.1 rfl (lv_room (Nat.le_of_ble_eq_true rfl)) dX6_takeStrings_38 ⟨Nat.zero_le _, Nat.zero_le _⟩) hS hA hP (fun H locs hP hS => ?_)
        refine lv_if_ne (tgt := 77) hx hb dX6_takeStrings_41 (by decide) (fun c_8 => ?_) (fun c_8 => ?_)
        · have hf := iq c_8 hf
          refine lv_iinc (v := (l3 + 1)) (lv' := [(3, .int (l3 + 1)), (4, .int x_4), (0, .ref t_h), (1, .ref p1_h), (2, .int v2)]) hx hb dX6_takeStrings_77 hl (k := 4) rfl (by rfl) (by decide) rfl (fun ls hl => ?_)
          refine lv_goto (tgt := 18) hx hb dX6_takeStrings_80 (by decide) ?_
          exact ih _ _ _ _ _ _ hP hD hS (lv_sub hl [2, 3, 4, 0] rfl) hf hX
        · have hf := ip c_8 hf
          refine lv_aload_n hx hb dX6_takeStrings_44 rfl (lv_at hl 1 rfl) ?_
          refine lv_iload hx hb dX6_takeStrings_45 (lv_at hl 0 rfl) ?_
          obtain ⟨r_9, hc_10, hf⟩ := bd1_in hf
          refine rcI (va_runSN (As := [.int x_4]) (rest := [.ref t_h]) ⟨hx, hb, hml, hown, hw⟩ ((ctX7_lesser l G x_4 _ hc_10) _) (kSN hw calX7_lesser (nm_10 hK.2) rfl rfl ⟨Nat.le_of_ble_eq_true rfl, Nat.le_of_ble_eq_true rfl⟩) (rpS (hP.sub (ws' := []) [] rfl) hK) rfl rfl hl.1 rfl (lv_room (Nat.le_of_ble_eq_true rfl)) dX6_takeStrings_47 ⟨Nat.zero_le _, Nat.zero_le _⟩) hS hA hP (fun H locs hP hS => ?_)
          refine lv_iload hx hb dX6_takeStrings_50 (lv_at hl 0 rfl) ?_
          obtain ⟨r_11, hc_12, hf⟩ := bd1_in hf
          refine rcI (va_runSN (As := [.int x_4]) (rest := [.int r_9, .ref t_h]) ⟨hx, hb, hml, hown, hw⟩ ((ctX7_greater l G x_4 _ hc_12) _) (kSN hw calX7_greater (nm_11 hK.2) rfl rfl ⟨Nat.le_of_ble_eq_true rfl, Nat.le_of_ble_eq_true rfl⟩) (rpS (hP.sub (ws' := []) [] rfl) hK) rfl rfl hl.1 rfl (lv_room (Nat.le_of_ble_eq_true rfl)) dX6_takeStrings_52 ⟨Nat.zero_le _, Nat.zero_le _⟩) hS hA hP (fun H locs hP hS => ?_)
          obtain ⟨t_links_13, hc_14, hf⟩ := bd1_in hf
          refine wcV (w1 := [oX6 t_h t_a t_windows t_goal t_otherFrom t_otherTo t_least, arI G (t_a 1) 12 t_links_13]) (va_runV (As := [.int r_9, .int r_11]) (rest := []) ⟨hx, hb, hml, hown, hw⟩ ((ctX6_join l G t_h t_a t_windows t_links t_goal t_otherFrom t_otherTo t_least r_9 r_11 _ hc_14) _) (kV hw calX6_join kw_18_20 rfl rfl ⟨Nat.le_of_ble_eq_true rfl, Nat.le_of_ble_eq_true rfl⟩) (wpV (hP.sub (ws' := [oX6 t_h t_a t_windows t_goal t_otherFrom t_otherTo t_least, arI G (t_a 1) 12 t_links]) [0, 1] rfl) (hD.sub (ws' := [oX6 t_h t_a t_windows t_goal t_otherFrom t_otherTo t_least, arI G (t_a 1) 12 t_links]) [0, 1] (by decide) rfl) hK (ci := 6) (q0 := 0) rfl rfl) rfl rfl hl.1 rfl (lv_room (Nat.le_of_ble_eq_true rfl)) dX6_takeStrings_55 ⟨Nat.zero_le _, Nat.zero_le _⟩) hS hA hP hD [0, 1] rfl rfl (fun H locs hP hD hS => ?_)
          have hP : va_P G.1 vwCl [oX6 t_h t_a t_windows t_goal t_otherFrom t_otherTo t_least, arI G (t_a 1) 12 t_links_13, arI G (t_a 2) 144 t_prices, oX1 p1_h p1_a p1_windows p1_washes p1_damp p1_heard p1_lines p1_hour p1_strings, arI G (p1_a 8) 8 p1_washPairs, arI G (p1_a 9) 8 p1_washHours, arI G (p1_a 10) 21 p1_pairs, arI G (p1_a 11) 21 p1_knots] H := hP
          have hD : va_D A [oX6 t_h t_a t_windows t_goal t_otherFrom t_otherTo t_least, arI G (t_a 1) 12 t_links_13, arI G (t_a 2) 144 t_prices, oX1 p1_h p1_a p1_windows p1_washes p1_damp p1_heard p1_lines p1_hour p1_strings, arI G (p1_a 8) 8 p1_washPairs, arI G (p1_a 9) 8 p1_washHours, arI G (p1_a 10) 21 p1_pairs, arI G (p1_a 11) 21 p1_knots] := hD
          refine lv_aload_n hx hb dX6_takeStrings_58 rfl (lv_at hl 1 rfl) ?_
          refine lv_iload hx hb dX6_takeStrings_59 (lv_at hl 0 rfl) ?_
          obtain ⟨r_15, hc_16, hf⟩ := bd1_in hf
          refine rcI (va_runSN (As := [.int x_4]) (rest := [.ref t_h]) ⟨hx, hb, hml, hown, hw⟩ ((ctX7_lesser l G x_4 _ hc_16) _) (kSN hw calX7_lesser (nm_10 hK.2) rfl rfl ⟨Nat.le_of_ble_eq_true rfl, Nat.le_of_ble_eq_true rfl⟩) (rpS (hP.sub (ws' := []) [] rfl) hK) rfl rfl hl.1 rfl (lv_room (Nat.le_of_ble_eq_true rfl)) dX6_takeStrings_61 ⟨Nat.zero_le _, Nat.zero_le _⟩) hS hA hP (fun H locs hP hS => ?_)
          refine lv_iload hx hb dX6_takeStrings_64 (lv_at hl 0 rfl) ?_
          obtain ⟨r_17, hc_18, hf⟩ := bd1_in hf
          refine rcI (va_runSN (As := [.int x_4]) (rest := [.int r_15, .ref t_h]) ⟨hx, hb, hml, hown, hw⟩ ((ctX7_greater l G x_4 _ hc_18) _) (kSN hw calX7_greater (nm_11 hK.2) rfl rfl ⟨Nat.le_of_ble_eq_true rfl, Nat.le_of_ble_eq_true rfl⟩) (rpS (hP.sub (ws' := []) [] rfl) hK) rfl rfl hl.1 rfl (lv_room (Nat.le_of_ble_eq_true rfl)) dX6_takeStrings_66 ⟨Nat.zero_le _, Nat.zero_le _⟩) hS hA hP (fun H locs hP hS => ?_)
          refine lv_aload_n hx hb dX6_takeStrings_69 rfl (lv_at hl 2 rfl) ?_
          refine lv_iload_n hx hb dX6_takeStrings_70 rfl (lv_at hl 4 rfl) ?_
          obtain ⟨r_19, hc_20, hf⟩ := bd1_in hf
          refine rcI (va_runV (As := [.int l3]) (rest := [.int r_17, .int r_15, .ref t_h]) ⟨hx, hb, hml, hown, hw⟩ ((ctX1_lossAt l G p1_h p1_a p1_windows p1_washes p1_damp p1_heard p1_lines p1_hour p1_strings p1_pairs p1_knots l3 _ hc_20) _) (kV hw calX1_lossAt kw_19_0 rfl rfl ⟨Nat.le_of_ble_eq_true rfl, Nat.le_of_ble_eq_true rfl⟩) (rpV (hP.sub (ws' := [oX1 p1_h p1_a p1_windows p1_washes p1_damp p1_heard p1_lines p1_hour p1_strings, arI G (p1_a 10) 21 p1_pairs, arI G (p1_a 11) 21 p1_knots]) [3, 6, 7] rfl) hK (ci := 1) (q0 := 0) rfl rfl) rfl rfl hl.1 rfl (lv_room (Nat.le_of_ble_eq_true rfl)) dX6_takeStrings_71 ⟨Nat.zero_le _, Nat.zero_le _⟩) hS hA hP (fun H locs hP hS => ?_)
          obtain ⟨t_prices_21, hc_22, hf⟩ := bd1_in hf
          refine wcV (w1 := [oX6 t_h t_a t_windows t_goal t_otherFrom t_otherTo t_least, arI G (t_a 2) 144 t_prices_21]) (va_runV (As := [.int r_15, .int r_17, .int r_19]) (rest := []) ⟨hx, hb, hml, hown, hw⟩ ((ctX6_setLoss l G t_h t_a t_windows t_prices t_goal t_otherFrom t_otherTo t_least r_15 r_17 r_19 _ hc_22) _) (kV hw calX6_setLoss kw_19_12 rfl rfl ⟨Nat.le_of_ble_eq_true rfl, Nat.le_of_ble_eq_true rfl⟩) (wpV (hP.sub (ws' := [oX6 t_h t_a t_windows t_goal t_otherFrom t_otherTo t_least, arI G (t_a 2) 144 t_prices]) [0, 2] rfl) (hD.sub (ws' := [oX6 t_h t_a t_windows t_goal t_otherFrom t_otherTo t_least, arI G (t_a 2) 144 t_prices]) [0, 2] (by decide) rfl) hK (ci := 6) (q0 := 0) rfl rfl) rfl rfl hl.1 rfl (lv_room (Nat.le_of_ble_eq_true rfl)) dX6_takeStrings_74 ⟨Nat.zero_le _, Nat.zero_le _⟩) hS hA hP hD [0, 2] rfl rfl (fun H locs hP hD hS => ?_)
          have hP : va_P G.1 vwCl [oX6 t_h t_a t_windows t_goal t_otherFrom t_otherTo t_least, arI G (t_a 1) 12 t_links_13, arI G (t_a 2) 144 t_prices_21, oX1 p1_h p1_a p1_windows p1_washes p1_damp p1_heard p1_lines p1_hour p1_strings, arI G (p1_a 8) 8 p1_washPairs, arI G (p1_a 9) 8 p1_washHours, arI G (p1_a 10) 21 p1_pairs, arI G (p1_a 11) 21 p1_knots] H := hP
          have hD : va_D A [oX6 t_h t_a t_windows t_goal t_otherFrom t_otherTo t_least, arI G (t_a 1) 12 t_links_13, arI G (t_a 2) 144 t_prices_21, oX1 p1_h p1_a p1_windows p1_washes p1_damp p1_heard p1_lines p1_hour p1_strings, arI G (p1_a 8) 8 p1_washPairs, arI G (p1_a 9) 8 p1_washHours, arI G (p1_a 10) 21 p1_pairs, arI G (p1_a 11) 21 p1_knots] := hD
          refine lv_iinc (v := (l3 + 1)) (lv' := [(3, .int (l3 + 1)), (4, .int x_4), (0, .ref t_h), (1, .ref p1_h), (2, .int v2)]) hx hb dX6_takeStrings_77 hl (k := 4) rfl (by rfl) (by decide) rfl (fun ls hl => ?_)
          refine lv_goto (tgt := 18) hx hb dX6_takeStrings_80 (by decide) ?_
          exact ih _ _ _ _ _ _ hP hD hS (lv_sub hl [2, 3, 4, 0] rfl) hf hX
  unfold fX6_takeStrings at hf
  refine lv_aload_n hx hb dX6_takeStrings_0 rfl (lv_at hl 0 rfl) ?_
  refine lv_aload_n hx hb dX6_takeStrings_1 rfl (lv_at hl 1 rfl) ?_
  refine va_getN (D := G.1) (ci := 1) (v := .int p1_windows) (C := RX1) (T := TX1) (N := 12) hx hb hw inW1 hown hK.1 hP 3 rfl rfl 0 (by decide) ((nf_3 hK.2).use rfl) (fun _ h9 => h9) rfl dX6_takeStrings_2 ?_
  refine va_put (D := G.1) (ci := 6) (v := .int p1_windows) (ty := .int) (C := RX6) (T := TX6) (N := 9) hx hb hw inW6 tyX6 tyX6_ok nmX6 hown hK.1 hP hD hS 0 rfl rfl 0 (by decide) (hw _ kw_18_14) (fun _ h9 => h9) rfl (by decide +kernel) rfl rfl (Nat.le_of_ble_eq_true rfl) dX6_takeStrings_5 (fun H locs hP hD hS => ?_)
  have hP : va_P G.1 vwCl [oX6 t_h t_a p1_windows t_goal t_otherFrom t_otherTo t_least, arI G (t_a 1) 12 t_links, arI G (t_a 2) 144 t_prices, oX1 p1_h p1_a p1_windows p1_washes p1_damp p1_heard p1_lines p1_hour p1_strings, arI G (p1_a 8) 8 p1_washPairs, arI G (p1_a 9) 8 p1_washHours, arI G (p1_a 10) 21 p1_pairs, arI G (p1_a 11) 21 p1_knots] H := hP
  have hD : va_D A [oX6 t_h t_a p1_windows t_goal t_otherFrom t_otherTo t_least, arI G (t_a 1) 12 t_links, arI G (t_a 2) 144 t_prices, oX1 p1_h p1_a p1_windows p1_washes p1_damp p1_heard p1_lines p1_hour p1_strings, arI G (p1_a 8) 8 p1_washPairs, arI G (p1_a 9) 8 p1_washHours, arI G (p1_a 10) 21 p1_pairs, arI G (p1_a 11) 21 p1_knots] := hD
  refine lv_aload_n hx hb dX6_takeStrings_8 rfl (lv_at hl 0 rfl) ?_
  refine va_get (D := G.1) (ci := 6) (v := .ref (t_a 1)) (C := RX6) (T := TX6) (N := 9) hx hb hw inW6 hown hK.1 hP 0 rfl rfl 1 (by decide) (hw _ kw_4_7) (fun _ h9 => h9) rfl dX6_takeStrings_9 ?_
  refine lv_iconst (v := 0) hx hb dX6_takeStrings_12 (by decide) ?_
  obtain ⟨t_links_1, hc_2, hf⟩ := bd1_in hf
  refine wcV (w1 := [arI G (t_a 1) 12 t_links_1]) (va_runS (As := [.ref (t_a 1), .int 0]) (rest := []) ⟨hx, hb, hml, hown, hw⟩ ((ctJ7_fill_53178 l G 12 (t_a 1) t_links 0 _ hc_2) _) (kS hw calJ7_fill_53178 kw_18_15 rfl rfl ⟨Nat.le_of_ble_eq_true rfl, Nat.le_of_ble_eq_true rfl⟩) (wpS (hP.sub (ws' := [arI G (t_a 1) 12 t_links]) [1] rfl) (hD.sub (ws' := [arI G (t_a 1) 12 t_links]) [1] (by decide) rfl) hK) rfl rfl hl.1 rfl (lv_room (Nat.le_of_ble_eq_true rfl)) dX6_takeStrings_13 ⟨Nat.zero_le _, Nat.zero_le _⟩) hS hA hP hD [1] rfl rfl (fun H locs hP hD hS => ?_)
  have hP : va_P G.1 vwCl [oX6 t_h t_a p1_windows t_goal t_otherFrom t_otherTo t_least, arI G (t_a 1) 12 t_links_1, arI G (t_a 2) 144 t_prices, oX1 p1_h p1_a p1_windows p1_washes p1_damp p1_heard p1_lines p1_hour p1_strings, arI G (p1_a 8) 8 p1_washPairs, arI G (p1_a 9) 8 p1_washHours, arI G (p1_a 10) 21 p1_pairs, arI G (p1_a 11) 21 p1_knots] H := hP
  have hD : va_D A [oX6 t_h t_a p1_windows t_goal t_otherFrom t_otherTo t_least, arI G (t_a 1) 12 t_links_1, arI G (t_a 2) 144 t_prices, oX1 p1_h p1_a p1_windows p1_washes p1_damp p1_heard p1_lines p1_hour p1_strings, arI G (p1_a 8) 8 p1_washPairs, arI G (p1_a 9) 8 p1_washHours, arI G (p1_a 10) 21 p1_pairs, arI G (p1_a 11) 21 p1_knots] := hD
  refine lv_iconst (v := 0) hx hb dX6_takeStrings_16 (by decide) ?_
  refine lv_istore_n (lv' := [(3, .int 0), (0, .ref t_h), (1, .ref p1_h), (2, .int v2)]) hx hb dX6_takeStrings_17 rfl hl (by decide) rfl (fun ls hl => ?_)
  refine L18 _ _ _ _ _ _ _ _ _ hP hD hS (lv_sub hl [1, 2, 3, 0] rfl) hf (fun t_links_23 t_prices_24 H locs ls hP hD hS hl hf => ?_)
  exact hRet _ _ _ _ _ _ _ hf hP hS dX6_takeStrings_83
theorem calJ6_bitCount_0f7a4 : CalS yJ6_bitCount_0f7a4 cJ6_bitCount_0f7a4 1 (some .int) 1 := ⟨⟨kw_19_19, kw_19_18, by decide +kernel⟩, kw_19_17⟩
set_option maxHeartbeats 8000000 in
set_option maxRecDepth 100000 in
theorem ctJ6_bitCount_0f7a4 (l : Launch) (G : GT) (v0 : Int32) (r : Int32) (hf : fJ6_bitCount_0f7a4 v0 = some r) : RdI l yJ6_bitCount_0f7a4 (Cond.code yJ6_bitCount_0f7a4 cJ6_bitCount_0f7a4 1 (some .int)) { frames := 0, cells := 0, slots := 0, locals := 0 } G [.int v0] [] r := by
  intro sz
  refine Met.ofW (cc := cJ6_bitCount_0f7a4) (maxL := 1) (ret := (some .int)) (by decide) rfl ?_
  intro p e s m args below meth c s₁ B hml hv
  obtain ⟨hargs, hsz, hP, hK⟩ := hv
  subst hsz
  obtain ⟨hx, hb, hr, hw, hown, hlk⟩ := fwB B
  refine fw_enter hargs (Nat.le_of_ble_eq_true rfl) (fun ls hl => ?_)
  have hl : lv_has ls 1 [(0, .int v0)] := hl
  refine fw_Q (P := fun Q => ∃ A : Nat → Prop, va_S A s.heap s.heap [] ∧ (∀ q, s.heap.size ≤ q → A q) ∧ ∀ (v : Int32) (H : Heap) (locs : List Loc) (pc : Nat) (ls : Array Slot), some v = some r → va_S A s.heap H locs → decode cJ6_bitCount_0f7a4 pc = .ok (.ireturn, 1) → W p l e ({ frames := 0, cells := 0, slots := 0, locals := 0 } : Room) s m args below meth c H locs 0 0 Q (F0 m pc ls [.int v])) ⟨fun q => s.heap.size ≤ q, va_S.rf, fun q h => h, fun v H locs pc ls h hS hd => retRI hx hb hr hlk hS h hd⟩ ?_
  rintro Q ⟨A, hS, hA, hRet⟩
  change W p l e ({ frames := 0, cells := 0, slots := 0, locals := 0 } : Room) s m args below meth c _ _ 0 0 Q _
  unfold fJ6_bitCount_0f7a4 at hf
  refine lv_iload_n hx hb dJ6_bitCount_0f7a4_0 rfl (lv_at hl 0 rfl) ?_
  refine lv_iload_n hx hb dJ6_bitCount_0f7a4_1 rfl (lv_at hl 0 rfl) ?_
  refine lv_iconst (v := 1) hx hb dJ6_bitCount_0f7a4_2 (by decide) ?_
  refine lv_iushr hx hb dJ6_bitCount_0f7a4_3 rfl ?_
  refine lv_ldcw hx hb hown (hw _ kw_19_20) dJ6_bitCount_0f7a4_4 ?_
  refine lv_iand hx hb dJ6_bitCount_0f7a4_7 ?_
  refine lv_isub hx hb dJ6_bitCount_0f7a4_8 ?_
  refine lv_topi (fun y_1 ey_1 => ?_)
  have hf := bnd_all hf y_1 ey_1
  refine lv_istore_n (lv' := [(0, .int y_1)]) hx hb dJ6_bitCount_0f7a4_9 rfl hl (by decide) rfl (fun ls hl => ?_)
  refine lv_iload_n hx hb dJ6_bitCount_0f7a4_10 rfl (lv_at hl 0 rfl) ?_
  refine lv_ldcw hx hb hown (hw _ kw_19_21) dJ6_bitCount_0f7a4_11 ?_
  refine lv_iand hx hb dJ6_bitCount_0f7a4_14 ?_
  refine lv_iload_n hx hb dJ6_bitCount_0f7a4_15 rfl (lv_at hl 0 rfl) ?_
  refine lv_iconst (v := 2) hx hb dJ6_bitCount_0f7a4_16 (by decide) ?_
  refine lv_iushr hx hb dJ6_bitCount_0f7a4_17 rfl ?_
  refine lv_ldcw hx hb hown (hw _ kw_19_21) dJ6_bitCount_0f7a4_18 ?_
  refine lv_iand hx hb dJ6_bitCount_0f7a4_21 ?_
  refine lv_iadd hx hb dJ6_bitCount_0f7a4_22 ?_
  refine lv_topi (fun y_2 ey_2 => ?_)
  have hf := bnd_all hf y_2 ey_2
  refine lv_istore_n (lv' := [(0, .int y_2)]) hx hb dJ6_bitCount_0f7a4_23 rfl hl (by decide) rfl (fun ls hl => ?_)
  refine lv_iload_n hx hb dJ6_bitCount_0f7a4_24 rfl (lv_at hl 0 rfl) ?_
  refine lv_iload_n hx hb dJ6_bitCount_0f7a4_25 rfl (lv_at hl 0 rfl) ?_
  refine lv_iconst (v := 4) hx hb dJ6_bitCount_0f7a4_26 (by decide) ?_
  refine lv_iushr hx hb dJ6_bitCount_0f7a4_27 rfl ?_
  refine lv_iadd hx hb dJ6_bitCount_0f7a4_28 ?_
  refine lv_ldcw hx hb hown (hw _ kw_19_22) dJ6_bitCount_0f7a4_29 ?_
  refine lv_iand hx hb dJ6_bitCount_0f7a4_32 ?_
  refine lv_topi (fun y_3 ey_3 => ?_)
  have hf := bnd_all hf y_3 ey_3
  refine lv_istore_n (lv' := [(0, .int y_3)]) hx hb dJ6_bitCount_0f7a4_33 rfl hl (by decide) rfl (fun ls hl => ?_)
  refine lv_iload_n hx hb dJ6_bitCount_0f7a4_34 rfl (lv_at hl 0 rfl) ?_
  refine lv_iload_n hx hb dJ6_bitCount_0f7a4_35 rfl (lv_at hl 0 rfl) ?_
  refine lv_bipush (v := 8) hx hb dJ6_bitCount_0f7a4_36 (by decide) ?_
  refine lv_iushr hx hb dJ6_bitCount_0f7a4_38 rfl ?_
  refine lv_iadd hx hb dJ6_bitCount_0f7a4_39 ?_
  refine lv_topi (fun y_4 ey_4 => ?_)
  have hf := bnd_all hf y_4 ey_4
  refine lv_istore_n (lv' := [(0, .int y_4)]) hx hb dJ6_bitCount_0f7a4_40 rfl hl (by decide) rfl (fun ls hl => ?_)
  refine lv_iload_n hx hb dJ6_bitCount_0f7a4_41 rfl (lv_at hl 0 rfl) ?_
  refine lv_iload_n hx hb dJ6_bitCount_0f7a4_42 rfl (lv_at hl 0 rfl) ?_
  refine lv_bipush (v := 16) hx hb dJ6_bitCount_0f7a4_43 (by decide) ?_
  refine lv_iushr hx hb dJ6_bitCount_0f7a4_45 rfl ?_
  refine lv_iadd hx hb dJ6_bitCount_0f7a4_46 ?_
  refine lv_topi (fun y_5 ey_5 => ?_)
  have hf := bnd_all hf y_5 ey_5
  refine lv_istore_n (lv' := [(0, .int y_5)]) hx hb dJ6_bitCount_0f7a4_47 rfl hl (by decide) rfl (fun ls hl => ?_)
  refine lv_iload_n hx hb dJ6_bitCount_0f7a4_48 rfl (lv_at hl 0 rfl) ?_
  refine lv_bipush (v := 63) hx hb dJ6_bitCount_0f7a4_49 (by decide) ?_
  refine lv_iand hx hb dJ6_bitCount_0f7a4_51 ?_
  exact hRet _ _ _ _ _ hf hS dJ6_bitCount_0f7a4_52
theorem calX1_removeString : CalV yX1_removeString cX1_removeString 3 none 1 := ⟨⟨kw_24_9, kw_1_19, by decide +kernel⟩, kw_24_7, kw_24_8⟩
set_option maxHeartbeats 8000000 in
set_option maxRecDepth 100000 in
theorem ctX1_removeString (l : Launch) (G : GT) (t_h : Nat) (t_a : Nat → Nat) (t_windows : Int32) (t_washes : Int32) (t_damp : Int32) (t_heard : Int32) (t_lines : Int32) (t_hour : Int32) (t_strings : Int32) (t_pairs : Nat → Int32) (t_knots : Nat → Int32) (v1 : Int32) (o_t_strings : Int32) (o_t_pairs : Nat → Int32) (o_t_knots : Nat → Int32) (hf : fX1_removeString t_strings t_pairs t_knots v1 = some (o_t_strings, o_t_pairs, o_t_knots)) : WrV l yX1_removeString (Cond.code yX1_removeString cX1_removeString 3 none) { frames := 0, cells := 0, slots := 0, locals := 0 } G [.ref t_h, .int v1] [oX1 t_h t_a t_windows t_washes t_damp t_heard t_lines t_hour t_strings, arI G (t_a 10) 21 t_pairs, arI G (t_a 11) 21 t_knots] [oX1 t_h t_a t_windows t_washes t_damp t_heard t_lines t_hour o_t_strings, arI G (t_a 10) 21 o_t_pairs, arI G (t_a 11) 21 o_t_knots] := by
  intro sz
  refine Met.ofW (cc := cX1_removeString) (maxL := 3) (ret := none) (by decide) rfl ?_
  intro p e s m args below meth c s₁ B hml hv
  obtain ⟨hargs, hsz, hP, hD0, hK⟩ := hv
  subst hsz
  obtain ⟨hx, hb, hr, hw, hown, hlk⟩ := fwB B
  refine fw_enter hargs (Nat.le_of_ble_eq_true rfl) (fun ls hl => ?_)
  have hl : lv_has ls 3 [(0, .ref t_h), (1, .int v1)] := hl
  refine fw_Q (P := fun Q => ∃ A : Nat → Prop, va_D A [oX1 t_h t_a t_windows t_washes t_damp t_heard t_lines t_hour t_strings, arI G (t_a 10) 21 t_pairs, arI G (t_a 11) 21 t_knots] ∧ va_S A s.heap s.heap [] ∧ (∀ q, s.heap.size ≤ q → A q) ∧ ∀ (n_t_strings : Int32) (n_t_pairs : Nat → Int32) (n_t_knots : Nat → Int32) (H : Heap) (locs : List Loc) (pc : Nat) (ls : Array Slot), some (n_t_strings, n_t_pairs, n_t_knots) = some (o_t_strings, o_t_pairs, o_t_knots) → va_P G.1 vwCl [oX1 t_h t_a t_windows t_washes t_damp t_heard t_lines t_hour n_t_strings, arI G (t_a 10) 21 n_t_pairs, arI G (t_a 11) 21 n_t_knots] H → va_S A s.heap H locs → decode cX1_removeString pc = .ok (.return_, 1) → W p l e ({ frames := 0, cells := 0, slots := 0, locals := 0 } : Room) s m args below meth c H locs 0 0 Q (F0 m pc ls [])) ⟨va_A [oX1 t_h t_a t_windows t_washes t_damp t_heard t_lines t_hour t_strings, arI G (t_a 10) 21 t_pairs, arI G (t_a 11) 21 t_knots] s.heap.size, hD0.self (sz := s.heap.size), va_S.rf, fun q h => Or.inr h, ?_⟩ ?_
  · intro n_t_strings n_t_pairs n_t_knots H locs pc ls h hP hS hd
    cases h
    exact retWV hx hb hr hlk hS hP hd
  rintro Q ⟨A, hD, hS, hA, hRet⟩
  change W p l e ({ frames := 0, cells := 0, slots := 0, locals := 0 } : Room) s m args below meth c _ _ 0 0 Q _
  have L17 : ∀ (t_strings : Int32) (K : (Nat → Int32) → (Nat → Int32) → Option (Int32 × (Nat → Int32) × (Nat → Int32))) (n : Nat) (l2 : Int32) (t_pairs : Nat → Int32) (t_knots : Nat → Int32) (H : Heap) (locs : List Loc) (ls : Array Slot), va_P G.1 vwCl [oX1 t_h t_a t_windows t_washes t_damp t_heard t_lines t_hour t_strings, arI G (t_a 10) 21 t_pairs, arI G (t_a 11) 21 t_knots] H → va_D A [oX1 t_h t_a t_windows t_washes t_damp t_heard t_lines t_hour t_strings, arI G (t_a 10) 21 t_pairs, arI G (t_a 11) 21 t_knots] → va_S A s.heap H locs → lv_has ls 3 [(0, .ref t_h), (2, .int l2)] → fX1_removeString_17 t_strings K n l2 t_pairs t_knots = some (o_t_strings, o_t_pairs, o_t_knots) → (∀ (kt_pairs : Nat → Int32) (kt_knots : Nat → Int32) (H : Heap) (locs : List Loc) (ls : Array Slot), va_P G.1 vwCl [oX1 t_h t_a t_windows t_washes t_damp t_heard t_lines t_hour t_strings, arI G (t_a 10) 21 kt_pairs, arI G (t_a 11) 21 kt_knots] H → va_D A [oX1 t_h t_a t_windows t_washes t_damp t_heard t_lines t_hour t_strings, arI G (t_a 10) 21 kt_pairs, arI G (t_a 11) 21 kt_knots] → va_S A s.heap H locs → lv_has ls 3 [(0, .ref t_h)] → K kt_pairs kt_knots = some (o_t_strings, o_t_pairs, o_t_knots) → W p l e ({ frames := 0, cells := 0, slots := 0, locals := 0 } : Room) s m args below meth c H locs 0 0 Q (F0 m 59 ls [])) → W p l e ({ frames := 0, cells := 0, slots := 0, locals := 0 } : Room) s m args below meth c H locs 0 0 Q (F0 m 17 ls []) := by
    intro t_strings K n
    induction n with
    | zero => intro l2 t_pairs t_knots H locs ls hP hD hS hl hf; rw [fX1_removeString_17] at hf; cases hf
    | succ n ih =>
      intro l2 t_pairs t_knots H locs ls hP hD hS hl hf hX
      rw [fX1_removeString_17] at hf
      refine lv_iload_n hx hb dX1_removeString_17 rfl (lv_at hl 1 rfl) ?_
      refine lv_aload_n hx hb dX1_removeString_18 rfl (lv_at hl 0 rfl) ?_
      refine va_get (D := G.1) (ci := 1) (v := .int t_strings) (C := RX1) (T := TX1) (N := 12) hx hb hw inW1 hown hK.1 hP 0 rfl rfl 6 (by decide) (hw _ kw_3_23) (fun _ h9 => h9) rfl dX1_removeString_19 ?_
      refine lv_icmp_ge (tgt := 59) hx hb dX1_removeString_22 (by decide) (fun c_4 => ?_) (fun c_4 => ?_)
      · have hf := ip c_4 hf
        exact hX _ _ _ _ _ hP hD hS (lv_sub hl [0] rfl) hf
      · have hf := iq c_4 hf
        refine lv_aload_n hx hb dX1_removeString_25 rfl (lv_at hl 0 rfl) ?_
        refine va_get (D := G.1) (ci := 1) (v := .ref (t_a 10)) (C := RX1) (T := TX1) (N := 12) hx hb hw inW1 hown hK.1 hP 0 rfl rfl 10 (by decide) (hw _ kw_3_11) (fun _ h9 => h9) rfl dX1_removeString_26 ?_
        refine lv_iload_n hx hb dX1_removeString_29 rfl (lv_at hl 1 rfl) ?_
        refine lv_iconst (v := 1) hx hb dX1_removeString_30 (by decide) ?_
        refine lv_isub hx hb dX1_removeString_31 ?_
        refine lv_aload_n hx hb dX1_removeString_32 rfl (lv_at hl 0 rfl) ?_
        refine va_get (D := G.1) (ci := 1) (v := .ref (t_a 10)) (C := RX1) (T := TX1) (N := 12) hx hb hw inW1 hown hK.1 hP 0 rfl rfl 10 (by decide) (hw _ kw_3_11) (fun _ h9 => h9) rfl dX1_removeString_33 ?_
        refine lv_iload_n hx hb dX1_removeString_36 rfl (lv_at hl 1 rfl) ?_
        obtain ⟨hi_6, hf⟩ := rdI_in hf
        refine va_iald hx hb hK.1 hP 1 0 rfl rfl hi_6 dX1_removeString_37 ?_
        refine lv_topi (fun x_5 ex_5 => ?_)
        have hf := hf x_5 ex_5
        obtain ⟨hi_8, hf⟩ := wrI_in hf
        refine xiast hx hb hK.1 hP hD hS 1 0 rfl rfl hi_8 dX1_removeString_38 (fun t_pairs_7 H locs et_pairs_7 hP hD hS => ?_)
        have hf := hf t_pairs_7 et_pairs_7
        have hP : va_P G.1 vwCl [oX1 t_h t_a t_windows t_washes t_damp t_heard t_lines t_hour t_strings, arI G (t_a 10) 21 t_pairs_7, arI G (t_a 11) 21 t_knots] H := hP
        have hD : va_D A [oX1 t_h t_a t_windows t_washes t_damp t_heard t_lines t_hour t_strings, arI G (t_a 10) 21 t_pairs_7, arI G (t_a 11) 21 t_knots] := hD
        refine lv_aload_n hx hb dX1_removeString_39 rfl (lv_at hl 0 rfl) ?_
        refine va_get (D := G.1) (ci := 1) (v := .ref (t_a 11)) (C := RX1) (T := TX1) (N := 12) hx hb hw inW1 hown hK.1 hP 0 rfl rfl 11 (by decide) (hw _ kw_3_12) (fun _ h9 => h9) rfl dX1_removeString_40 ?_
        refine lv_iload_n hx hb dX1_removeString_43 rfl (lv_at hl 1 rfl) ?_
        refine lv_iconst (v := 1) hx hb dX1_removeString_44 (by decide) ?_
        refine lv_isub hx hb dX1_removeString_45 ?_
        refine lv_aload_n hx hb dX1_removeString_46 rfl (lv_at hl 0 rfl) ?_
        refine va_get (D := G.1) (ci := 1) (v := .ref (t_a 11)) (C := RX1) (T := TX1) (N := 12) hx hb hw inW1 hown hK.1 hP 0 rfl rfl 11 (by decide) (hw _ kw_3_12) (fun _ h9 => h9) rfl dX1_removeString_47 ?_
        refine lv_iload_n hx hb dX1_removeString_50 rfl (lv_at hl 1 rfl) ?_
        obtain ⟨hi_10, hf⟩ := rdI_in hf
        refine va_iald hx hb hK.1 hP 2 0 rfl rfl hi_10 dX1_removeString_51 ?_
        refine lv_topi (fun x_9 ex_9 => ?_)
        have hf := hf x_9 ex_9
        obtain ⟨hi_12, hf⟩ := wrI_in hf
        refine xiast hx hb hK.1 hP hD hS 2 0 rfl rfl hi_12 dX1_removeString_52 (fun t_knots_11 H locs et_knots_11 hP hD hS => ?_)
        have hf := hf t_knots_11 et_knots_11
        have hP : va_P G.1 vwCl [oX1 t_h t_a t_windows t_washes t_damp t_heard t_lines t_hour t_strings, arI G (t_a 10) 21 t_pairs_7, arI G (t_a 11) 21 t_knots_11] H := hP
        have hD : va_D A [oX1 t_h t_a t_windows t_washes t_damp t_heard t_lines t_hour t_strings, arI G (t_a 10) 21 t_pairs_7, arI G (t_a 11) 21 t_knots_11] := hD
        refine lv_iinc (v := (l2 + 1)) (lv' := [(2, .int (l2 + 1)), (0, .ref t_h)]) hx hb dX1_removeString_53 hl (k := 1) rfl (by rfl) (by decide) rfl (fun ls hl => ?_)
        refine lv_goto (tgt := 17) hx hb dX1_removeString_56 (by decide) ?_
        exact ih _ _ _ _ _ _ hP hD hS (lv_sub hl [1, 0] rfl) hf hX
  unfold fX1_removeString at hf
  refine lv_iload_n hx hb dX1_removeString_0 rfl (lv_at hl 1 rfl) ?_
  refine lv_if_lt (tgt := 12) hx hb dX1_removeString_1 (by decide) (fun c_1 => ?_) (fun c_1 => ?_)
  · have hf := ip c_1 hf
    exact hRet _ _ _ _ _ _ _ hf hP hS dX1_removeString_12
  · have hf := iq c_1 hf
    refine lv_iload_n hx hb dX1_removeString_4 rfl (lv_at hl 1 rfl) ?_
    refine lv_aload_n hx hb dX1_removeString_5 rfl (lv_at hl 0 rfl) ?_
    refine va_get (D := G.1) (ci := 1) (v := .int t_strings) (C := RX1) (T := TX1) (N := 12) hx hb hw inW1 hown hK.1 hP 0 rfl rfl 6 (by decide) (hw _ kw_3_23) (fun _ h9 => h9) rfl dX1_removeString_6 ?_
    refine lv_icmp_lt (tgt := 13) hx hb dX1_removeString_9 (by decide) (fun c_2 => ?_) (fun c_2 => ?_)
    · have hf := ip c_2 hf
      refine lv_iload_n hx hb dX1_removeString_13 rfl (lv_at hl 1 rfl) ?_
      refine lv_iconst (v := 1) hx hb dX1_removeString_14 (by decide) ?_
      refine lv_iadd hx hb dX1_removeString_15 ?_
      refine lv_topi (fun y_3 ey_3 => ?_)
      have hf := bnd_all hf y_3 ey_3
      refine lv_istore_n (lv' := [(2, .int y_3), (0, .ref t_h), (1, .int v1)]) hx hb dX1_removeString_16 rfl hl (by decide) rfl (fun ls hl => ?_)
      refine L17 _ _ _ _ _ _ _ _ _ hP hD hS (lv_sub hl [1, 0] rfl) hf (fun t_pairs_13 t_knots_14 H locs ls hP hD hS hl hf => ?_)
      refine lv_aload_n hx hb dX1_removeString_59 rfl (lv_at hl 0 rfl) ?_
      refine lv_dup hx hb dX1_removeString_60 rfl ?_
      refine va_get (D := G.1) (ci := 1) (v := .int t_strings) (C := RX1) (T := TX1) (N := 12) hx hb hw inW1 hown hK.1 hP 0 rfl rfl 6 (by decide) (hw _ kw_3_23) (fun _ h9 => h9) rfl dX1_removeString_61 ?_
      refine lv_iconst (v := 1) hx hb dX1_removeString_64 (by decide) ?_
      refine lv_isub hx hb dX1_removeString_65 ?_
      refine lv_topi (fun y_15 ey_15 => ?_)
      have hf := bnd_all hf y_15 ey_15
      refine va_put (D := G.1) (ci := 1) (v := .int y_15) (ty := .int) (C := RX1) (T := TX1) (N := 12) hx hb hw inW1 tyX1 tyX1_ok nmX1 hown hK.1 hP hD hS 0 rfl rfl 6 (by decide) (hw _ kw_3_23) (fun _ h9 => h9) rfl (by decide +kernel) rfl rfl (Nat.le_of_ble_eq_true rfl) dX1_removeString_66 (fun H locs hP hD hS => ?_)
      have hP : va_P G.1 vwCl [oX1 t_h t_a t_windows t_washes t_damp t_heard t_lines t_hour y_15, arI G (t_a 10) 21 t_pairs_13, arI G (t_a 11) 21 t_knots_14] H := hP
      have hD : va_D A [oX1 t_h t_a t_windows t_washes t_damp t_heard t_lines t_hour y_15, arI G (t_a 10) 21 t_pairs_13, arI G (t_a 11) 21 t_knots_14] := hD
      exact hRet _ _ _ _ _ _ _ hf hP hS dX1_removeString_69
    · have hf := iq c_2 hf
      exact hRet _ _ _ _ _ _ _ hf hP hS dX1_removeString_12
theorem calX4_numberAt : CalV yX4_numberAt cX4_numberAt 2 (some .long) 1 := ⟨⟨kw_25_12, kw_2_17, by decide +kernel⟩, kw_25_10, kw_25_11⟩
set_option maxHeartbeats 8000000 in
set_option maxRecDepth 100000 in
theorem ctX4_numberAt (l : Launch) (G : GT) (t_h : Nat) (t_a : Nat → Nat) (t_values : Nat → Int64) (t_sort : Int32) (t_size : Int32) (v1 : Int32) (r : Int64) (hf : fX4_numberAt t_values t_size v1 = some r) : RdL l yX4_numberAt (Cond.code yX4_numberAt cX4_numberAt 2 (some .long)) { frames := 0, cells := 0, slots := 0, locals := 0 } G [.ref t_h, .int v1] [oX4 t_h t_a t_sort t_size, arJ G (t_a 0) 40 t_values] r := by
  intro sz
  refine Met.ofW (cc := cX4_numberAt) (maxL := 2) (ret := (some .long)) (by decide) rfl ?_
  intro p e s m args below meth c s₁ B hml hv
  obtain ⟨hargs, hsz, hP, hK⟩ := hv
  subst hsz
  obtain ⟨hx, hb, hr, hw, hown, hlk⟩ := fwB B
  refine fw_enter hargs (Nat.le_of_ble_eq_true rfl) (fun ls hl => ?_)
  have hl : lv_has ls 2 [(0, .ref t_h), (1, .int v1)] := hl
  refine fw_Q (P := fun Q => ∃ A : Nat → Prop, va_S A s.heap s.heap [] ∧ (∀ q, s.heap.size ≤ q → A q) ∧ ∀ (v : Int64) (H : Heap) (locs : List Loc) (pc : Nat) (ls : Array Slot), some v = some r → va_S A s.heap H locs → decode cX4_numberAt pc = .ok (.lreturn, 1) → W p l e ({ frames := 0, cells := 0, slots := 0, locals := 0 } : Room) s m args below meth c H locs 0 0 Q (F0 m pc ls [.long v])) ⟨fun q => s.heap.size ≤ q, va_S.rf, fun q h => h, fun v H locs pc ls h hS hd => retRL hx hb hr hlk hS h hd⟩ ?_
  rintro Q ⟨A, hS, hA, hRet⟩
  change W p l e ({ frames := 0, cells := 0, slots := 0, locals := 0 } : Room) s m args below meth c _ _ 0 0 Q _
  unfold fX4_numberAt at hf
  refine lv_iload_n hx hb dX4_numberAt_0 rfl (lv_at hl 1 rfl) ?_
  refine jn_el hf (fun k_1 ek_1 hf => ?_)
  have J21 : ∀  (H : Heap) (locs : List Loc) (ls : Array Slot), va_P G.1 vwCl [oX4 t_h t_a t_sort t_size, arJ G (t_a 0) 40 t_values] H → va_S A s.heap H locs → lv_has ls 2 [] → k_1 = some r → W p l e ({ frames := 0, cells := 0, slots := 0, locals := 0 } : Room) s m args below meth c H locs 0 0 Q (F0 m 21 ls []) := by
    intro  H locs ls hP hS hl hf
    rw [ek_1] at hf
    refine lv_lconst (v := 0) hx hb dX4_numberAt_21 (by decide) ?_
    exact hRet _ _ _ _ _ hf hS dX4_numberAt_22
  refine lv_if_lt (tgt := 21) hx hb dX4_numberAt_1 (by decide) (fun c_2 => ?_) (fun c_2 => ?_)
  · have hf := ip c_2 hf
    exact J21  _ _ _ hP hS (lv_sub hl [] rfl) hf
  · have hf := iq c_2 hf
    refine lv_iload_n hx hb dX4_numberAt_4 rfl (lv_at hl 1 rfl) ?_
    refine lv_aload_n hx hb dX4_numberAt_5 rfl (lv_at hl 0 rfl) ?_
    refine va_get (D := G.1) (ci := 4) (v := .int t_size) (C := RX4) (T := TX4) (N := 3) hx hb hw inW4 hown hK.1 hP 0 rfl rfl 2 (by decide) (hw _ kw_5_6) (fun _ h9 => h9) rfl dX4_numberAt_6 ?_
    refine lv_icmp_ge (tgt := 21) hx hb dX4_numberAt_9 (by decide) (fun c_3 => ?_) (fun c_3 => ?_)
    · have hf := ip c_3 hf
      exact J21  _ _ _ hP hS (lv_sub hl [] rfl) hf
    · have hf := iq c_3 hf
      refine lv_aload_n hx hb dX4_numberAt_12 rfl (lv_at hl 0 rfl) ?_
      refine va_get (D := G.1) (ci := 4) (v := .ref (t_a 0)) (C := RX4) (T := TX4) (N := 3) hx hb hw inW4 hown hK.1 hP 0 rfl rfl 0 (by decide) (hw _ kw_5_5) (fun _ h9 => h9) rfl dX4_numberAt_13 ?_
      refine lv_iload_n hx hb dX4_numberAt_16 rfl (lv_at hl 1 rfl) ?_
      obtain ⟨hi_5, hf⟩ := rdL_in hf
      refine va_lald hx hb hK.1 hP 1 2 rfl rfl hi_5 dX4_numberAt_17 ?_
      refine lv_topl (fun x_4 ex_4 => ?_)
      have hf := hf x_4 ex_4
      refine lv_goto (tgt := 22) hx hb dX4_numberAt_18 (by decide) ?_
      exact hRet _ _ _ _ _ hf hS dX4_numberAt_22
theorem calX1_everyWindow : CalV yX1_everyWindow cX1_everyWindow 1 (some .int) 0 := ⟨⟨kw_28_0, kw_1_19, by decide +kernel⟩, kw_27_22, kw_27_23⟩
set_option maxHeartbeats 8000000 in
set_option maxRecDepth 100000 in
theorem ctX1_everyWindow (l : Launch) (G : GT) (t_h : Nat) (t_a : Nat → Nat) (t_windows : Int32) (t_washes : Int32) (t_damp : Int32) (t_heard : Int32) (t_lines : Int32) (t_hour : Int32) (t_strings : Int32) (r : Int32) (hf : fX1_everyWindow t_windows = some r) : RdI l yX1_everyWindow (Cond.code yX1_everyWindow cX1_everyWindow 1 (some .int)) { frames := 0, cells := 0, slots := 0, locals := 0 } G [.ref t_h] [oX1 t_h t_a t_windows t_washes t_damp t_heard t_lines t_hour t_strings] r := by
  intro sz
  refine Met.ofW (cc := cX1_everyWindow) (maxL := 1) (ret := (some .int)) (by decide) rfl ?_
  intro p e s m args below meth c s₁ B hml hv
  obtain ⟨hargs, hsz, hP, hK⟩ := hv
  subst hsz
  obtain ⟨hx, hb, hr, hw, hown, hlk⟩ := fwB B
  refine fw_enter hargs (Nat.le_of_ble_eq_true rfl) (fun ls hl => ?_)
  have hl : lv_has ls 1 [(0, .ref t_h)] := hl
  refine fw_Q (P := fun Q => ∃ A : Nat → Prop, va_S A s.heap s.heap [] ∧ (∀ q, s.heap.size ≤ q → A q) ∧ ∀ (v : Int32) (H : Heap) (locs : List Loc) (pc : Nat) (ls : Array Slot), some v = some r → va_S A s.heap H locs → decode cX1_everyWindow pc = .ok (.ireturn, 1) → W p l e ({ frames := 0, cells := 0, slots := 0, locals := 0 } : Room) s m args below meth c H locs 0 0 Q (F0 m pc ls [.int v])) ⟨fun q => s.heap.size ≤ q, va_S.rf, fun q h => h, fun v H locs pc ls h hS hd => retRI hx hb hr hlk hS h hd⟩ ?_
  rintro Q ⟨A, hS, hA, hRet⟩
  change W p l e ({ frames := 0, cells := 0, slots := 0, locals := 0 } : Room) s m args below meth c _ _ 0 0 Q _
  unfold fX1_everyWindow at hf
  refine lv_iconst (v := 1) hx hb dX1_everyWindow_0 (by decide) ?_
  refine lv_aload_n hx hb dX1_everyWindow_1 rfl (lv_at hl 0 rfl) ?_
  refine va_get (D := G.1) (ci := 1) (v := .int t_windows) (C := RX1) (T := TX1) (N := 12) hx hb hw inW1 hown hK.1 hP 0 rfl rfl 0 (by decide) (hw _ kw_3_17) (fun _ h9 => h9) rfl dX1_everyWindow_2 ?_
  refine lv_ishl hx hb dX1_everyWindow_5 ?_
  refine lv_iconst (v := 1) hx hb dX1_everyWindow_6 (by decide) ?_
  refine lv_isub hx hb dX1_everyWindow_7 ?_
  exact hRet _ _ _ _ _ hf hS dX1_everyWindow_8
theorem calX6_nearest : CalV yX6_nearest cX6_nearest 5 (some .int) 1 := ⟨⟨kw_28_9, kw_2_0, by decide +kernel⟩, kw_28_7, kw_28_8⟩
set_option maxHeartbeats 8000000 in
set_option maxRecDepth 100000 in
theorem ctX6_nearest (l : Launch) (G : GT) (t_h : Nat) (t_a : Nat → Nat) (t_windows : Int32) (t_rest : Nat → Int32) (t_goal : Int32) (t_otherFrom : Int32) (t_otherTo : Int32) (t_least : Int32) (v1 : Int32) (r : Int32) (hf : fX6_nearest t_windows t_rest v1 = some r) : RdI l yX6_nearest (Cond.code yX6_nearest cX6_nearest 5 (some .int)) { frames := 0, cells := 0, slots := 0, locals := 0 } G [.ref t_h, .int v1] [oX6 t_h t_a t_windows t_goal t_otherFrom t_otherTo t_least, arI G (t_a 3) 12 t_rest] r := by
  intro sz
  refine Met.ofW (cc := cX6_nearest) (maxL := 5) (ret := (some .int)) (by decide) rfl ?_
  intro p e s m args below meth c s₁ B hml hv
  obtain ⟨hargs, hsz, hP, hK⟩ := hv
  subst hsz
  obtain ⟨hx, hb, hr, hw, hown, hlk⟩ := fwB B
  refine fw_enter hargs (Nat.le_of_ble_eq_true rfl) (fun ls hl => ?_)
  have hl : lv_has ls 5 [(0, .ref t_h), (1, .int v1)] := hl
  refine fw_Q (P := fun Q => ∃ A : Nat → Prop, va_S A s.heap s.heap [] ∧ (∀ q, s.heap.size ≤ q → A q) ∧ ∀ (v : Int32) (H : Heap) (locs : List Loc) (pc : Nat) (ls : Array Slot), some v = some r → va_S A s.heap H locs → decode cX6_nearest pc = .ok (.ireturn, 1) → W p l e ({ frames := 0, cells := 0, slots := 0, locals := 0 } : Room) s m args below meth c H locs 0 0 Q (F0 m pc ls [.int v])) ⟨fun q => s.heap.size ≤ q, va_S.rf, fun q h => h, fun v H locs pc ls h hS hd => retRI hx hb hr hlk hS h hd⟩ ?_
  rintro Q ⟨A, hS, hA, hRet⟩
  change W p l e ({ frames := 0, cells := 0, slots := 0, locals := 0 } : Room) s m args below meth c _ _ 0 0 Q _
  have L8 : ∀  (K : Int32 → Option Int32) (n : Nat) (l2 : Int32) (l3 : Int32) (l4 : Int32) (H : Heap) (locs : List Loc) (ls : Array Slot), va_P G.1 vwCl [oX6 t_h t_a t_windows t_goal t_otherFrom t_otherTo t_least, arI G (t_a 3) 12 t_rest] H → va_S A s.heap H locs → lv_has ls 5 [(0, .ref t_h), (1, .int v1), (2, .int l2), (3, .int l3), (4, .int l4)] → fX6_nearest_8 v1 t_windows t_rest K n l2 l3 l4 = some r → (∀ (k2 : Int32) (H : Heap) (locs : List Loc) (ls : Array Slot), va_P G.1 vwCl [oX6 t_h t_a t_windows t_goal t_otherFrom t_otherTo t_least, arI G (t_a 3) 12 t_rest] H → va_S A s.heap H locs → lv_has ls 5 [(2, .int k2)] → K k2 = some r → W p l e ({ frames := 0, cells := 0, slots := 0, locals := 0 } : Room) s m args below meth c H locs 0 0 Q (F0 m 54 ls [])) → W p l e ({ frames := 0, cells := 0, slots := 0, locals := 0 } : Room) s m args below meth c H locs 0 0 Q (F0 m 8 ls []) := by
    intro  K n
    induction n with
    | zero => intro l2 l3 l4 H locs ls hP hS hl hf; rw [fX6_nearest_8] at hf; cases hf
    | succ n ih =>
      intro l2 l3 l4 H locs ls hP hS hl hf hX
      rw [fX6_nearest_8] at hf
      refine lv_iload hx hb dX6_nearest_8 (lv_at hl 4 rfl) ?_
      refine lv_aload_n hx hb dX6_nearest_10 rfl (lv_at hl 0 rfl) ?_
      refine va_get (D := G.1) (ci := 6) (v := .int t_windows) (C := RX6) (T := TX6) (N := 9) hx hb hw inW6 hown hK.1 hP 0 rfl rfl 0 (by decide) (hw _ kw_18_14) (fun _ h9 => h9) rfl dX6_nearest_11 ?_
      refine lv_icmp_ge (tgt := 54) hx hb dX6_nearest_14 (by decide) (fun c_1 => ?_) (fun c_1 => ?_)
      · have hf := ip c_1 hf
        exact hX _ _ _ _ hP hS (lv_sub hl [2] rfl) hf
      · have hf := iq c_1 hf
        refine lv_iload_n hx hb dX6_nearest_17 rfl (lv_at hl 1 rfl) ?_
        refine lv_iload hx hb dX6_nearest_18 (lv_at hl 4 rfl) ?_
        refine lv_ishr hx hb dX6_nearest_20 ?_
        refine lv_iconst (v := 1) hx hb dX6_nearest_21 (by decide) ?_
        refine lv_iand hx hb dX6_nearest_22 ?_
        refine lv_if_eq (tgt := 48) hx hb dX6_nearest_23 (by decide) (fun c_2 => ?_) (fun c_2 => ?_)
        · have hf := ip c_2 hf
          refine lv_iinc (v := (l4 + 1)) (lv' := [(4, .int (l4 + 1)), (0, .ref t_h), (1, .int v1), (2, .int l2), (3, .int l3)]) hx hb dX6_nearest_48 hl (k := 4) rfl (by rfl) (by decide) rfl (fun ls hl => ?_)
          refine lv_goto (tgt := 8) hx hb dX6_nearest_51 (by decide) ?_
          exact ih _ _ _ _ _ _ hP hS (lv_sub hl [1, 2, 3, 4, 0] rfl) hf hX
        · have hf := iq c_2 hf
          refine lv_aload_n hx hb dX6_nearest_26 rfl (lv_at hl 0 rfl) ?_
          refine va_get (D := G.1) (ci := 6) (v := .ref (t_a 3)) (C := RX6) (T := TX6) (N := 9) hx hb hw inW6 hown hK.1 hP 0 rfl rfl 3 (by decide) (hw _ kw_4_9) (fun _ h9 => h9) rfl dX6_nearest_27 ?_
          refine lv_iload hx hb dX6_nearest_30 (lv_at hl 4 rfl) ?_
          obtain ⟨hi_4, hf⟩ := rdI_in hf
          refine va_iald hx hb hK.1 hP 1 0 rfl rfl hi_4 dX6_nearest_32 ?_
          refine lv_topi (fun x_3 ex_3 => ?_)
          have hf := hf x_3 ex_3
          refine lv_iload_n hx hb dX6_nearest_33 rfl (lv_at hl 3 rfl) ?_
          refine lv_icmp_ge (tgt := 48) hx hb dX6_nearest_34 (by decide) (fun c_5 => ?_) (fun c_5 => ?_)
          · have hf := ip c_5 hf
            refine lv_iinc (v := (l4 + 1)) (lv' := [(4, .int (l4 + 1)), (0, .ref t_h), (1, .int v1), (2, .int l2), (3, .int l3)]) hx hb dX6_nearest_48 hl (k := 4) rfl (by rfl) (by decide) rfl (fun ls hl => ?_)
            refine lv_goto (tgt := 8) hx hb dX6_nearest_51 (by decide) ?_
            exact ih _ _ _ _ _ _ hP hS (lv_sub hl [1, 2, 3, 4, 0] rfl) hf hX
          · have hf := iq c_5 hf
            refine lv_iload hx hb dX6_nearest_37 (lv_at hl 4 rfl) ?_
            refine lv_istore_n (lv' := [(2, .int l4), (0, .ref t_h), (1, .int v1), (3, .int l3), (4, .int l4)]) hx hb dX6_nearest_39 rfl hl (by decide) rfl (fun ls hl => ?_)
            refine lv_aload_n hx hb dX6_nearest_40 rfl (lv_at hl 1 rfl) ?_
            refine va_get (D := G.1) (ci := 6) (v := .ref (t_a 3)) (C := RX6) (T := TX6) (N := 9) hx hb hw inW6 hown hK.1 hP 0 rfl rfl 3 (by decide) (hw _ kw_4_9) (fun _ h9 => h9) rfl dX6_nearest_41 ?_
            refine lv_iload hx hb dX6_nearest_44 (lv_at hl 4 rfl) ?_
            obtain ⟨hi_7, hf⟩ := rdI_in hf
            refine va_iald hx hb hK.1 hP 1 0 rfl rfl hi_7 dX6_nearest_46 ?_
            refine lv_topi (fun x_6 ex_6 => ?_)
            have hf := hf x_6 ex_6
            refine lv_istore_n (lv' := [(3, .int x_6), (2, .int l4), (0, .ref t_h), (1, .int v1), (4, .int l4)]) hx hb dX6_nearest_47 rfl hl (by decide) rfl (fun ls hl => ?_)
            refine lv_iinc (v := (l4 + 1)) (lv' := [(4, .int (l4 + 1)), (3, .int x_6), (2, .int l4), (0, .ref t_h), (1, .int v1)]) hx hb dX6_nearest_48 hl (k := 4) rfl (by rfl) (by decide) rfl (fun ls hl => ?_)
            refine lv_goto (tgt := 8) hx hb dX6_nearest_51 (by decide) ?_
            exact ih _ _ _ _ _ _ hP hS (lv_sub hl [3, 4, 2, 1, 0] rfl) hf hX
  unfold fX6_nearest at hf
  refine lv_iconst (v := (-1)) hx hb dX6_nearest_0 (by decide) ?_
  refine lv_istore_n (lv' := [(2, .int (-1)), (0, .ref t_h), (1, .int v1)]) hx hb dX6_nearest_1 rfl hl (by decide) rfl (fun ls hl => ?_)
  refine lv_ldc hx hb hown (hw _ kw_28_5) dX6_nearest_2 ?_
  refine lv_istore_n (lv' := [(3, .int 16777216), (2, .int (-1)), (0, .ref t_h), (1, .int v1)]) hx hb dX6_nearest_4 rfl hl (by decide) rfl (fun ls hl => ?_)
  refine lv_iconst (v := 0) hx hb dX6_nearest_5 (by decide) ?_
  refine lv_istore (lv' := [(4, .int 0), (3, .int 16777216), (2, .int (-1)), (0, .ref t_h), (1, .int v1)]) hx hb dX6_nearest_6 hl (by decide) rfl (fun ls hl => ?_)
  refine L8  _ _ _ _ _ _ _ _ hP hS (lv_sub hl [3, 4, 2, 1, 0] rfl) hf (fun w_8 H locs ls hP hS hl hf => ?_)
  refine lv_iload_n hx hb dX6_nearest_54 rfl (lv_at hl 0 rfl) ?_
  exact hRet _ _ _ _ _ hf hS dX6_nearest_55
theorem calX6_priceOf : CalV yX6_priceOf cX6_priceOf 3 (some .int) 2 := ⟨⟨kw_28_18, kw_2_0, by decide +kernel⟩, kw_28_16, kw_28_17⟩
set_option maxHeartbeats 8000000 in
set_option maxRecDepth 100000 in
theorem ctX6_priceOf (l : Launch) (G : GT) (t_h : Nat) (t_a : Nat → Nat) (t_windows : Int32) (t_prices : Nat → Int32) (t_goal : Int32) (t_otherFrom : Int32) (t_otherTo : Int32) (t_least : Int32) (v1 : Int32) (v2 : Int32) (r : Int32) (hf : fX6_priceOf t_prices v1 v2 = some r) : RdI l yX6_priceOf (Cond.code yX6_priceOf cX6_priceOf 3 (some .int)) { frames := 0, cells := 0, slots := 0, locals := 0 } G [.ref t_h, .int v1, .int v2] [oX6 t_h t_a t_windows t_goal t_otherFrom t_otherTo t_least, arI G (t_a 2) 144 t_prices] r := by
  intro sz
  refine Met.ofW (cc := cX6_priceOf) (maxL := 3) (ret := (some .int)) (by decide) rfl ?_
  intro p e s m args below meth c s₁ B hml hv
  obtain ⟨hargs, hsz, hP, hK⟩ := hv
  subst hsz
  obtain ⟨hx, hb, hr, hw, hown, hlk⟩ := fwB B
  refine fw_enter hargs (Nat.le_of_ble_eq_true rfl) (fun ls hl => ?_)
  have hl : lv_has ls 3 [(0, .ref t_h), (1, .int v1), (2, .int v2)] := hl
  refine fw_Q (P := fun Q => ∃ A : Nat → Prop, va_S A s.heap s.heap [] ∧ (∀ q, s.heap.size ≤ q → A q) ∧ ∀ (v : Int32) (H : Heap) (locs : List Loc) (pc : Nat) (ls : Array Slot), some v = some r → va_S A s.heap H locs → decode cX6_priceOf pc = .ok (.ireturn, 1) → W p l e ({ frames := 0, cells := 0, slots := 0, locals := 0 } : Room) s m args below meth c H locs 0 0 Q (F0 m pc ls [.int v])) ⟨fun q => s.heap.size ≤ q, va_S.rf, fun q h => h, fun v H locs pc ls h hS hd => retRI hx hb hr hlk hS h hd⟩ ?_
  rintro Q ⟨A, hS, hA, hRet⟩
  change W p l e ({ frames := 0, cells := 0, slots := 0, locals := 0 } : Room) s m args below meth c _ _ 0 0 Q _
  unfold fX6_priceOf at hf
  refine lv_aload_n hx hb dX6_priceOf_0 rfl (lv_at hl 0 rfl) ?_
  refine va_get (D := G.1) (ci := 6) (v := .ref (t_a 2)) (C := RX6) (T := TX6) (N := 9) hx hb hw inW6 hown hK.1 hP 0 rfl rfl 2 (by decide) (hw _ kw_4_8) (fun _ h9 => h9) rfl dX6_priceOf_1 ?_
  refine lv_bipush (v := 12) hx hb dX6_priceOf_4 (by decide) ?_
  refine lv_iload_n hx hb dX6_priceOf_6 rfl (lv_at hl 1 rfl) ?_
  refine lv_imul hx hb dX6_priceOf_7 ?_
  refine lv_iload_n hx hb dX6_priceOf_8 rfl (lv_at hl 2 rfl) ?_
  refine lv_iadd hx hb dX6_priceOf_9 ?_
  obtain ⟨hi_2, hf⟩ := rdI_in hf
  refine va_iald hx hb hK.1 hP 1 0 rfl rfl hi_2 dX6_priceOf_10 ?_
  refine lv_topi (fun x_1 ex_1 => ?_)
  have hf := hf x_1 ex_1
  exact hRet _ _ _ _ _ hf hS dX6_priceOf_11
theorem calX6_shorten : CalV yX6_shorten cX6_shorten 4 none 2 := ⟨⟨kw_28_13, kw_2_0, by decide +kernel⟩, kw_28_11, kw_28_12⟩
set_option maxHeartbeats 8000000 in
set_option maxRecDepth 100000 in
theorem ctX6_shorten (l : Launch) (G : GT) (t_h : Nat) (t_a : Nat → Nat) (t_windows : Int32) (t_prices : Nat → Int32) (t_rest : Nat → Int32) (t_goal : Int32) (t_otherFrom : Int32) (t_otherTo : Int32) (t_least : Int32) (v1 : Int32) (v2 : Int32) (o_t_rest : Nat → Int32) (hf : fX6_shorten t_windows t_prices t_rest v1 v2 = some o_t_rest) : WrV l yX6_shorten (Cond.code yX6_shorten cX6_shorten 4 none) { frames := 1, cells := 0, slots := 0, locals := 32 } G [.ref t_h, .int v1, .int v2] [oX6 t_h t_a t_windows t_goal t_otherFrom t_otherTo t_least, arI G (t_a 2) 144 t_prices, arI G (t_a 3) 12 t_rest] [oX6 t_h t_a t_windows t_goal t_otherFrom t_otherTo t_least, arI G (t_a 2) 144 t_prices, arI G (t_a 3) 12 o_t_rest] := by
  intro sz
  refine Met.ofW (cc := cX6_shorten) (maxL := 4) (ret := none) (by decide) rfl ?_
  intro p e s m args below meth c s₁ B hml hv
  obtain ⟨hargs, hsz, hP, hD0, hK⟩ := hv
  subst hsz
  obtain ⟨hx, hb, hr, hw, hown, hlk⟩ := fwB B
  refine fw_enter hargs (Nat.le_of_ble_eq_true rfl) (fun ls hl => ?_)
  have hl : lv_has ls 4 [(0, .ref t_h), (1, .int v1), (2, .int v2)] := hl
  refine fw_Q (P := fun Q => ∃ A : Nat → Prop, va_D A [oX6 t_h t_a t_windows t_goal t_otherFrom t_otherTo t_least, arI G (t_a 2) 144 t_prices, arI G (t_a 3) 12 t_rest] ∧ va_S A s.heap s.heap [] ∧ (∀ q, s.heap.size ≤ q → A q) ∧ ∀ (n_t_rest : Nat → Int32) (H : Heap) (locs : List Loc) (pc : Nat) (ls : Array Slot), some n_t_rest = some o_t_rest → va_P G.1 vwCl [oX6 t_h t_a t_windows t_goal t_otherFrom t_otherTo t_least, arI G (t_a 2) 144 t_prices, arI G (t_a 3) 12 n_t_rest] H → va_S A s.heap H locs → decode cX6_shorten pc = .ok (.return_, 1) → W p l e ({ frames := 1, cells := 0, slots := 0, locals := 32 } : Room) s m args below meth c H locs 0 0 Q (F0 m pc ls [])) ⟨va_A [oX6 t_h t_a t_windows t_goal t_otherFrom t_otherTo t_least, arI G (t_a 2) 144 t_prices, arI G (t_a 3) 12 t_rest] s.heap.size, hD0.self (sz := s.heap.size), va_S.rf, fun q h => Or.inr h, ?_⟩ ?_
  · intro n_t_rest H locs pc ls h hP hS hd
    cases h
    exact retWV hx hb hr hlk hS hP hd
  rintro Q ⟨A, hD, hS, hA, hRet⟩
  change W p l e ({ frames := 1, cells := 0, slots := 0, locals := 32 } : Room) s m args below meth c _ _ 0 0 Q _
  have L2 : ∀  (K : (Nat → Int32) → Option (Nat → Int32)) (n : Nat) (l3 : Int32) (t_rest : Nat → Int32) (H : Heap) (locs : List Loc) (ls : Array Slot), va_P G.1 vwCl [oX6 t_h t_a t_windows t_goal t_otherFrom t_otherTo t_least, arI G (t_a 2) 144 t_prices, arI G (t_a 3) 12 t_rest] H → va_D A [oX6 t_h t_a t_windows t_goal t_otherFrom t_otherTo t_least, arI G (t_a 2) 144 t_prices, arI G (t_a 3) 12 t_rest] → va_S A s.heap H locs → lv_has ls 4 [(0, .ref t_h), (1, .int v1), (2, .int v2), (3, .int l3)] → fX6_shorten_2 v1 v2 t_windows t_prices K n l3 t_rest = some o_t_rest → (∀ (kt_rest : Nat → Int32) (H : Heap) (locs : List Loc) (ls : Array Slot), va_P G.1 vwCl [oX6 t_h t_a t_windows t_goal t_otherFrom t_otherTo t_least, arI G (t_a 2) 144 t_prices, arI G (t_a 3) 12 kt_rest] H → va_D A [oX6 t_h t_a t_windows t_goal t_otherFrom t_otherTo t_least, arI G (t_a 2) 144 t_prices, arI G (t_a 3) 12 kt_rest] → va_S A s.heap H locs → lv_has ls 4 [] → K kt_rest = some o_t_rest → W p l e ({ frames := 1, cells := 0, slots := 0, locals := 32 } : Room) s m args below meth c H locs 0 0 Q (F0 m 52 ls [])) → W p l e ({ frames := 1, cells := 0, slots := 0, locals := 32 } : Room) s m args below meth c H locs 0 0 Q (F0 m 2 ls []) := by
    intro  K n
    induction n with
    | zero => intro l3 t_rest H locs ls hP hD hS hl hf; rw [fX6_shorten_2] at hf; cases hf
    | succ n ih =>
      intro l3 t_rest H locs ls hP hD hS hl hf hX
      rw [fX6_shorten_2] at hf
      refine lv_iload_n hx hb dX6_shorten_2 rfl (lv_at hl 3 rfl) ?_
      refine lv_aload_n hx hb dX6_shorten_3 rfl (lv_at hl 0 rfl) ?_
      refine va_get (D := G.1) (ci := 6) (v := .int t_windows) (C := RX6) (T := TX6) (N := 9) hx hb hw inW6 hown hK.1 hP 0 rfl rfl 0 (by decide) (hw _ kw_18_14) (fun _ h9 => h9) rfl dX6_shorten_4 ?_
      refine lv_icmp_ge (tgt := 52) hx hb dX6_shorten_7 (by decide) (fun c_1 => ?_) (fun c_1 => ?_)
      · have hf := ip c_1 hf
        exact hX _ _ _ _ hP hD hS (lv_sub hl [] rfl) hf
      · have hf := iq c_1 hf
        refine lv_iload_n hx hb dX6_shorten_10 rfl (lv_at hl 2 rfl) ?_
        refine lv_iload_n hx hb dX6_shorten_11 rfl (lv_at hl 3 rfl) ?_
        refine lv_ishr hx hb dX6_shorten_12 ?_
        refine lv_iconst (v := 1) hx hb dX6_shorten_13 (by decide) ?_
        refine lv_iand hx hb dX6_shorten_14 ?_
        refine lv_if_eq (tgt := 46) hx hb dX6_shorten_15 (by decide) (fun c_2 => ?_) (fun c_2 => ?_)
        · have hf := ip c_2 hf
          refine lv_iinc (v := (l3 + 1)) (lv' := [(3, .int (l3 + 1)), (0, .ref t_h), (1, .int v1), (2, .int v2)]) hx hb dX6_shorten_46 hl (k := 3) rfl (by rfl) (by decide) rfl (fun ls hl => ?_)
          refine lv_goto (tgt := 2) hx hb dX6_shorten_49 (by decide) ?_
          exact ih _ _ _ _ _ hP hD hS (lv_sub hl [1, 2, 3, 0] rfl) hf hX
        · have hf := iq c_2 hf
          refine lv_aload_n hx hb dX6_shorten_18 rfl (lv_at hl 0 rfl) ?_
          refine va_get (D := G.1) (ci := 6) (v := .ref (t_a 3)) (C := RX6) (T := TX6) (N := 9) hx hb hw inW6 hown hK.1 hP 0 rfl rfl 3 (by decide) (hw _ kw_4_9) (fun _ h9 => h9) rfl dX6_shorten_19 ?_
          refine lv_iload_n hx hb dX6_shorten_22 rfl (lv_at hl 3 rfl) ?_
          refine lv_aload_n hx hb dX6_shorten_23 rfl (lv_at hl 0 rfl) ?_
          refine va_get (D := G.1) (ci := 6) (v := .ref (t_a 3)) (C := RX6) (T := TX6) (N := 9) hx hb hw inW6 hown hK.1 hP 0 rfl rfl 3 (by decide) (hw _ kw_4_9) (fun _ h9 => h9) rfl dX6_shorten_24 ?_
          refine lv_iload_n hx hb dX6_shorten_27 rfl (lv_at hl 3 rfl) ?_
          obtain ⟨hi_4, hf⟩ := rdI_in hf
          refine va_iald hx hb hK.1 hP 2 0 rfl rfl hi_4 dX6_shorten_28 ?_
          refine lv_topi (fun x_3 ex_3 => ?_)
          have hf := hf x_3 ex_3
          refine lv_aload_n hx hb dX6_shorten_29 rfl (lv_at hl 0 rfl) ?_
          refine va_get (D := G.1) (ci := 6) (v := .ref (t_a 3)) (C := RX6) (T := TX6) (N := 9) hx hb hw inW6 hown hK.1 hP 0 rfl rfl 3 (by decide) (hw _ kw_4_9) (fun _ h9 => h9) rfl dX6_shorten_30 ?_
          refine lv_iload_n hx hb dX6_shorten_33 rfl (lv_at hl 1 rfl) ?_
          obtain ⟨hi_6, hf⟩ := rdI_in hf
          refine va_iald hx hb hK.1 hP 2 0 rfl rfl hi_6 dX6_shorten_34 ?_
          refine lv_topi (fun x_5 ex_5 => ?_)
          have hf := hf x_5 ex_5
          refine lv_aload_n hx hb dX6_shorten_35 rfl (lv_at hl 0 rfl) ?_
          refine lv_iload_n hx hb dX6_shorten_36 rfl (lv_at hl 3 rfl) ?_
          refine lv_iload_n hx hb dX6_shorten_37 rfl (lv_at hl 1 rfl) ?_
          obtain ⟨r_7, hc_8, hf⟩ := bd1_in hf
          refine rcI (va_runV (As := [.int l3, .int v1]) (rest := [.int x_5, .int x_3, .int l3, .ref (t_a 3)]) ⟨hx, hb, hml, hown, hw⟩ ((ctX6_priceOf l G t_h t_a t_windows t_prices t_goal t_otherFrom t_otherTo t_least l3 v1 _ hc_8) _) (kV hw calX6_priceOf kw_28_15 rfl rfl ⟨Nat.le_of_ble_eq_true rfl, Nat.le_of_ble_eq_true rfl⟩) (rpV (hP.sub (ws' := [oX6 t_h t_a t_windows t_goal t_otherFrom t_otherTo t_least, arI G (t_a 2) 144 t_prices]) [0, 1] rfl) hK (ci := 6) (q0 := 0) rfl rfl) rfl rfl hl.1 rfl (lv_room (Nat.le_of_ble_eq_true rfl)) dX6_shorten_38 ⟨Nat.zero_le _, Nat.zero_le _⟩) hS hA hP (fun H locs hP hS => ?_)
          refine lv_iadd hx hb dX6_shorten_41 ?_
          refine va_mmin hx hb (by rw [hml]; exact hl.1.symm) hown (hw _ kw_28_14) (hw _ kw_7_8) (hw _ kw_7_9) (hw _ kw_7_10) (by exact Nat.le_of_ble_eq_true rfl) (by exact Nat.le_of_ble_eq_true rfl) (Nat.zero_le _) (Nat.zero_le _) dX6_shorten_42 ?_
          refine lv_topi (fun y_9 ey_9 => ?_)
          have hf := bnd_all hf y_9 ey_9
          obtain ⟨hi_11, hf⟩ := wrI_in hf
          refine xiast hx hb hK.1 hP hD hS 2 0 rfl rfl hi_11 dX6_shorten_45 (fun t_rest_10 H locs et_rest_10 hP hD hS => ?_)
          have hf := hf t_rest_10 et_rest_10
          have hP : va_P G.1 vwCl [oX6 t_h t_a t_windows t_goal t_otherFrom t_otherTo t_least, arI G (t_a 2) 144 t_prices, arI G (t_a 3) 12 t_rest_10] H := hP
          have hD : va_D A [oX6 t_h t_a t_windows t_goal t_otherFrom t_otherTo t_least, arI G (t_a 2) 144 t_prices, arI G (t_a 3) 12 t_rest_10] := hD
          refine lv_iinc (v := (l3 + 1)) (lv' := [(3, .int (l3 + 1)), (0, .ref t_h), (1, .int v1), (2, .int v2)]) hx hb dX6_shorten_46 hl (k := 3) rfl (by rfl) (by decide) rfl (fun ls hl => ?_)
          refine lv_goto (tgt := 2) hx hb dX6_shorten_49 (by decide) ?_
          exact ih _ _ _ _ _ hP hD hS (lv_sub hl [1, 2, 3, 0] rfl) hf hX
  unfold fX6_shorten at hf
  refine lv_iconst (v := 0) hx hb dX6_shorten_0 (by decide) ?_
  refine lv_istore_n (lv' := [(3, .int 0), (0, .ref t_h), (1, .int v1), (2, .int v2)]) hx hb dX6_shorten_1 rfl hl (by decide) rfl (fun ls hl => ?_)
  refine L2  _ _ _ _ _ _ _ hP hD hS (lv_sub hl [1, 2, 3, 0] rfl) hf (fun t_rest_12 H locs ls hP hD hS hl hf => ?_)
  exact hRet _ _ _ _ _ hf hP hS dX6_shorten_52
theorem calX6_measure : CalV yX6_measure cX6_measure 6 none 2 := ⟨⟨kw_28_4, kw_2_0, by decide +kernel⟩, kw_28_2, kw_28_3⟩
set_option maxHeartbeats 8000000 in
set_option maxRecDepth 100000 in
theorem ctX6_measure (l : Launch) (G : GT) (t_h : Nat) (t_a : Nat → Nat) (t_windows : Int32) (t_links : Nat → Int32) (t_prices : Nat → Int32) (t_rest : Nat → Int32) (t_goal : Int32) (t_otherFrom : Int32) (t_otherTo : Int32) (t_least : Int32) (v1 : Int32) (v2 : Int32) (o_t_rest : Nat → Int32) (hf : fX6_measure t_windows t_links t_prices t_rest v1 v2 = some o_t_rest) : WrV l yX6_measure (Cond.code yX6_measure cX6_measure 6 none) { frames := 2, cells := 0, slots := 0, locals := 55 } G [.ref t_h, .int v1, .int v2] [oX6 t_h t_a t_windows t_goal t_otherFrom t_otherTo t_least, arI G (t_a 1) 12 t_links, arI G (t_a 2) 144 t_prices, arI G (t_a 3) 12 t_rest] [oX6 t_h t_a t_windows t_goal t_otherFrom t_otherTo t_least, arI G (t_a 1) 12 t_links, arI G (t_a 2) 144 t_prices, arI G (t_a 3) 12 o_t_rest] := by
  intro sz
  refine Met.ofW (cc := cX6_measure) (maxL := 6) (ret := none) (by decide) rfl ?_
  intro p e s m args below meth c s₁ B hml hv
  obtain ⟨hargs, hsz, hP, hD0, hK⟩ := hv
  subst hsz
  obtain ⟨hx, hb, hr, hw, hown, hlk⟩ := fwB B
  refine fw_enter hargs (Nat.le_of_ble_eq_true rfl) (fun ls hl => ?_)
  have hl : lv_has ls 6 [(0, .ref t_h), (1, .int v1), (2, .int v2)] := hl
  refine fw_Q (P := fun Q => ∃ A : Nat → Prop, va_D A [oX6 t_h t_a t_windows t_goal t_otherFrom t_otherTo t_least, arI G (t_a 1) 12 t_links, arI G (t_a 2) 144 t_prices, arI G (t_a 3) 12 t_rest] ∧ va_S A s.heap s.heap [] ∧ (∀ q, s.heap.size ≤ q → A q) ∧ ∀ (n_t_rest : Nat → Int32) (H : Heap) (locs : List Loc) (pc : Nat) (ls : Array Slot), some n_t_rest = some o_t_rest → va_P G.1 vwCl [oX6 t_h t_a t_windows t_goal t_otherFrom t_otherTo t_least, arI G (t_a 1) 12 t_links, arI G (t_a 2) 144 t_prices, arI G (t_a 3) 12 n_t_rest] H → va_S A s.heap H locs → decode cX6_measure pc = .ok (.return_, 1) → W p l e ({ frames := 2, cells := 0, slots := 0, locals := 55 } : Room) s m args below meth c H locs 0 0 Q (F0 m pc ls [])) ⟨va_A [oX6 t_h t_a t_windows t_goal t_otherFrom t_otherTo t_least, arI G (t_a 1) 12 t_links, arI G (t_a 2) 144 t_prices, arI G (t_a 3) 12 t_rest] s.heap.size, hD0.self (sz := s.heap.size), va_S.rf, fun q h => Or.inr h, ?_⟩ ?_
  · intro n_t_rest H locs pc ls h hP hS hd
    cases h
    exact retWV hx hb hr hlk hS hP hd
  rintro Q ⟨A, hD, hS, hA, hRet⟩
  change W p l e ({ frames := 2, cells := 0, slots := 0, locals := 55 } : Room) s m args below meth c _ _ 0 0 Q _
  have L32 : ∀  (K : (Nat → Int32) → Option (Nat → Int32)) (n : Nat) (l3 : Int32) (l4 : Int32) (t_rest : Nat → Int32) (H : Heap) (locs : List Loc) (ls : Array Slot), va_P G.1 vwCl [oX6 t_h t_a t_windows t_goal t_otherFrom t_otherTo t_least, arI G (t_a 1) 12 t_links, arI G (t_a 2) 144 t_prices, arI G (t_a 3) 12 t_rest] H → va_D A [oX6 t_h t_a t_windows t_goal t_otherFrom t_otherTo t_least, arI G (t_a 1) 12 t_links, arI G (t_a 2) 144 t_prices, arI G (t_a 3) 12 t_rest] → va_S A s.heap H locs → lv_has ls 6 [(0, .ref t_h), (3, .int l3), (4, .int l4)] → fX6_measure_32 t_windows t_links t_prices K n l3 l4 t_rest = some o_t_rest → (∀ (kt_rest : Nat → Int32) (H : Heap) (locs : List Loc) (ls : Array Slot), va_P G.1 vwCl [oX6 t_h t_a t_windows t_goal t_otherFrom t_otherTo t_least, arI G (t_a 1) 12 t_links, arI G (t_a 2) 144 t_prices, arI G (t_a 3) 12 kt_rest] H → va_D A [oX6 t_h t_a t_windows t_goal t_otherFrom t_otherTo t_least, arI G (t_a 1) 12 t_links, arI G (t_a 2) 144 t_prices, arI G (t_a 3) 12 kt_rest] → va_S A s.heap H locs → lv_has ls 6 [] → K kt_rest = some o_t_rest → W p l e ({ frames := 2, cells := 0, slots := 0, locals := 55 } : Room) s m args below meth c H locs 0 0 Q (F0 m 85 ls [])) → W p l e ({ frames := 2, cells := 0, slots := 0, locals := 55 } : Room) s m args below meth c H locs 0 0 Q (F0 m 32 ls []) := by
    intro  K n
    induction n with
    | zero => intro l3 l4 t_rest H locs ls hP hD hS hl hf; rw [fX6_measure_32] at hf; cases hf
    | succ n ih =>
      intro l3 l4 t_rest H locs ls hP hD hS hl hf hX
      rw [fX6_measure_32] at hf
      refine lv_iload hx hb dX6_measure_32 (lv_at hl 2 rfl) ?_
      refine lv_aload_n hx hb dX6_measure_34 rfl (lv_at hl 0 rfl) ?_
      refine va_get (D := G.1) (ci := 6) (v := .int t_windows) (C := RX6) (T := TX6) (N := 9) hx hb hw inW6 hown hK.1 hP 0 rfl rfl 0 (by decide) (hw _ kw_18_14) (fun _ h9 => h9) rfl dX6_measure_35 ?_
      refine lv_icmp_ge (tgt := 85) hx hb dX6_measure_38 (by decide) (fun c_6 => ?_) (fun c_6 => ?_)
      · have hf := ip c_6 hf
        exact hX _ _ _ _ hP hD hS (lv_sub hl [] rfl) hf
      · have hf := iq c_6 hf
        refine lv_aload_n hx hb dX6_measure_41 rfl (lv_at hl 0 rfl) ?_
        refine lv_iload_n hx hb dX6_measure_42 rfl (lv_at hl 1 rfl) ?_
        obtain ⟨r_7, hc_8, hf⟩ := bd1_in hf
        refine rcI (va_runV (As := [.int l3]) (rest := []) ⟨hx, hb, hml, hown, hw⟩ ((ctX6_nearest l G t_h t_a t_windows t_rest t_goal t_otherFrom t_otherTo t_least l3 _ hc_8) _) (kV hw calX6_nearest kw_28_6 rfl rfl ⟨Nat.le_of_ble_eq_true rfl, Nat.le_of_ble_eq_true rfl⟩) (rpV (hP.sub (ws' := [oX6 t_h t_a t_windows t_goal t_otherFrom t_otherTo t_least, arI G (t_a 3) 12 t_rest]) [0, 3] rfl) hK (ci := 6) (q0 := 0) rfl rfl) rfl rfl hl.1 rfl (lv_room (Nat.le_of_ble_eq_true rfl)) dX6_measure_43 ⟨Nat.zero_le _, Nat.zero_le _⟩) hS hA hP (fun H locs hP hS => ?_)
        refine lv_istore (lv' := [(5, .int r_7), (0, .ref t_h), (3, .int l3), (4, .int l4)]) hx hb dX6_measure_46 hl (by decide) rfl (fun ls hl => ?_)
        refine lv_iload hx hb dX6_measure_48 (lv_at hl 0 rfl) ?_
        refine lv_iconst (v := (-1)) hx hb dX6_measure_50 (by decide) ?_
        refine lv_icmp_ne (tgt := 55) hx hb dX6_measure_51 (by decide) (fun c_9 => ?_) (fun c_9 => ?_)
        · have hf := iq c_9 hf
          refine lv_iload_n hx hb dX6_measure_55 rfl (lv_at hl 2 rfl) ?_
          refine lv_iconst (v := 1) hx hb dX6_measure_56 (by decide) ?_
          refine lv_iload hx hb dX6_measure_57 (lv_at hl 0 rfl) ?_
          refine lv_ishl hx hb dX6_measure_59 ?_
          refine lv_iconst (v := (-1)) hx hb dX6_measure_60 (by decide) ?_
          refine lv_ixor hx hb dX6_measure_61 ?_
          refine lv_iand hx hb dX6_measure_62 ?_
          refine lv_topi (fun y_10 ey_10 => ?_)
          have hf := bnd_all hf y_10 ey_10
          refine lv_istore_n (lv' := [(3, .int y_10), (5, .int r_7), (0, .ref t_h), (4, .int l4)]) hx hb dX6_measure_63 rfl hl (by decide) rfl (fun ls hl => ?_)
          refine lv_aload_n hx hb dX6_measure_64 rfl (lv_at hl 2 rfl) ?_
          refine lv_iload hx hb dX6_measure_65 (lv_at hl 1 rfl) ?_
          refine lv_aload_n hx hb dX6_measure_67 rfl (lv_at hl 2 rfl) ?_
          refine va_get (D := G.1) (ci := 6) (v := .ref (t_a 1)) (C := RX6) (T := TX6) (N := 9) hx hb hw inW6 hown hK.1 hP 0 rfl rfl 1 (by decide) (hw _ kw_4_7) (fun _ h9 => h9) rfl dX6_measure_68 ?_
          refine lv_iload hx hb dX6_measure_71 (lv_at hl 1 rfl) ?_
          obtain ⟨hi_12, hf⟩ := rdI_in hf
          refine va_iald hx hb hK.1 hP 1 0 rfl rfl hi_12 dX6_measure_73 ?_
          refine lv_topi (fun x_11 ex_11 => ?_)
          have hf := hf x_11 ex_11
          refine lv_iload_n hx hb dX6_measure_74 rfl (lv_at hl 0 rfl) ?_
          refine lv_iand hx hb dX6_measure_75 ?_
          obtain ⟨t_rest_13, hc_14, hf⟩ := bd1_in hf
          refine wcV (w1 := [oX6 t_h t_a t_windows t_goal t_otherFrom t_otherTo t_least, arI G (t_a 2) 144 t_prices, arI G (t_a 3) 12 t_rest_13]) (va_runV (As := [.int r_7, .int (x_11 &&& y_10)]) (rest := []) ⟨hx, hb, hml, hown, hw⟩ ((ctX6_shorten l G t_h t_a t_windows t_prices t_rest t_goal t_otherFrom t_otherTo t_least r_7 (x_11 &&& y_10) _ hc_14) _) (kV hw calX6_shorten kw_28_10 rfl rfl ⟨Nat.le_of_ble_eq_true rfl, Nat.le_of_ble_eq_true rfl⟩) (wpV (hP.sub (ws' := [oX6 t_h t_a t_windows t_goal t_otherFrom t_otherTo t_least, arI G (t_a 2) 144 t_prices, arI G (t_a 3) 12 t_rest]) [0, 2, 3] rfl) (hD.sub (ws' := [oX6 t_h t_a t_windows t_goal t_otherFrom t_otherTo t_least, arI G (t_a 2) 144 t_prices, arI G (t_a 3) 12 t_rest]) [0, 2, 3] (by decide) rfl) hK (ci := 6) (q0 := 0) rfl rfl) rfl rfl hl.1 rfl (lv_room (Nat.le_of_ble_eq_true rfl)) dX6_measure_76 ⟨Nat.zero_le _, Nat.zero_le _⟩) hS hA hP hD [0, 2, 3] rfl rfl (fun H locs hP hD hS => ?_)
          have hP : va_P G.1 vwCl [oX6 t_h t_a t_windows t_goal t_otherFrom t_otherTo t_least, arI G (t_a 1) 12 t_links, arI G (t_a 2) 144 t_prices, arI G (t_a 3) 12 t_rest_13] H := hP
          have hD : va_D A [oX6 t_h t_a t_windows t_goal t_otherFrom t_otherTo t_least, arI G (t_a 1) 12 t_links, arI G (t_a 2) 144 t_prices, arI G (t_a 3) 12 t_rest_13] := hD
          refine lv_iinc (v := (l4 + 1)) (lv' := [(4, .int (l4 + 1)), (3, .int y_10), (5, .int r_7), (0, .ref t_h)]) hx hb dX6_measure_79 hl (k := 3) rfl (by rfl) (by decide) rfl (fun ls hl => ?_)
          refine lv_goto (tgt := 32) hx hb dX6_measure_82 (by decide) ?_
          exact ih _ _ _ _ _ _ hP hD hS (lv_sub hl [3, 1, 0] rfl) hf hX
        · have hf := ip c_9 hf
          exact hRet _ _ _ _ _ hf hP hS dX6_measure_54
  unfold fX6_measure at hf
  refine lv_aload_n hx hb dX6_measure_0 rfl (lv_at hl 0 rfl) ?_
  refine va_get (D := G.1) (ci := 6) (v := .ref (t_a 3)) (C := RX6) (T := TX6) (N := 9) hx hb hw inW6 hown hK.1 hP 0 rfl rfl 3 (by decide) (hw _ kw_4_9) (fun _ h9 => h9) rfl dX6_measure_1 ?_
  refine lv_ldc hx hb hown (hw _ kw_28_5) dX6_measure_4 ?_
  obtain ⟨t_rest_1, hc_2, hf⟩ := bd1_in hf
  refine wcV (w1 := [arI G (t_a 3) 12 t_rest_1]) (va_runS (As := [.ref (t_a 3), .int 16777216]) (rest := []) ⟨hx, hb, hml, hown, hw⟩ ((ctJ7_fill_53178 l G 12 (t_a 3) t_rest 16777216 _ hc_2) _) (kS hw calJ7_fill_53178 kw_18_15 rfl rfl ⟨Nat.le_of_ble_eq_true rfl, Nat.le_of_ble_eq_true rfl⟩) (wpS (hP.sub (ws' := [arI G (t_a 3) 12 t_rest]) [3] rfl) (hD.sub (ws' := [arI G (t_a 3) 12 t_rest]) [3] (by decide) rfl) hK) rfl rfl hl.1 rfl (lv_room (Nat.le_of_ble_eq_true rfl)) dX6_measure_6 ⟨Nat.zero_le _, Nat.zero_le _⟩) hS hA hP hD [3] rfl rfl (fun H locs hP hD hS => ?_)
  have hP : va_P G.1 vwCl [oX6 t_h t_a t_windows t_goal t_otherFrom t_otherTo t_least, arI G (t_a 1) 12 t_links, arI G (t_a 2) 144 t_prices, arI G (t_a 3) 12 t_rest_1] H := hP
  have hD : va_D A [oX6 t_h t_a t_windows t_goal t_otherFrom t_otherTo t_least, arI G (t_a 1) 12 t_links, arI G (t_a 2) 144 t_prices, arI G (t_a 3) 12 t_rest_1] := hD
  refine lv_aload_n hx hb dX6_measure_9 rfl (lv_at hl 0 rfl) ?_
  refine va_get (D := G.1) (ci := 6) (v := .ref (t_a 3)) (C := RX6) (T := TX6) (N := 9) hx hb hw inW6 hown hK.1 hP 0 rfl rfl 3 (by decide) (hw _ kw_4_9) (fun _ h9 => h9) rfl dX6_measure_10 ?_
  refine lv_iload_n hx hb dX6_measure_13 rfl (lv_at hl 1 rfl) ?_
  refine lv_iconst (v := 0) hx hb dX6_measure_14 (by decide) ?_
  obtain ⟨hi_4, hf⟩ := wrI_in hf
  refine xiast hx hb hK.1 hP hD hS 3 0 rfl rfl hi_4 dX6_measure_15 (fun t_rest_3 H locs et_rest_3 hP hD hS => ?_)
  have hf := hf t_rest_3 et_rest_3
  have hP : va_P G.1 vwCl [oX6 t_h t_a t_windows t_goal t_otherFrom t_otherTo t_least, arI G (t_a 1) 12 t_links, arI G (t_a 2) 144 t_prices, arI G (t_a 3) 12 t_rest_3] H := hP
  have hD : va_D A [oX6 t_h t_a t_windows t_goal t_otherFrom t_otherTo t_least, arI G (t_a 1) 12 t_links, arI G (t_a 2) 144 t_prices, arI G (t_a 3) 12 t_rest_3] := hD
  refine lv_iconst (v := 1) hx hb dX6_measure_16 (by decide) ?_
  refine lv_aload_n hx hb dX6_measure_17 rfl (lv_at hl 0 rfl) ?_
  refine va_get (D := G.1) (ci := 6) (v := .int t_windows) (C := RX6) (T := TX6) (N := 9) hx hb hw inW6 hown hK.1 hP 0 rfl rfl 0 (by decide) (hw _ kw_18_14) (fun _ h9 => h9) rfl dX6_measure_18 ?_
  refine lv_ishl hx hb dX6_measure_21 ?_
  refine lv_iconst (v := 1) hx hb dX6_measure_22 (by decide) ?_
  refine lv_isub hx hb dX6_measure_23 ?_
  refine lv_iload_n hx hb dX6_measure_24 rfl (lv_at hl 2 rfl) ?_
  refine lv_iconst (v := (-1)) hx hb dX6_measure_25 (by decide) ?_
  refine lv_ixor hx hb dX6_measure_26 ?_
  refine lv_iand hx hb dX6_measure_27 ?_
  refine lv_topi (fun y_5 ey_5 => ?_)
  have hf := bnd_all hf y_5 ey_5
  refine lv_istore_n (lv' := [(3, .int y_5), (0, .ref t_h), (1, .int v1), (2, .int v2)]) hx hb dX6_measure_28 rfl hl (by decide) rfl (fun ls hl => ?_)
  refine lv_iconst (v := 0) hx hb dX6_measure_29 (by decide) ?_
  refine lv_istore (lv' := [(4, .int 0), (3, .int y_5), (0, .ref t_h), (1, .int v1), (2, .int v2)]) hx hb dX6_measure_30 hl (by decide) rfl (fun ls hl => ?_)
  refine L32  _ _ _ _ _ _ _ _ hP hD hS (lv_sub hl [2, 1, 0] rfl) hf (fun t_rest_15 H locs ls hP hD hS hl hf => ?_)
  exact hRet _ _ _ _ _ hf hP hS dX6_measure_85
theorem calX6_lossFrom : CalV yX6_lossFrom cX6_lossFrom 2 (some .int) 1 := ⟨⟨kw_28_22, kw_2_0, by decide +kernel⟩, kw_28_20, kw_28_21⟩
set_option maxHeartbeats 8000000 in
set_option maxRecDepth 100000 in
theorem ctX6_lossFrom (l : Launch) (G : GT) (t_h : Nat) (t_a : Nat → Nat) (t_windows : Int32) (t_rest : Nat → Int32) (t_goal : Int32) (t_otherFrom : Int32) (t_otherTo : Int32) (t_least : Int32) (v1 : Int32) (r : Int32) (hf : fX6_lossFrom t_rest v1 = some r) : RdI l yX6_lossFrom (Cond.code yX6_lossFrom cX6_lossFrom 2 (some .int)) { frames := 0, cells := 0, slots := 0, locals := 0 } G [.ref t_h, .int v1] [oX6 t_h t_a t_windows t_goal t_otherFrom t_otherTo t_least, arI G (t_a 3) 12 t_rest] r := by
  intro sz
  refine Met.ofW (cc := cX6_lossFrom) (maxL := 2) (ret := (some .int)) (by decide) rfl ?_
  intro p e s m args below meth c s₁ B hml hv
  obtain ⟨hargs, hsz, hP, hK⟩ := hv
  subst hsz
  obtain ⟨hx, hb, hr, hw, hown, hlk⟩ := fwB B
  refine fw_enter hargs (Nat.le_of_ble_eq_true rfl) (fun ls hl => ?_)
  have hl : lv_has ls 2 [(0, .ref t_h), (1, .int v1)] := hl
  refine fw_Q (P := fun Q => ∃ A : Nat → Prop, va_S A s.heap s.heap [] ∧ (∀ q, s.heap.size ≤ q → A q) ∧ ∀ (v : Int32) (H : Heap) (locs : List Loc) (pc : Nat) (ls : Array Slot), some v = some r → va_S A s.heap H locs → decode cX6_lossFrom pc = .ok (.ireturn, 1) → W p l e ({ frames := 0, cells := 0, slots := 0, locals := 0 } : Room) s m args below meth c H locs 0 0 Q (F0 m pc ls [.int v])) ⟨fun q => s.heap.size ≤ q, va_S.rf, fun q h => h, fun v H locs pc ls h hS hd => retRI hx hb hr hlk hS h hd⟩ ?_
  rintro Q ⟨A, hS, hA, hRet⟩
  change W p l e ({ frames := 0, cells := 0, slots := 0, locals := 0 } : Room) s m args below meth c _ _ 0 0 Q _
  unfold fX6_lossFrom at hf
  refine lv_aload_n hx hb dX6_lossFrom_0 rfl (lv_at hl 0 rfl) ?_
  refine va_get (D := G.1) (ci := 6) (v := .ref (t_a 3)) (C := RX6) (T := TX6) (N := 9) hx hb hw inW6 hown hK.1 hP 0 rfl rfl 3 (by decide) (hw _ kw_4_9) (fun _ h9 => h9) rfl dX6_lossFrom_1 ?_
  refine lv_iload_n hx hb dX6_lossFrom_4 rfl (lv_at hl 1 rfl) ?_
  obtain ⟨hi_2, hf⟩ := rdI_in hf
  refine va_iald hx hb hK.1 hP 1 0 rfl rfl hi_2 dX6_lossFrom_5 ?_
  refine lv_topi (fun x_1 ex_1 => ?_)
  have hf := hf x_1 ex_1
  refine lv_ldc hx hb hown (hw _ kw_28_5) dX6_lossFrom_6 ?_
  refine lv_icmp_ne (tgt := 15) hx hb dX6_lossFrom_8 (by decide) (fun c_3 => ?_) (fun c_3 => ?_)
  · have hf := iq c_3 hf
    refine lv_aload_n hx hb dX6_lossFrom_15 rfl (lv_at hl 0 rfl) ?_
    refine va_get (D := G.1) (ci := 6) (v := .ref (t_a 3)) (C := RX6) (T := TX6) (N := 9) hx hb hw inW6 hown hK.1 hP 0 rfl rfl 3 (by decide) (hw _ kw_4_9) (fun _ h9 => h9) rfl dX6_lossFrom_16 ?_
    refine lv_iload_n hx hb dX6_lossFrom_19 rfl (lv_at hl 1 rfl) ?_
    obtain ⟨hi_5, hf⟩ := rdI_in hf
    refine va_iald hx hb hK.1 hP 1 0 rfl rfl hi_5 dX6_lossFrom_20 ?_
    refine lv_topi (fun x_4 ex_4 => ?_)
    have hf := hf x_4 ex_4
    refine lv_bipush (v := 16) hx hb dX6_lossFrom_21 (by decide) ?_
    refine lv_idiv hx hb dX6_lossFrom_23 (by decide) ?_
    exact hRet _ _ _ _ _ hf hS dX6_lossFrom_24
  · have hf := ip c_3 hf
    refine lv_iconst (v := (-1)) hx hb dX6_lossFrom_11 (by decide) ?_
    refine lv_goto (tgt := 24) hx hb dX6_lossFrom_12 (by decide) ?_
    exact hRet _ _ _ _ _ hf hS dX6_lossFrom_24
theorem calX6_stringsFrom : CalV yX6_stringsFrom cX6_stringsFrom 2 (some .int) 1 := ⟨⟨kw_29_2, kw_2_0, by decide +kernel⟩, kw_29_0, kw_29_1⟩
set_option maxHeartbeats 8000000 in
set_option maxRecDepth 100000 in
theorem ctX6_stringsFrom (l : Launch) (G : GT) (t_h : Nat) (t_a : Nat → Nat) (t_windows : Int32) (t_rest : Nat → Int32) (t_goal : Int32) (t_otherFrom : Int32) (t_otherTo : Int32) (t_least : Int32) (v1 : Int32) (r : Int32) (hf : fX6_stringsFrom t_rest v1 = some r) : RdI l yX6_stringsFrom (Cond.code yX6_stringsFrom cX6_stringsFrom 2 (some .int)) { frames := 0, cells := 0, slots := 0, locals := 0 } G [.ref t_h, .int v1] [oX6 t_h t_a t_windows t_goal t_otherFrom t_otherTo t_least, arI G (t_a 3) 12 t_rest] r := by
  intro sz
  refine Met.ofW (cc := cX6_stringsFrom) (maxL := 2) (ret := (some .int)) (by decide) rfl ?_
  intro p e s m args below meth c s₁ B hml hv
  obtain ⟨hargs, hsz, hP, hK⟩ := hv
  subst hsz
  obtain ⟨hx, hb, hr, hw, hown, hlk⟩ := fwB B
  refine fw_enter hargs (Nat.le_of_ble_eq_true rfl) (fun ls hl => ?_)
  have hl : lv_has ls 2 [(0, .ref t_h), (1, .int v1)] := hl
  refine fw_Q (P := fun Q => ∃ A : Nat → Prop, va_S A s.heap s.heap [] ∧ (∀ q, s.heap.size ≤ q → A q) ∧ ∀ (v : Int32) (H : Heap) (locs : List Loc) (pc : Nat) (ls : Array Slot), some v = some r → va_S A s.heap H locs → decode cX6_stringsFrom pc = .ok (.ireturn, 1) → W p l e ({ frames := 0, cells := 0, slots := 0, locals := 0 } : Room) s m args below meth c H locs 0 0 Q (F0 m pc ls [.int v])) ⟨fun q => s.heap.size ≤ q, va_S.rf, fun q h => h, fun v H locs pc ls h hS hd => retRI hx hb hr hlk hS h hd⟩ ?_
  rintro Q ⟨A, hS, hA, hRet⟩
  change W p l e ({ frames := 0, cells := 0, slots := 0, locals := 0 } : Room) s m args below meth c _ _ 0 0 Q _
  unfold fX6_stringsFrom at hf
  refine lv_aload_n hx hb dX6_stringsFrom_0 rfl (lv_at hl 0 rfl) ?_
  refine va_get (D := G.1) (ci := 6) (v := .ref (t_a 3)) (C := RX6) (T := TX6) (N := 9) hx hb hw inW6 hown hK.1 hP 0 rfl rfl 3 (by decide) (hw _ kw_4_9) (fun _ h9 => h9) rfl dX6_stringsFrom_1 ?_
  refine lv_iload_n hx hb dX6_stringsFrom_4 rfl (lv_at hl 1 rfl) ?_
  obtain ⟨hi_2, hf⟩ := rdI_in hf
  refine va_iald hx hb hK.1 hP 1 0 rfl rfl hi_2 dX6_stringsFrom_5 ?_
  refine lv_topi (fun x_1 ex_1 => ?_)
  have hf := hf x_1 ex_1
  refine lv_ldc hx hb hown (hw _ kw_28_5) dX6_stringsFrom_6 ?_
  refine lv_icmp_ne (tgt := 15) hx hb dX6_stringsFrom_8 (by decide) (fun c_3 => ?_) (fun c_3 => ?_)
  · have hf := iq c_3 hf
    refine lv_aload_n hx hb dX6_stringsFrom_15 rfl (lv_at hl 0 rfl) ?_
    refine va_get (D := G.1) (ci := 6) (v := .ref (t_a 3)) (C := RX6) (T := TX6) (N := 9) hx hb hw inW6 hown hK.1 hP 0 rfl rfl 3 (by decide) (hw _ kw_4_9) (fun _ h9 => h9) rfl dX6_stringsFrom_16 ?_
    refine lv_iload_n hx hb dX6_stringsFrom_19 rfl (lv_at hl 1 rfl) ?_
    obtain ⟨hi_5, hf⟩ := rdI_in hf
    refine va_iald hx hb hK.1 hP 1 0 rfl rfl hi_5 dX6_stringsFrom_20 ?_
    refine lv_topi (fun x_4 ex_4 => ?_)
    have hf := hf x_4 ex_4
    refine lv_bipush (v := 16) hx hb dX6_stringsFrom_21 (by decide) ?_
    refine lv_irem hx hb dX6_stringsFrom_23 (by decide) ?_
    exact hRet _ _ _ _ _ hf hS dX6_stringsFrom_24
  · have hf := ip c_3 hf
    refine lv_iconst (v := (-1)) hx hb dX6_stringsFrom_11 (by decide) ?_
    refine lv_goto (tgt := 24) hx hb dX6_stringsFrom_12 (by decide) ?_
    exact hRet _ _ _ _ _ hf hS dX6_stringsFrom_24
theorem calX6_areLinked : CalV yX6_areLinked cX6_areLinked 3 (some .boolean) 2 := ⟨⟨kw_29_15, kw_2_0, by decide +kernel⟩, kw_29_13, kw_29_14⟩
set_option maxHeartbeats 8000000 in
set_option maxRecDepth 100000 in
theorem ctX6_areLinked (l : Launch) (G : GT) (t_h : Nat) (t_a : Nat → Nat) (t_windows : Int32) (t_links : Nat → Int32) (t_goal : Int32) (t_otherFrom : Int32) (t_otherTo : Int32) (t_least : Int32) (v1 : Int32) (v2 : Int32) (r : Int32) (hf : fX6_areLinked t_links v1 v2 = some r) : RdI l yX6_areLinked (Cond.code yX6_areLinked cX6_areLinked 3 (some .boolean)) { frames := 0, cells := 0, slots := 0, locals := 0 } G [.ref t_h, .int v1, .int v2] [oX6 t_h t_a t_windows t_goal t_otherFrom t_otherTo t_least, arI G (t_a 1) 12 t_links] r := by
  intro sz
  refine Met.ofW (cc := cX6_areLinked) (maxL := 3) (ret := (some .boolean)) (by decide) rfl ?_
  intro p e s m args below meth c s₁ B hml hv
  obtain ⟨hargs, hsz, hP, hK⟩ := hv
  subst hsz
  obtain ⟨hx, hb, hr, hw, hown, hlk⟩ := fwB B
  refine fw_enter hargs (Nat.le_of_ble_eq_true rfl) (fun ls hl => ?_)
  have hl : lv_has ls 3 [(0, .ref t_h), (1, .int v1), (2, .int v2)] := hl
  refine fw_Q (P := fun Q => ∃ A : Nat → Prop, va_S A s.heap s.heap [] ∧ (∀ q, s.heap.size ≤ q → A q) ∧ ∀ (v : Int32) (H : Heap) (locs : List Loc) (pc : Nat) (ls : Array Slot), some v = some r → va_S A s.heap H locs → narrow .boolean (.int v) = .int v → decode cX6_areLinked pc = .ok (.ireturn, 1) → W p l e ({ frames := 0, cells := 0, slots := 0, locals := 0 } : Room) s m args below meth c H locs 0 0 Q (F0 m pc ls [.int v])) ⟨fun q => s.heap.size ≤ q, va_S.rf, fun q h => h, fun v H locs pc ls h hS hn hd => retRZ hx hb hr hlk hS hn h hd⟩ ?_
  rintro Q ⟨A, hS, hA, hRet⟩
  change W p l e ({ frames := 0, cells := 0, slots := 0, locals := 0 } : Room) s m args below meth c _ _ 0 0 Q _
  unfold fX6_areLinked at hf
  refine lv_aload_n hx hb dX6_areLinked_0 rfl (lv_at hl 0 rfl) ?_
  refine va_get (D := G.1) (ci := 6) (v := .ref (t_a 1)) (C := RX6) (T := TX6) (N := 9) hx hb hw inW6 hown hK.1 hP 0 rfl rfl 1 (by decide) (hw _ kw_4_7) (fun _ h9 => h9) rfl dX6_areLinked_1 ?_
  refine lv_iload_n hx hb dX6_areLinked_4 rfl (lv_at hl 1 rfl) ?_
  obtain ⟨hi_2, hf⟩ := rdI_in hf
  refine va_iald hx hb hK.1 hP 1 0 rfl rfl hi_2 dX6_areLinked_5 ?_
  refine lv_topi (fun x_1 ex_1 => ?_)
  have hf := hf x_1 ex_1
  refine lv_iload_n hx hb dX6_areLinked_6 rfl (lv_at hl 2 rfl) ?_
  refine lv_ishr hx hb dX6_areLinked_7 ?_
  refine lv_iconst (v := 1) hx hb dX6_areLinked_8 (by decide) ?_
  refine lv_iand hx hb dX6_areLinked_9 ?_
  refine lv_if_eq (tgt := 17) hx hb dX6_areLinked_10 (by decide) (fun c_3 => ?_) (fun c_3 => ?_)
  · have hf := ip c_3 hf
    refine lv_iconst (v := 0) hx hb dX6_areLinked_17 (by decide) ?_
    exact hRet _ _ _ _ _ hf hS (by decide +kernel) dX6_areLinked_18
  · have hf := iq c_3 hf
    refine lv_iconst (v := 1) hx hb dX6_areLinked_13 (by decide) ?_
    refine lv_goto (tgt := 18) hx hb dX6_areLinked_14 (by decide) ?_
    exact hRet _ _ _ _ _ hf hS (by decide +kernel) dX6_areLinked_18
theorem calX6_onward : CalV yX6_onward cX6_onward 3 (some .int) 1 := ⟨⟨kw_29_11, kw_2_0, by decide +kernel⟩, kw_29_9, kw_29_10⟩
set_option maxHeartbeats 8000000 in
set_option maxRecDepth 100000 in
theorem ctX6_onward (l : Launch) (G : GT) (t_h : Nat) (t_a : Nat → Nat) (t_windows : Int32) (t_links : Nat → Int32) (t_prices : Nat → Int32) (t_rest : Nat → Int32) (t_goal : Int32) (t_otherFrom : Int32) (t_otherTo : Int32) (t_least : Int32) (v1 : Int32) (r : Int32) (hf : fX6_onward t_windows t_links t_prices t_rest v1 = some r) : RdI l yX6_onward (Cond.code yX6_onward cX6_onward 3 (some .int)) { frames := 1, cells := 0, slots := 0, locals := 22 } G [.ref t_h, .int v1] [oX6 t_h t_a t_windows t_goal t_otherFrom t_otherTo t_least, arI G (t_a 1) 12 t_links, arI G (t_a 2) 144 t_prices, arI G (t_a 3) 12 t_rest] r := by
  intro sz
  refine Met.ofW (cc := cX6_onward) (maxL := 3) (ret := (some .int)) (by decide) rfl ?_
  intro p e s m args below meth c s₁ B hml hv
  obtain ⟨hargs, hsz, hP, hK⟩ := hv
  subst hsz
  obtain ⟨hx, hb, hr, hw, hown, hlk⟩ := fwB B
  refine fw_enter hargs (Nat.le_of_ble_eq_true rfl) (fun ls hl => ?_)
  have hl : lv_has ls 3 [(0, .ref t_h), (1, .int v1)] := hl
  refine fw_Q (P := fun Q => ∃ A : Nat → Prop, va_S A s.heap s.heap [] ∧ (∀ q, s.heap.size ≤ q → A q) ∧ ∀ (v : Int32) (H : Heap) (locs : List Loc) (pc : Nat) (ls : Array Slot), some v = some r → va_S A s.heap H locs → decode cX6_onward pc = .ok (.ireturn, 1) → W p l e ({ frames := 1, cells := 0, slots := 0, locals := 22 } : Room) s m args below meth c H locs 0 0 Q (F0 m pc ls [.int v])) ⟨fun q => s.heap.size ≤ q, va_S.rf, fun q h => h, fun v H locs pc ls h hS hd => retRI hx hb hr hlk hS h hd⟩ ?_
  rintro Q ⟨A, hS, hA, hRet⟩
  change W p l e ({ frames := 1, cells := 0, slots := 0, locals := 22 } : Room) s m args below meth c _ _ 0 0 Q _
  have L2 : ∀  (K : Option Int32) (n : Nat) (l2 : Int32) (H : Heap) (locs : List Loc) (ls : Array Slot), va_P G.1 vwCl [oX6 t_h t_a t_windows t_goal t_otherFrom t_otherTo t_least, arI G (t_a 1) 12 t_links, arI G (t_a 2) 144 t_prices, arI G (t_a 3) 12 t_rest] H → va_S A s.heap H locs → lv_has ls 3 [(0, .ref t_h), (1, .int v1), (2, .int l2)] → fX6_onward_2 v1 t_windows t_links t_prices t_rest K n l2 = some r → (∀  (H : Heap) (locs : List Loc) (ls : Array Slot), va_P G.1 vwCl [oX6 t_h t_a t_windows t_goal t_otherFrom t_otherTo t_least, arI G (t_a 1) 12 t_links, arI G (t_a 2) 144 t_prices, arI G (t_a 3) 12 t_rest] H → va_S A s.heap H locs → lv_has ls 3 [] → K = some r → W p l e ({ frames := 1, cells := 0, slots := 0, locals := 22 } : Room) s m args below meth c H locs 0 0 Q (F0 m 49 ls [])) → W p l e ({ frames := 1, cells := 0, slots := 0, locals := 22 } : Room) s m args below meth c H locs 0 0 Q (F0 m 2 ls []) := by
    intro  K n
    induction n with
    | zero => intro l2 H locs ls hP hS hl hf; rw [fX6_onward_2] at hf; cases hf
    | succ n ih =>
      intro l2 H locs ls hP hS hl hf hX
      rw [fX6_onward_2] at hf
      refine lv_iload_n hx hb dX6_onward_2 rfl (lv_at hl 2 rfl) ?_
      refine lv_aload_n hx hb dX6_onward_3 rfl (lv_at hl 0 rfl) ?_
      refine va_get (D := G.1) (ci := 6) (v := .int t_windows) (C := RX6) (T := TX6) (N := 9) hx hb hw inW6 hown hK.1 hP 0 rfl rfl 0 (by decide) (hw _ kw_18_14) (fun _ h9 => h9) rfl dX6_onward_4 ?_
      refine lv_icmp_ge (tgt := 49) hx hb dX6_onward_7 (by decide) (fun c_1 => ?_) (fun c_1 => ?_)
      · have hf := ip c_1 hf
        exact hX  _ _ _ hP hS (lv_sub hl [] rfl) hf
      · have hf := iq c_1 hf
        refine lv_aload_n hx hb dX6_onward_10 rfl (lv_at hl 0 rfl) ?_
        refine lv_iload_n hx hb dX6_onward_11 rfl (lv_at hl 1 rfl) ?_
        refine lv_iload_n hx hb dX6_onward_12 rfl (lv_at hl 2 rfl) ?_
        obtain ⟨r_2, hc_3, hf⟩ := bd1_in hf
        refine rcI (va_runV (As := [.int v1, .int l2]) (rest := []) ⟨hx, hb, hml, hown, hw⟩ ((ctX6_areLinked l G t_h t_a t_windows t_links t_goal t_otherFrom t_otherTo t_least v1 l2 _ hc_3) _) (kV hw calX6_areLinked kw_29_12 rfl rfl ⟨Nat.le_of_ble_eq_true rfl, Nat.le_of_ble_eq_true rfl⟩) (rpV (hP.sub (ws' := [oX6 t_h t_a t_windows t_goal t_otherFrom t_otherTo t_least, arI G (t_a 1) 12 t_links]) [0, 1] rfl) hK (ci := 6) (q0 := 0) rfl rfl) rfl rfl hl.1 rfl (lv_room (Nat.le_of_ble_eq_true rfl)) dX6_onward_13 ⟨Nat.zero_le _, Nat.zero_le _⟩) hS hA hP (fun H locs hP hS => ?_)
        refine lv_if_eq (tgt := 43) hx hb dX6_onward_16 (by decide) (fun c_4 => ?_) (fun c_4 => ?_)
        · have hf := ip c_4 hf
          refine lv_iinc (v := (l2 + 1)) (lv' := [(2, .int (l2 + 1)), (0, .ref t_h), (1, .int v1)]) hx hb dX6_onward_43 hl (k := 2) rfl (by rfl) (by decide) rfl (fun ls hl => ?_)
          refine lv_goto (tgt := 2) hx hb dX6_onward_46 (by decide) ?_
          exact ih _ _ _ _ hP hS (lv_sub hl [1, 2, 0] rfl) hf hX
        · have hf := iq c_4 hf
          refine lv_aload_n hx hb dX6_onward_19 rfl (lv_at hl 0 rfl) ?_
          refine va_get (D := G.1) (ci := 6) (v := .ref (t_a 3)) (C := RX6) (T := TX6) (N := 9) hx hb hw inW6 hown hK.1 hP 0 rfl rfl 3 (by decide) (hw _ kw_4_9) (fun _ h9 => h9) rfl dX6_onward_20 ?_
          refine lv_iload_n hx hb dX6_onward_23 rfl (lv_at hl 2 rfl) ?_
          obtain ⟨hi_6, hf⟩ := rdI_in hf
          refine va_iald hx hb hK.1 hP 3 0 rfl rfl hi_6 dX6_onward_24 ?_
          refine lv_topi (fun x_5 ex_5 => ?_)
          have hf := hf x_5 ex_5
          refine lv_aload_n hx hb dX6_onward_25 rfl (lv_at hl 0 rfl) ?_
          refine lv_iload_n hx hb dX6_onward_26 rfl (lv_at hl 1 rfl) ?_
          refine lv_iload_n hx hb dX6_onward_27 rfl (lv_at hl 2 rfl) ?_
          obtain ⟨r_7, hc_8, hf⟩ := bd1_in hf
          refine rcI (va_runV (As := [.int v1, .int l2]) (rest := [.int x_5]) ⟨hx, hb, hml, hown, hw⟩ ((ctX6_priceOf l G t_h t_a t_windows t_prices t_goal t_otherFrom t_otherTo t_least v1 l2 _ hc_8) _) (kV hw calX6_priceOf kw_28_15 rfl rfl ⟨Nat.le_of_ble_eq_true rfl, Nat.le_of_ble_eq_true rfl⟩) (rpV (hP.sub (ws' := [oX6 t_h t_a t_windows t_goal t_otherFrom t_otherTo t_least, arI G (t_a 2) 144 t_prices]) [0, 2] rfl) hK (ci := 6) (q0 := 0) rfl rfl) rfl rfl hl.1 rfl (lv_room (Nat.le_of_ble_eq_true rfl)) dX6_onward_28 ⟨Nat.zero_le _, Nat.zero_le _⟩) hS hA hP (fun H locs hP hS => ?_)
          refine lv_iadd hx hb dX6_onward_31 ?_
          refine lv_aload_n hx hb dX6_onward_32 rfl (lv_at hl 0 rfl) ?_
          refine va_get (D := G.1) (ci := 6) (v := .ref (t_a 3)) (C := RX6) (T := TX6) (N := 9) hx hb hw inW6 hown hK.1 hP 0 rfl rfl 3 (by decide) (hw _ kw_4_9) (fun _ h9 => h9) rfl dX6_onward_33 ?_
          refine lv_iload_n hx hb dX6_onward_36 rfl (lv_at hl 1 rfl) ?_
          obtain ⟨hi_10, hf⟩ := rdI_in hf
          refine va_iald hx hb hK.1 hP 3 0 rfl rfl hi_10 dX6_onward_37 ?_
          refine lv_topi (fun x_9 ex_9 => ?_)
          have hf := hf x_9 ex_9
          refine lv_icmp_ne (tgt := 43) hx hb dX6_onward_38 (by decide) (fun c_11 => ?_) (fun c_11 => ?_)
          · have hf := iq c_11 hf
            refine lv_iinc (v := (l2 + 1)) (lv' := [(2, .int (l2 + 1)), (0, .ref t_h), (1, .int v1)]) hx hb dX6_onward_43 hl (k := 2) rfl (by rfl) (by decide) rfl (fun ls hl => ?_)
            refine lv_goto (tgt := 2) hx hb dX6_onward_46 (by decide) ?_
            exact ih _ _ _ _ hP hS (lv_sub hl [1, 2, 0] rfl) hf hX
          · have hf := ip c_11 hf
            refine lv_iload_n hx hb dX6_onward_41 rfl (lv_at hl 2 rfl) ?_
            exact hRet _ _ _ _ _ hf hS dX6_onward_42
  unfold fX6_onward at hf
  refine lv_iconst (v := 0) hx hb dX6_onward_0 (by decide) ?_
  refine lv_istore_n (lv' := [(2, .int 0), (0, .ref t_h), (1, .int v1)]) hx hb dX6_onward_1 rfl hl (by decide) rfl (fun ls hl => ?_)
  refine L2  _ _ _ _ _ _ hP hS (lv_sub hl [1, 2, 0] rfl) hf (fun  H locs ls hP hS hl hf => ?_)
  refine lv_iconst (v := (-1)) hx hb dX6_onward_49 (by decide) ?_
  exact hRet _ _ _ _ _ hf hS dX6_onward_50
theorem calX6_windowOnWay : CalV yX6_windowOnWay cX6_windowOnWay 5 (some .int) 2 := ⟨⟨kw_29_6, kw_2_0, by decide +kernel⟩, kw_29_4, kw_29_5⟩
set_option maxHeartbeats 8000000 in
set_option maxRecDepth 100000 in
theorem ctX6_windowOnWay (l : Launch) (G : GT) (t_h : Nat) (t_a : Nat → Nat) (t_windows : Int32) (t_links : Nat → Int32) (t_prices : Nat → Int32) (t_rest : Nat → Int32) (t_goal : Int32) (t_otherFrom : Int32) (t_otherTo : Int32) (t_least : Int32) (v1 : Int32) (v2 : Int32) (r : Int32) (hf : fX6_windowOnWay t_windows t_links t_prices t_rest v1 v2 = some r) : RdI l yX6_windowOnWay (Cond.code yX6_windowOnWay cX6_windowOnWay 5 (some .int)) { frames := 2, cells := 0, slots := 0, locals := 44 } G [.ref t_h, .int v1, .int v2] [oX6 t_h t_a t_windows t_goal t_otherFrom t_otherTo t_least, arI G (t_a 1) 12 t_links, arI G (t_a 2) 144 t_prices, arI G (t_a 3) 12 t_rest] r := by
  intro sz
  refine Met.ofW (cc := cX6_windowOnWay) (maxL := 5) (ret := (some .int)) (by decide) rfl ?_
  intro p e s m args below meth c s₁ B hml hv
  obtain ⟨hargs, hsz, hP, hK⟩ := hv
  subst hsz
  obtain ⟨hx, hb, hr, hw, hown, hlk⟩ := fwB B
  refine fw_enter hargs (Nat.le_of_ble_eq_true rfl) (fun ls hl => ?_)
  have hl : lv_has ls 5 [(0, .ref t_h), (1, .int v1), (2, .int v2)] := hl
  refine fw_Q (P := fun Q => ∃ A : Nat → Prop, va_S A s.heap s.heap [] ∧ (∀ q, s.heap.size ≤ q → A q) ∧ ∀ (v : Int32) (H : Heap) (locs : List Loc) (pc : Nat) (ls : Array Slot), some v = some r → va_S A s.heap H locs → decode cX6_windowOnWay pc = .ok (.ireturn, 1) → W p l e ({ frames := 2, cells := 0, slots := 0, locals := 44 } : Room) s m args below meth c H locs 0 0 Q (F0 m pc ls [.int v])) ⟨fun q => s.heap.size ≤ q, va_S.rf, fun q h => h, fun v H locs pc ls h hS hd => retRI hx hb hr hlk hS h hd⟩ ?_
  rintro Q ⟨A, hS, hA, hRet⟩
  change W p l e ({ frames := 2, cells := 0, slots := 0, locals := 44 } : Room) s m args below meth c _ _ 0 0 Q _
  have L16 : ∀  (K : Int32 → Option Int32) (n : Nat) (l3 : Int32) (l4 : Int32) (H : Heap) (locs : List Loc) (ls : Array Slot), va_P G.1 vwCl [oX6 t_h t_a t_windows t_goal t_otherFrom t_otherTo t_least, arI G (t_a 1) 12 t_links, arI G (t_a 2) 144 t_prices, arI G (t_a 3) 12 t_rest] H → va_S A s.heap H locs → lv_has ls 5 [(0, .ref t_h), (2, .int v2), (3, .int l3), (4, .int l4)] → fX6_windowOnWay_16 v2 t_windows t_links t_prices t_rest K n l3 l4 = some r → (∀ (k3 : Int32) (H : Heap) (locs : List Loc) (ls : Array Slot), va_P G.1 vwCl [oX6 t_h t_a t_windows t_goal t_otherFrom t_otherTo t_least, arI G (t_a 1) 12 t_links, arI G (t_a 2) 144 t_prices, arI G (t_a 3) 12 t_rest] H → va_S A s.heap H locs → lv_has ls 5 [(3, .int k3)] → K k3 = some r → W p l e ({ frames := 2, cells := 0, slots := 0, locals := 44 } : Room) s m args below meth c H locs 0 0 Q (F0 m 39 ls [])) → W p l e ({ frames := 2, cells := 0, slots := 0, locals := 44 } : Room) s m args below meth c H locs 0 0 Q (F0 m 16 ls []) := by
    intro  K n
    induction n with
    | zero => intro l3 l4 H locs ls hP hS hl hf; rw [fX6_windowOnWay_16] at hf; cases hf
    | succ n ih =>
      intro l3 l4 H locs ls hP hS hl hf hX
      rw [fX6_windowOnWay_16] at hf
      refine lv_iload hx hb dX6_windowOnWay_16 (lv_at hl 3 rfl) ?_
      refine lv_iload_n hx hb dX6_windowOnWay_18 rfl (lv_at hl 1 rfl) ?_
      refine lv_icmp_ge (tgt := 39) hx hb dX6_windowOnWay_19 (by decide) (fun c_4 => ?_) (fun c_4 => ?_)
      · have hf := ip c_4 hf
        exact hX _ _ _ _ hP hS (lv_sub hl [2] rfl) hf
      · have hf := iq c_4 hf
        refine lv_iload_n hx hb dX6_windowOnWay_22 rfl (lv_at hl 2 rfl) ?_
        refine lv_iconst (v := (-1)) hx hb dX6_windowOnWay_23 (by decide) ?_
        refine lv_icmp_eq (tgt := 39) hx hb dX6_windowOnWay_24 (by decide) (fun c_5 => ?_) (fun c_5 => ?_)
        · have hf := ip c_5 hf
          exact hX _ _ _ _ hP hS (lv_sub hl [2] rfl) hf
        · have hf := iq c_5 hf
          refine lv_aload_n hx hb dX6_windowOnWay_27 rfl (lv_at hl 0 rfl) ?_
          refine lv_iload_n hx hb dX6_windowOnWay_28 rfl (lv_at hl 2 rfl) ?_
          obtain ⟨r_6, hc_7, hf⟩ := bd1_in hf
          refine rcI (va_runV (As := [.int l3]) (rest := []) ⟨hx, hb, hml, hown, hw⟩ ((ctX6_onward l G t_h t_a t_windows t_links t_prices t_rest t_goal t_otherFrom t_otherTo t_least l3 _ hc_7) _) (kV hw calX6_onward kw_29_8 rfl rfl ⟨Nat.le_of_ble_eq_true rfl, Nat.le_of_ble_eq_true rfl⟩) (rpV (hP.sub (ws' := [oX6 t_h t_a t_windows t_goal t_otherFrom t_otherTo t_least, arI G (t_a 1) 12 t_links, arI G (t_a 2) 144 t_prices, arI G (t_a 3) 12 t_rest]) [0, 1, 2, 3] rfl) hK (ci := 6) (q0 := 0) rfl rfl) rfl rfl hl.1 rfl (lv_room (Nat.le_of_ble_eq_true rfl)) dX6_windowOnWay_29 ⟨Nat.zero_le _, Nat.zero_le _⟩) hS hA hP (fun H locs hP hS => ?_)
          refine lv_istore_n (lv' := [(3, .int r_6), (0, .ref t_h), (2, .int v2), (4, .int l4)]) hx hb dX6_windowOnWay_32 rfl hl (by decide) rfl (fun ls hl => ?_)
          refine lv_iinc (v := (l4 + 1)) (lv' := [(4, .int (l4 + 1)), (3, .int r_6), (0, .ref t_h), (2, .int v2)]) hx hb dX6_windowOnWay_33 hl (k := 3) rfl (by rfl) (by decide) rfl (fun ls hl => ?_)
          refine lv_goto (tgt := 16) hx hb dX6_windowOnWay_36 (by decide) ?_
          exact ih _ _ _ _ _ hP hS (lv_sub hl [2, 3, 1, 0] rfl) hf hX
  unfold fX6_windowOnWay at hf
  refine lv_iload_n hx hb dX6_windowOnWay_0 rfl (lv_at hl 2 rfl) ?_
  refine lv_aload_n hx hb dX6_windowOnWay_1 rfl (lv_at hl 0 rfl) ?_
  refine lv_iload_n hx hb dX6_windowOnWay_2 rfl (lv_at hl 1 rfl) ?_
  obtain ⟨r_1, hc_2, hf⟩ := bd1_in hf
  refine rcI (va_runV (As := [.int v1]) (rest := [.int v2]) ⟨hx, hb, hml, hown, hw⟩ ((ctX6_stringsFrom l G t_h t_a t_windows t_rest t_goal t_otherFrom t_otherTo t_least v1 _ hc_2) _) (kV hw calX6_stringsFrom kw_29_7 rfl rfl ⟨Nat.le_of_ble_eq_true rfl, Nat.le_of_ble_eq_true rfl⟩) (rpV (hP.sub (ws' := [oX6 t_h t_a t_windows t_goal t_otherFrom t_otherTo t_least, arI G (t_a 3) 12 t_rest]) [0, 3] rfl) hK (ci := 6) (q0 := 0) rfl rfl) rfl rfl hl.1 rfl (lv_room (Nat.le_of_ble_eq_true rfl)) dX6_windowOnWay_3 ⟨Nat.zero_le _, Nat.zero_le _⟩) hS hA hP (fun H locs hP hS => ?_)
  refine lv_icmp_le (tgt := 11) hx hb dX6_windowOnWay_6 (by decide) (fun c_3 => ?_) (fun c_3 => ?_)
  · have hf := ip c_3 hf
    refine lv_iload_n hx hb dX6_windowOnWay_11 rfl (lv_at hl 1 rfl) ?_
    refine lv_istore_n (lv' := [(3, .int v1), (0, .ref t_h), (1, .int v1), (2, .int v2)]) hx hb dX6_windowOnWay_12 rfl hl (by decide) rfl (fun ls hl => ?_)
    refine lv_iconst (v := 0) hx hb dX6_windowOnWay_13 (by decide) ?_
    refine lv_istore (lv' := [(4, .int 0), (3, .int v1), (0, .ref t_h), (1, .int v1), (2, .int v2)]) hx hb dX6_windowOnWay_14 hl (by decide) rfl (fun ls hl => ?_)
    refine L16  _ _ _ _ _ _ _ hP hS (lv_sub hl [2, 4, 1, 0] rfl) hf (fun w_8 H locs ls hP hS hl hf => ?_)
    refine lv_iload_n hx hb dX6_windowOnWay_39 rfl (lv_at hl 0 rfl) ?_
    exact hRet _ _ _ _ _ hf hS dX6_windowOnWay_40
  · have hf := iq c_3 hf
    refine lv_iconst (v := (-1)) hx hb dX6_windowOnWay_9 (by decide) ?_
    exact hRet _ _ _ _ _ hf hS dX6_windowOnWay_10
theorem calX6_isHeardFrom : CalV yX6_isHeardFrom cX6_isHeardFrom 3 (some .boolean) 2 := ⟨⟨kw_30_19, kw_2_0, by decide +kernel⟩, kw_30_17, kw_30_18⟩
set_option maxHeartbeats 8000000 in
set_option maxRecDepth 100000 in
theorem ctX6_isHeardFrom (l : Launch) (G : GT) (t_h : Nat) (t_a : Nat → Nat) (t_windows : Int32) (t_rest : Nat → Int32) (t_goal : Int32) (t_otherFrom : Int32) (t_otherTo : Int32) (t_least : Int32) (v1 : Int32) (v2 : Int32) (r : Int32) (hf : fX6_isHeardFrom t_rest v1 v2 = some r) : RdI l yX6_isHeardFrom (Cond.code yX6_isHeardFrom cX6_isHeardFrom 3 (some .boolean)) { frames := 1, cells := 0, slots := 0, locals := 21 } G [.ref t_h, .int v1, .int v2] [oX6 t_h t_a t_windows t_goal t_otherFrom t_otherTo t_least, arI G (t_a 3) 12 t_rest] r := by
  intro sz
  refine Met.ofW (cc := cX6_isHeardFrom) (maxL := 3) (ret := (some .boolean)) (by decide) rfl ?_
  intro p e s m args below meth c s₁ B hml hv
  obtain ⟨hargs, hsz, hP, hK⟩ := hv
  subst hsz
  obtain ⟨hx, hb, hr, hw, hown, hlk⟩ := fwB B
  refine fw_enter hargs (Nat.le_of_ble_eq_true rfl) (fun ls hl => ?_)
  have hl : lv_has ls 3 [(0, .ref t_h), (1, .int v1), (2, .int v2)] := hl
  refine fw_Q (P := fun Q => ∃ A : Nat → Prop, va_S A s.heap s.heap [] ∧ (∀ q, s.heap.size ≤ q → A q) ∧ ∀ (v : Int32) (H : Heap) (locs : List Loc) (pc : Nat) (ls : Array Slot), some v = some r → va_S A s.heap H locs → narrow .boolean (.int v) = .int v → decode cX6_isHeardFrom pc = .ok (.ireturn, 1) → W p l e ({ frames := 1, cells := 0, slots := 0, locals := 21 } : Room) s m args below meth c H locs 0 0 Q (F0 m pc ls [.int v])) ⟨fun q => s.heap.size ≤ q, va_S.rf, fun q h => h, fun v H locs pc ls h hS hn hd => retRZ hx hb hr hlk hS hn h hd⟩ ?_
  rintro Q ⟨A, hS, hA, hRet⟩
  change W p l e ({ frames := 1, cells := 0, slots := 0, locals := 21 } : Room) s m args below meth c _ _ 0 0 Q _
  unfold fX6_isHeardFrom at hf
  refine lv_aload_n hx hb dX6_isHeardFrom_0 rfl (lv_at hl 0 rfl) ?_
  refine va_get (D := G.1) (ci := 6) (v := .ref (t_a 3)) (C := RX6) (T := TX6) (N := 9) hx hb hw inW6 hown hK.1 hP 0 rfl rfl 3 (by decide) (hw _ kw_4_9) (fun _ h9 => h9) rfl dX6_isHeardFrom_1 ?_
  refine lv_iload_n hx hb dX6_isHeardFrom_4 rfl (lv_at hl 1 rfl) ?_
  obtain ⟨hi_2, hf⟩ := rdI_in hf
  refine va_iald hx hb hK.1 hP 1 0 rfl rfl hi_2 dX6_isHeardFrom_5 ?_
  refine lv_topi (fun x_1 ex_1 => ?_)
  have hf := hf x_1 ex_1
  refine lv_ldc hx hb hown (hw _ kw_28_5) dX6_isHeardFrom_6 ?_
  refine lv_icmp_eq (tgt := 24) hx hb dX6_isHeardFrom_8 (by decide) (fun c_3 => ?_) (fun c_3 => ?_)
  · have hf := ip c_3 hf
    refine lv_iconst (v := 0) hx hb dX6_isHeardFrom_24 (by decide) ?_
    exact hRet _ _ _ _ _ hf hS (by decide +kernel) dX6_isHeardFrom_25
  · have hf := iq c_3 hf
    refine lv_aload_n hx hb dX6_isHeardFrom_11 rfl (lv_at hl 0 rfl) ?_
    refine lv_iload_n hx hb dX6_isHeardFrom_12 rfl (lv_at hl 1 rfl) ?_
    obtain ⟨r_4, hc_5, hf⟩ := bd1_in hf
    refine rcI (va_runV (As := [.int v1]) (rest := []) ⟨hx, hb, hml, hown, hw⟩ ((ctX6_lossFrom l G t_h t_a t_windows t_rest t_goal t_otherFrom t_otherTo t_least v1 _ hc_5) _) (kV hw calX6_lossFrom kw_30_20 rfl rfl ⟨Nat.le_of_ble_eq_true rfl, Nat.le_of_ble_eq_true rfl⟩) (rpV (hP.sub (ws' := [oX6 t_h t_a t_windows t_goal t_otherFrom t_otherTo t_least, arI G (t_a 3) 12 t_rest]) [0, 1] rfl) hK (ci := 6) (q0 := 0) rfl rfl) rfl rfl hl.1 rfl (lv_room (Nat.le_of_ble_eq_true rfl)) dX6_isHeardFrom_13 ⟨Nat.zero_le _, Nat.zero_le _⟩) hS hA hP (fun H locs hP hS => ?_)
    refine lv_iload_n hx hb dX6_isHeardFrom_16 rfl (lv_at hl 2 rfl) ?_
    refine lv_icmp_gt (tgt := 24) hx hb dX6_isHeardFrom_17 (by decide) (fun c_6 => ?_) (fun c_6 => ?_)
    · have hf := ip c_6 hf
      refine lv_iconst (v := 0) hx hb dX6_isHeardFrom_24 (by decide) ?_
      exact hRet _ _ _ _ _ hf hS (by decide +kernel) dX6_isHeardFrom_25
    · have hf := iq c_6 hf
      refine lv_iconst (v := 1) hx hb dX6_isHeardFrom_20 (by decide) ?_
      refine lv_goto (tgt := 25) hx hb dX6_isHeardFrom_21 (by decide) ?_
      exact hRet _ _ _ _ _ hf hS (by decide +kernel) dX6_isHeardFrom_25
theorem calX6_linksOf : CalV yX6_linksOf cX6_linksOf 4 (some .int) 1 := ⟨⟨kw_32_20, kw_2_0, by decide +kernel⟩, kw_32_18, kw_32_19⟩
set_option maxHeartbeats 8000000 in
set_option maxRecDepth 100000 in
theorem ctX6_linksOf (l : Launch) (G : GT) (t_h : Nat) (t_a : Nat → Nat) (t_windows : Int32) (t_links : Nat → Int32) (t_goal : Int32) (t_otherFrom : Int32) (t_otherTo : Int32) (t_least : Int32) (v1 : Int32) (r : Int32) (hf : fX6_linksOf t_windows t_links v1 = some r) : RdI l yX6_linksOf (Cond.code yX6_linksOf cX6_linksOf 4 (some .int)) { frames := 0, cells := 0, slots := 0, locals := 0 } G [.ref t_h, .int v1] [oX6 t_h t_a t_windows t_goal t_otherFrom t_otherTo t_least, arI G (t_a 1) 12 t_links] r := by
  intro sz
  refine Met.ofW (cc := cX6_linksOf) (maxL := 4) (ret := (some .int)) (by decide) rfl ?_
  intro p e s m args below meth c s₁ B hml hv
  obtain ⟨hargs, hsz, hP, hK⟩ := hv
  subst hsz
  obtain ⟨hx, hb, hr, hw, hown, hlk⟩ := fwB B
  refine fw_enter hargs (Nat.le_of_ble_eq_true rfl) (fun ls hl => ?_)
  have hl : lv_has ls 4 [(0, .ref t_h), (1, .int v1)] := hl
  refine fw_Q (P := fun Q => ∃ A : Nat → Prop, va_S A s.heap s.heap [] ∧ (∀ q, s.heap.size ≤ q → A q) ∧ ∀ (v : Int32) (H : Heap) (locs : List Loc) (pc : Nat) (ls : Array Slot), some v = some r → va_S A s.heap H locs → decode cX6_linksOf pc = .ok (.ireturn, 1) → W p l e ({ frames := 0, cells := 0, slots := 0, locals := 0 } : Room) s m args below meth c H locs 0 0 Q (F0 m pc ls [.int v])) ⟨fun q => s.heap.size ≤ q, va_S.rf, fun q h => h, fun v H locs pc ls h hS hd => retRI hx hb hr hlk hS h hd⟩ ?_
  rintro Q ⟨A, hS, hA, hRet⟩
  change W p l e ({ frames := 0, cells := 0, slots := 0, locals := 0 } : Room) s m args below meth c _ _ 0 0 Q _
  have L4 : ∀  (K : Int32 → Option Int32) (n : Nat) (l2 : Int32) (l3 : Int32) (H : Heap) (locs : List Loc) (ls : Array Slot), va_P G.1 vwCl [oX6 t_h t_a t_windows t_goal t_otherFrom t_otherTo t_least, arI G (t_a 1) 12 t_links] H → va_S A s.heap H locs → lv_has ls 4 [(0, .ref t_h), (1, .int v1), (2, .int l2), (3, .int l3)] → fX6_linksOf_4 v1 t_windows t_links K n l2 l3 = some r → (∀ (k2 : Int32) (H : Heap) (locs : List Loc) (ls : Array Slot), va_P G.1 vwCl [oX6 t_h t_a t_windows t_goal t_otherFrom t_otherTo t_least, arI G (t_a 1) 12 t_links] H → va_S A s.heap H locs → lv_has ls 4 [(2, .int k2)] → K k2 = some r → W p l e ({ frames := 0, cells := 0, slots := 0, locals := 0 } : Room) s m args below meth c H locs 0 0 Q (F0 m 35 ls [])) → W p l e ({ frames := 0, cells := 0, slots := 0, locals := 0 } : Room) s m args below meth c H locs 0 0 Q (F0 m 4 ls []) := by
    intro  K n
    induction n with
    | zero => intro l2 l3 H locs ls hP hS hl hf; rw [fX6_linksOf_4] at hf; cases hf
    | succ n ih =>
      intro l2 l3 H locs ls hP hS hl hf hX
      rw [fX6_linksOf_4] at hf
      refine lv_iload_n hx hb dX6_linksOf_4 rfl (lv_at hl 3 rfl) ?_
      refine lv_aload_n hx hb dX6_linksOf_5 rfl (lv_at hl 0 rfl) ?_
      refine va_get (D := G.1) (ci := 6) (v := .int t_windows) (C := RX6) (T := TX6) (N := 9) hx hb hw inW6 hown hK.1 hP 0 rfl rfl 0 (by decide) (hw _ kw_18_14) (fun _ h9 => h9) rfl dX6_linksOf_6 ?_
      refine lv_icmp_ge (tgt := 35) hx hb dX6_linksOf_9 (by decide) (fun c_1 => ?_) (fun c_1 => ?_)
      · have hf := ip c_1 hf
        exact hX _ _ _ _ hP hS (lv_sub hl [2] rfl) hf
      · have hf := iq c_1 hf
        refine lv_iload_n hx hb dX6_linksOf_12 rfl (lv_at hl 1 rfl) ?_
        refine lv_iload_n hx hb dX6_linksOf_13 rfl (lv_at hl 3 rfl) ?_
        refine lv_ishr hx hb dX6_linksOf_14 ?_
        refine lv_iconst (v := 1) hx hb dX6_linksOf_15 (by decide) ?_
        refine lv_iand hx hb dX6_linksOf_16 ?_
        refine lv_if_eq (tgt := 29) hx hb dX6_linksOf_17 (by decide) (fun c_2 => ?_) (fun c_2 => ?_)
        · have hf := ip c_2 hf
          refine lv_iinc (v := (l3 + 1)) (lv' := [(3, .int (l3 + 1)), (0, .ref t_h), (1, .int v1), (2, .int l2)]) hx hb dX6_linksOf_29 hl (k := 3) rfl (by rfl) (by decide) rfl (fun ls hl => ?_)
          refine lv_goto (tgt := 4) hx hb dX6_linksOf_32 (by decide) ?_
          exact ih _ _ _ _ _ hP hS (lv_sub hl [1, 2, 3, 0] rfl) hf hX
        · have hf := iq c_2 hf
          refine lv_iload_n hx hb dX6_linksOf_20 rfl (lv_at hl 2 rfl) ?_
          refine lv_aload_n hx hb dX6_linksOf_21 rfl (lv_at hl 0 rfl) ?_
          refine va_get (D := G.1) (ci := 6) (v := .ref (t_a 1)) (C := RX6) (T := TX6) (N := 9) hx hb hw inW6 hown hK.1 hP 0 rfl rfl 1 (by decide) (hw _ kw_4_7) (fun _ h9 => h9) rfl dX6_linksOf_22 ?_
          refine lv_iload_n hx hb dX6_linksOf_25 rfl (lv_at hl 3 rfl) ?_
          obtain ⟨hi_4, hf⟩ := rdI_in hf
          refine va_iald hx hb hK.1 hP 1 0 rfl rfl hi_4 dX6_linksOf_26 ?_
          refine lv_topi (fun x_3 ex_3 => ?_)
          have hf := hf x_3 ex_3
          refine lv_ior hx hb dX6_linksOf_27 ?_
          refine lv_topi (fun y_5 ey_5 => ?_)
          have hf := bnd_all hf y_5 ey_5
          refine lv_istore_n (lv' := [(2, .int y_5), (0, .ref t_h), (1, .int v1), (3, .int l3)]) hx hb dX6_linksOf_28 rfl hl (by decide) rfl (fun ls hl => ?_)
          refine lv_iinc (v := (l3 + 1)) (lv' := [(3, .int (l3 + 1)), (2, .int y_5), (0, .ref t_h), (1, .int v1)]) hx hb dX6_linksOf_29 hl (k := 3) rfl (by rfl) (by decide) rfl (fun ls hl => ?_)
          refine lv_goto (tgt := 4) hx hb dX6_linksOf_32 (by decide) ?_
          exact ih _ _ _ _ _ hP hS (lv_sub hl [2, 3, 1, 0] rfl) hf hX
  unfold fX6_linksOf at hf
  refine lv_iconst (v := 0) hx hb dX6_linksOf_0 (by decide) ?_
  refine lv_istore_n (lv' := [(2, .int 0), (0, .ref t_h), (1, .int v1)]) hx hb dX6_linksOf_1 rfl hl (by decide) rfl (fun ls hl => ?_)
  refine lv_iconst (v := 0) hx hb dX6_linksOf_2 (by decide) ?_
  refine lv_istore_n (lv' := [(3, .int 0), (2, .int 0), (0, .ref t_h), (1, .int v1)]) hx hb dX6_linksOf_3 rfl hl (by decide) rfl (fun ls hl => ?_)
  refine L4  _ _ _ _ _ _ _ hP hS (lv_sub hl [2, 3, 1, 0] rfl) hf (fun w_6 H locs ls hP hS hl hf => ?_)
  refine lv_iload_n hx hb dX6_linksOf_35 rfl (lv_at hl 0 rfl) ?_
  exact hRet _ _ _ _ _ hf hS dX6_linksOf_36
theorem calX6_reachOf : CalV yX6_reachOf cX6_reachOf 5 (some .int) 1 := ⟨⟨kw_32_16, kw_2_0, by decide +kernel⟩, kw_32_14, kw_32_15⟩
set_option maxHeartbeats 8000000 in
set_option maxRecDepth 100000 in
theorem ctX6_reachOf (l : Launch) (G : GT) (t_h : Nat) (t_a : Nat → Nat) (t_windows : Int32) (t_links : Nat → Int32) (t_goal : Int32) (t_otherFrom : Int32) (t_otherTo : Int32) (t_least : Int32) (v1 : Int32) (r : Int32) (hf : fX6_reachOf t_windows t_links v1 = some r) : RdI l yX6_reachOf (Cond.code yX6_reachOf cX6_reachOf 5 (some .int)) { frames := 1, cells := 0, slots := 0, locals := 23 } G [.ref t_h, .int v1] [oX6 t_h t_a t_windows t_goal t_otherFrom t_otherTo t_least, arI G (t_a 1) 12 t_links] r := by
  intro sz
  refine Met.ofW (cc := cX6_reachOf) (maxL := 5) (ret := (some .int)) (by decide) rfl ?_
  intro p e s m args below meth c s₁ B hml hv
  obtain ⟨hargs, hsz, hP, hK⟩ := hv
  subst hsz
  obtain ⟨hx, hb, hr, hw, hown, hlk⟩ := fwB B
  refine fw_enter hargs (Nat.le_of_ble_eq_true rfl) (fun ls hl => ?_)
  have hl : lv_has ls 5 [(0, .ref t_h), (1, .int v1)] := hl
  refine fw_Q (P := fun Q => ∃ A : Nat → Prop, va_S A s.heap s.heap [] ∧ (∀ q, s.heap.size ≤ q → A q) ∧ ∀ (v : Int32) (H : Heap) (locs : List Loc) (pc : Nat) (ls : Array Slot), some v = some r → va_S A s.heap H locs → decode cX6_reachOf pc = .ok (.ireturn, 1) → W p l e ({ frames := 1, cells := 0, slots := 0, locals := 23 } : Room) s m args below meth c H locs 0 0 Q (F0 m pc ls [.int v])) ⟨fun q => s.heap.size ≤ q, va_S.rf, fun q h => h, fun v H locs pc ls h hS hd => retRI hx hb hr hlk hS h hd⟩ ?_
  rintro Q ⟨A, hS, hA, hRet⟩
  change W p l e ({ frames := 1, cells := 0, slots := 0, locals := 23 } : Room) s m args below meth c _ _ 0 0 Q _
  have L9 : ∀  (K : Int32 → Option Int32) (n : Nat) (l2 : Int32) (l3 : Int32) (l4 : Int32) (H : Heap) (locs : List Loc) (ls : Array Slot), va_P G.1 vwCl [oX6 t_h t_a t_windows t_goal t_otherFrom t_otherTo t_least, arI G (t_a 1) 12 t_links] H → va_S A s.heap H locs → lv_has ls 5 [(0, .ref t_h), (2, .int l2), (3, .int l3), (4, .int l4)] → fX6_reachOf_9 t_windows t_links K n l2 l3 l4 = some r → (∀ (k2 : Int32) (H : Heap) (locs : List Loc) (ls : Array Slot), va_P G.1 vwCl [oX6 t_h t_a t_windows t_goal t_otherFrom t_otherTo t_least, arI G (t_a 1) 12 t_links] H → va_S A s.heap H locs → lv_has ls 5 [(2, .int k2)] → K k2 = some r → W p l e ({ frames := 1, cells := 0, slots := 0, locals := 23 } : Room) s m args below meth c H locs 0 0 Q (F0 m 42 ls [])) → W p l e ({ frames := 1, cells := 0, slots := 0, locals := 23 } : Room) s m args below meth c H locs 0 0 Q (F0 m 9 ls []) := by
    intro  K n
    induction n with
    | zero => intro l2 l3 l4 H locs ls hP hS hl hf; rw [fX6_reachOf_9] at hf; cases hf
    | succ n ih =>
      intro l2 l3 l4 H locs ls hP hS hl hf hX
      rw [fX6_reachOf_9] at hf
      refine lv_iload hx hb dX6_reachOf_9 (lv_at hl 3 rfl) ?_
      refine lv_aload_n hx hb dX6_reachOf_11 rfl (lv_at hl 0 rfl) ?_
      refine va_get (D := G.1) (ci := 6) (v := .int t_windows) (C := RX6) (T := TX6) (N := 9) hx hb hw inW6 hown hK.1 hP 0 rfl rfl 0 (by decide) (hw _ kw_18_14) (fun _ h9 => h9) rfl dX6_reachOf_12 ?_
      refine lv_icmp_ge (tgt := 42) hx hb dX6_reachOf_15 (by decide) (fun c_2 => ?_) (fun c_2 => ?_)
      · have hf := ip c_2 hf
        exact hX _ _ _ _ hP hS (lv_sub hl [1] rfl) hf
      · have hf := iq c_2 hf
        refine lv_iload_n hx hb dX6_reachOf_18 rfl (lv_at hl 2 rfl) ?_
        refine lv_if_eq (tgt := 42) hx hb dX6_reachOf_19 (by decide) (fun c_3 => ?_) (fun c_3 => ?_)
        · have hf := ip c_3 hf
          exact hX _ _ _ _ hP hS (lv_sub hl [1] rfl) hf
        · have hf := iq c_3 hf
          refine lv_aload_n hx hb dX6_reachOf_22 rfl (lv_at hl 0 rfl) ?_
          refine lv_iload_n hx hb dX6_reachOf_23 rfl (lv_at hl 2 rfl) ?_
          obtain ⟨r_4, hc_5, hf⟩ := bd1_in hf
          refine rcI (va_runV (As := [.int l3]) (rest := []) ⟨hx, hb, hml, hown, hw⟩ ((ctX6_linksOf l G t_h t_a t_windows t_links t_goal t_otherFrom t_otherTo t_least l3 _ hc_5) _) (kV hw calX6_linksOf kw_32_17 rfl rfl ⟨Nat.le_of_ble_eq_true rfl, Nat.le_of_ble_eq_true rfl⟩) (rpV (hP.sub (ws' := [oX6 t_h t_a t_windows t_goal t_otherFrom t_otherTo t_least, arI G (t_a 1) 12 t_links]) [0, 1] rfl) hK (ci := 6) (q0 := 0) rfl rfl) rfl rfl hl.1 rfl (lv_room (Nat.le_of_ble_eq_true rfl)) dX6_reachOf_24 ⟨Nat.zero_le _, Nat.zero_le _⟩) hS hA hP (fun H locs hP hS => ?_)
          refine lv_iload_n hx hb dX6_reachOf_27 rfl (lv_at hl 1 rfl) ?_
          refine lv_iconst (v := (-1)) hx hb dX6_reachOf_28 (by decide) ?_
          refine lv_ixor hx hb dX6_reachOf_29 ?_
          refine lv_iand hx hb dX6_reachOf_30 ?_
          refine lv_topi (fun y_6 ey_6 => ?_)
          have hf := bnd_all hf y_6 ey_6
          refine lv_istore_n (lv' := [(3, .int y_6), (0, .ref t_h), (2, .int l2), (4, .int l4)]) hx hb dX6_reachOf_31 rfl hl (by decide) rfl (fun ls hl => ?_)
          refine lv_iload_n hx hb dX6_reachOf_32 rfl (lv_at hl 2 rfl) ?_
          refine lv_iload_n hx hb dX6_reachOf_33 rfl (lv_at hl 0 rfl) ?_
          refine lv_ior hx hb dX6_reachOf_34 ?_
          refine lv_topi (fun y_7 ey_7 => ?_)
          have hf := bnd_all hf y_7 ey_7
          refine lv_istore_n (lv' := [(2, .int y_7), (3, .int y_6), (0, .ref t_h), (4, .int l4)]) hx hb dX6_reachOf_35 rfl hl (by decide) rfl (fun ls hl => ?_)
          refine lv_iinc (v := (l4 + 1)) (lv' := [(4, .int (l4 + 1)), (2, .int y_7), (3, .int y_6), (0, .ref t_h)]) hx hb dX6_reachOf_36 hl (k := 3) rfl (by rfl) (by decide) rfl (fun ls hl => ?_)
          refine lv_goto (tgt := 9) hx hb dX6_reachOf_39 (by decide) ?_
          exact ih _ _ _ _ _ _ hP hS (lv_sub hl [3, 1, 2, 0] rfl) hf hX
  unfold fX6_reachOf at hf
  refine lv_iconst (v := 1) hx hb dX6_reachOf_0 (by decide) ?_
  refine lv_iload_n hx hb dX6_reachOf_1 rfl (lv_at hl 1 rfl) ?_
  refine lv_ishl hx hb dX6_reachOf_2 ?_
  refine lv_topi (fun y_1 ey_1 => ?_)
  have hf := bnd_all hf y_1 ey_1
  refine lv_istore_n (lv' := [(2, .int y_1), (0, .ref t_h), (1, .int v1)]) hx hb dX6_reachOf_3 rfl hl (by decide) rfl (fun ls hl => ?_)
  refine lv_iload_n hx hb dX6_reachOf_4 rfl (lv_at hl 0 rfl) ?_
  refine lv_istore_n (lv' := [(3, .int y_1), (2, .int y_1), (0, .ref t_h), (1, .int v1)]) hx hb dX6_reachOf_5 rfl hl (by decide) rfl (fun ls hl => ?_)
  refine lv_iconst (v := 0) hx hb dX6_reachOf_6 (by decide) ?_
  refine lv_istore (lv' := [(4, .int 0), (3, .int y_1), (2, .int y_1), (0, .ref t_h), (1, .int v1)]) hx hb dX6_reachOf_7 hl (by decide) rfl (fun ls hl => ?_)
  refine L9  _ _ _ _ _ _ _ _ hP hS (lv_sub hl [3, 2, 1, 0] rfl) hf (fun w_8 H locs ls hP hS hl hf => ?_)
  refine lv_iload_n hx hb dX6_reachOf_42 rfl (lv_at hl 0 rfl) ?_
  exact hRet _ _ _ _ _ hf hS dX6_reachOf_43
theorem calX6_sever : CalV yX6_sever cX6_sever 3 none 2 := ⟨⟨kw_34_8, kw_2_0, by decide +kernel⟩, kw_34_6, kw_34_7⟩
set_option maxHeartbeats 8000000 in
set_option maxRecDepth 100000 in
theorem ctX6_sever (l : Launch) (G : GT) (t_h : Nat) (t_a : Nat → Nat) (t_windows : Int32) (t_links : Nat → Int32) (t_goal : Int32) (t_otherFrom : Int32) (t_otherTo : Int32) (t_least : Int32) (v1 : Int32) (v2 : Int32) (o_t_links : Nat → Int32) (hf : fX6_sever t_links v1 v2 = some o_t_links) : WrV l yX6_sever (Cond.code yX6_sever cX6_sever 3 none) { frames := 0, cells := 0, slots := 0, locals := 0 } G [.ref t_h, .int v1, .int v2] [oX6 t_h t_a t_windows t_goal t_otherFrom t_otherTo t_least, arI G (t_a 1) 12 t_links] [oX6 t_h t_a t_windows t_goal t_otherFrom t_otherTo t_least, arI G (t_a 1) 12 o_t_links] := by
  intro sz
  refine Met.ofW (cc := cX6_sever) (maxL := 3) (ret := none) (by decide) rfl ?_
  intro p e s m args below meth c s₁ B hml hv
  obtain ⟨hargs, hsz, hP, hD0, hK⟩ := hv
  subst hsz
  obtain ⟨hx, hb, hr, hw, hown, hlk⟩ := fwB B
  refine fw_enter hargs (Nat.le_of_ble_eq_true rfl) (fun ls hl => ?_)
  have hl : lv_has ls 3 [(0, .ref t_h), (1, .int v1), (2, .int v2)] := hl
  refine fw_Q (P := fun Q => ∃ A : Nat → Prop, va_D A [oX6 t_h t_a t_windows t_goal t_otherFrom t_otherTo t_least, arI G (t_a 1) 12 t_links] ∧ va_S A s.heap s.heap [] ∧ (∀ q, s.heap.size ≤ q → A q) ∧ ∀ (n_t_links : Nat → Int32) (H : Heap) (locs : List Loc) (pc : Nat) (ls : Array Slot), some n_t_links = some o_t_links → va_P G.1 vwCl [oX6 t_h t_a t_windows t_goal t_otherFrom t_otherTo t_least, arI G (t_a 1) 12 n_t_links] H → va_S A s.heap H locs → decode cX6_sever pc = .ok (.return_, 1) → W p l e ({ frames := 0, cells := 0, slots := 0, locals := 0 } : Room) s m args below meth c H locs 0 0 Q (F0 m pc ls [])) ⟨va_A [oX6 t_h t_a t_windows t_goal t_otherFrom t_otherTo t_least, arI G (t_a 1) 12 t_links] s.heap.size, hD0.self (sz := s.heap.size), va_S.rf, fun q h => Or.inr h, ?_⟩ ?_
  · intro n_t_links H locs pc ls h hP hS hd
    cases h
    exact retWV hx hb hr hlk hS hP hd
  rintro Q ⟨A, hD, hS, hA, hRet⟩
  change W p l e ({ frames := 0, cells := 0, slots := 0, locals := 0 } : Room) s m args below meth c _ _ 0 0 Q _
  unfold fX6_sever at hf
  refine lv_aload_n hx hb dX6_sever_0 rfl (lv_at hl 0 rfl) ?_
  refine va_get (D := G.1) (ci := 6) (v := .ref (t_a 1)) (C := RX6) (T := TX6) (N := 9) hx hb hw inW6 hown hK.1 hP 0 rfl rfl 1 (by decide) (hw _ kw_4_7) (fun _ h9 => h9) rfl dX6_sever_1 ?_
  refine lv_iload_n hx hb dX6_sever_4 rfl (lv_at hl 1 rfl) ?_
  refine lv_dup2_11 hx hb dX6_sever_5 rfl rfl ?_
  obtain ⟨hi_2, hf⟩ := rdI_in hf
  refine va_iald hx hb hK.1 hP 1 0 rfl rfl hi_2 dX6_sever_6 ?_
  refine lv_topi (fun x_1 ex_1 => ?_)
  have hf := hf x_1 ex_1
  refine lv_iconst (v := 1) hx hb dX6_sever_7 (by decide) ?_
  refine lv_iload_n hx hb dX6_sever_8 rfl (lv_at hl 2 rfl) ?_
  refine lv_ishl hx hb dX6_sever_9 ?_
  refine lv_iconst (v := (-1)) hx hb dX6_sever_10 (by decide) ?_
  refine lv_ixor hx hb dX6_sever_11 ?_
  refine lv_iand hx hb dX6_sever_12 ?_
  obtain ⟨hi_4, hf⟩ := wrI_in hf
  refine xiast hx hb hK.1 hP hD hS 1 0 rfl rfl hi_4 dX6_sever_13 (fun t_links_3 H locs et_links_3 hP hD hS => ?_)
  have hf := hf t_links_3 et_links_3
  have hP : va_P G.1 vwCl [oX6 t_h t_a t_windows t_goal t_otherFrom t_otherTo t_least, arI G (t_a 1) 12 t_links_3] H := hP
  have hD : va_D A [oX6 t_h t_a t_windows t_goal t_otherFrom t_otherTo t_least, arI G (t_a 1) 12 t_links_3] := hD
  refine lv_aload_n hx hb dX6_sever_14 rfl (lv_at hl 0 rfl) ?_
  refine va_get (D := G.1) (ci := 6) (v := .ref (t_a 1)) (C := RX6) (T := TX6) (N := 9) hx hb hw inW6 hown hK.1 hP 0 rfl rfl 1 (by decide) (hw _ kw_4_7) (fun _ h9 => h9) rfl dX6_sever_15 ?_
  refine lv_iload_n hx hb dX6_sever_18 rfl (lv_at hl 2 rfl) ?_
  refine lv_dup2_11 hx hb dX6_sever_19 rfl rfl ?_
  obtain ⟨hi_6, hf⟩ := rdI_in hf
  refine va_iald hx hb hK.1 hP 1 0 rfl rfl hi_6 dX6_sever_20 ?_
  refine lv_topi (fun x_5 ex_5 => ?_)
  have hf := hf x_5 ex_5
  refine lv_iconst (v := 1) hx hb dX6_sever_21 (by decide) ?_
  refine lv_iload_n hx hb dX6_sever_22 rfl (lv_at hl 1 rfl) ?_
  refine lv_ishl hx hb dX6_sever_23 ?_
  refine lv_iconst (v := (-1)) hx hb dX6_sever_24 (by decide) ?_
  refine lv_ixor hx hb dX6_sever_25 ?_
  refine lv_iand hx hb dX6_sever_26 ?_
  obtain ⟨hi_8, hf⟩ := wrI_in hf
  refine xiast hx hb hK.1 hP hD hS 1 0 rfl rfl hi_8 dX6_sever_27 (fun t_links_7 H locs et_links_7 hP hD hS => ?_)
  have hf := hf t_links_7 et_links_7
  have hP : va_P G.1 vwCl [oX6 t_h t_a t_windows t_goal t_otherFrom t_otherTo t_least, arI G (t_a 1) 12 t_links_7] H := hP
  have hD : va_D A [oX6 t_h t_a t_windows t_goal t_otherFrom t_otherTo t_least, arI G (t_a 1) 12 t_links_7] := hD
  exact hRet _ _ _ _ _ hf hP hS dX6_sever_28
theorem calX6_isStay : CalV yX6_isStay cX6_isStay 4 (some .boolean) 2 := ⟨⟨kw_34_4, kw_2_0, by decide +kernel⟩, kw_34_2, kw_34_3⟩
set_option maxHeartbeats 8000000 in
set_option maxRecDepth 100000 in
theorem ctX6_isStay (l : Launch) (G : GT) (t_h : Nat) (t_a : Nat → Nat) (t_windows : Int32) (t_links : Nat → Int32) (t_goal : Int32) (t_otherFrom : Int32) (t_otherTo : Int32) (t_least : Int32) (v1 : Int32) (v2 : Int32) (r : Int32) (o_t_links : Nat → Int32) (hf : fX6_isStay t_windows t_links v1 v2 = some (r, o_t_links)) : WrI l yX6_isStay (Cond.code yX6_isStay cX6_isStay 4 (some .boolean)) { frames := 2, cells := 0, slots := 0, locals := 47 } G [.ref t_h, .int v1, .int v2] [oX6 t_h t_a t_windows t_goal t_otherFrom t_otherTo t_least, arI G (t_a 1) 12 t_links] [oX6 t_h t_a t_windows t_goal t_otherFrom t_otherTo t_least, arI G (t_a 1) 12 o_t_links] r := by
  intro sz
  refine Met.ofW (cc := cX6_isStay) (maxL := 4) (ret := (some .boolean)) (by decide) rfl ?_
  intro p e s m args below meth c s₁ B hml hv
  obtain ⟨hargs, hsz, hP, hD0, hK⟩ := hv
  subst hsz
  obtain ⟨hx, hb, hr, hw, hown, hlk⟩ := fwB B
  refine fw_enter hargs (Nat.le_of_ble_eq_true rfl) (fun ls hl => ?_)
  have hl : lv_has ls 4 [(0, .ref t_h), (1, .int v1), (2, .int v2)] := hl
  refine fw_Q (P := fun Q => ∃ A : Nat → Prop, va_D A [oX6 t_h t_a t_windows t_goal t_otherFrom t_otherTo t_least, arI G (t_a 1) 12 t_links] ∧ va_S A s.heap s.heap [] ∧ (∀ q, s.heap.size ≤ q → A q) ∧ ∀ (v : Int32) (n_t_links : Nat → Int32) (H : Heap) (locs : List Loc) (pc : Nat) (ls : Array Slot), some (v, n_t_links) = some (r, o_t_links) → va_P G.1 vwCl [oX6 t_h t_a t_windows t_goal t_otherFrom t_otherTo t_least, arI G (t_a 1) 12 n_t_links] H → va_S A s.heap H locs → narrow .boolean (.int v) = .int v → decode cX6_isStay pc = .ok (.ireturn, 1) → W p l e ({ frames := 2, cells := 0, slots := 0, locals := 47 } : Room) s m args below meth c H locs 0 0 Q (F0 m pc ls [.int v])) ⟨va_A [oX6 t_h t_a t_windows t_goal t_otherFrom t_otherTo t_least, arI G (t_a 1) 12 t_links] s.heap.size, hD0.self (sz := s.heap.size), va_S.rf, fun q h => Or.inr h, ?_⟩ ?_
  · intro v n_t_links H locs pc ls h hP hS hn hd
    cases h
    exact retWZ hx hb hr hlk hS hP hn rfl hd
  rintro Q ⟨A, hD, hS, hA, hRet⟩
  change W p l e ({ frames := 2, cells := 0, slots := 0, locals := 47 } : Room) s m args below meth c _ _ 0 0 Q _
  unfold fX6_isStay at hf
  refine lv_aload_n hx hb dX6_isStay_0 rfl (lv_at hl 0 rfl) ?_
  refine lv_iload_n hx hb dX6_isStay_1 rfl (lv_at hl 1 rfl) ?_
  refine lv_iload_n hx hb dX6_isStay_2 rfl (lv_at hl 2 rfl) ?_
  obtain ⟨r_1, hc_2, hf⟩ := bd1_in hf
  refine rcI (va_runV (As := [.int v1, .int v2]) (rest := []) ⟨hx, hb, hml, hown, hw⟩ ((ctX6_areLinked l G t_h t_a t_windows t_links t_goal t_otherFrom t_otherTo t_least v1 v2 _ hc_2) _) (kV hw calX6_areLinked kw_29_12 rfl rfl ⟨Nat.le_of_ble_eq_true rfl, Nat.le_of_ble_eq_true rfl⟩) (rpV (hP.sub (ws' := [oX6 t_h t_a t_windows t_goal t_otherFrom t_otherTo t_least, arI G (t_a 1) 12 t_links]) [0, 1] rfl) hK (ci := 6) (q0 := 0) rfl rfl) rfl rfl hl.1 rfl (lv_room (Nat.le_of_ble_eq_true rfl)) dX6_isStay_3 ⟨Nat.zero_le _, Nat.zero_le _⟩) hS hA hP (fun H locs hP hS => ?_)
  refine lv_if_ne (tgt := 11) hx hb dX6_isStay_6 (by decide) (fun c_3 => ?_) (fun c_3 => ?_)
  · have hf := iq c_3 hf
    refine lv_aload_n hx hb dX6_isStay_11 rfl (lv_at hl 0 rfl) ?_
    refine lv_iload_n hx hb dX6_isStay_12 rfl (lv_at hl 1 rfl) ?_
    refine lv_iload_n hx hb dX6_isStay_13 rfl (lv_at hl 2 rfl) ?_
    obtain ⟨t_links_4, hc_5, hf⟩ := bd1_in hf
    refine wcV (w1 := [oX6 t_h t_a t_windows t_goal t_otherFrom t_otherTo t_least, arI G (t_a 1) 12 t_links_4]) (va_runV (As := [.int v1, .int v2]) (rest := []) ⟨hx, hb, hml, hown, hw⟩ ((ctX6_sever l G t_h t_a t_windows t_links t_goal t_otherFrom t_otherTo t_least v1 v2 _ hc_5) _) (kV hw calX6_sever kw_34_5 rfl rfl ⟨Nat.le_of_ble_eq_true rfl, Nat.le_of_ble_eq_true rfl⟩) (wpV (hP.sub (ws' := [oX6 t_h t_a t_windows t_goal t_otherFrom t_otherTo t_least, arI G (t_a 1) 12 t_links]) [0, 1] rfl) (hD.sub (ws' := [oX6 t_h t_a t_windows t_goal t_otherFrom t_otherTo t_least, arI G (t_a 1) 12 t_links]) [0, 1] (by decide) rfl) hK (ci := 6) (q0 := 0) rfl rfl) rfl rfl hl.1 rfl (lv_room (Nat.le_of_ble_eq_true rfl)) dX6_isStay_14 ⟨Nat.zero_le _, Nat.zero_le _⟩) hS hA hP hD [0, 1] rfl rfl (fun H locs hP hD hS => ?_)
    have hP : va_P G.1 vwCl [oX6 t_h t_a t_windows t_goal t_otherFrom t_otherTo t_least, arI G (t_a 1) 12 t_links_4] H := hP
    have hD : va_D A [oX6 t_h t_a t_windows t_goal t_otherFrom t_otherTo t_least, arI G (t_a 1) 12 t_links_4] := hD
    refine lv_aload_n hx hb dX6_isStay_17 rfl (lv_at hl 0 rfl) ?_
    refine lv_iload_n hx hb dX6_isStay_18 rfl (lv_at hl 1 rfl) ?_
    obtain ⟨r_6, hc_7, hf⟩ := bd1_in hf
    refine rcI (va_runV (As := [.int v1]) (rest := []) ⟨hx, hb, hml, hown, hw⟩ ((ctX6_reachOf l G t_h t_a t_windows t_links_4 t_goal t_otherFrom t_otherTo t_least v1 _ hc_7) _) (kV hw calX6_reachOf kw_34_9 rfl rfl ⟨Nat.le_of_ble_eq_true rfl, Nat.le_of_ble_eq_true rfl⟩) (rpV (hP.sub (ws' := [oX6 t_h t_a t_windows t_goal t_otherFrom t_otherTo t_least, arI G (t_a 1) 12 t_links_4]) [0, 1] rfl) hK (ci := 6) (q0 := 0) rfl rfl) rfl rfl hl.1 rfl (lv_room (Nat.le_of_ble_eq_true rfl)) dX6_isStay_19 ⟨Nat.zero_le _, Nat.zero_le _⟩) hS hA hP (fun H locs hP hS => ?_)
    refine lv_iload_n hx hb dX6_isStay_22 rfl (lv_at hl 2 rfl) ?_
    refine lv_ishr hx hb dX6_isStay_23 ?_
    refine lv_iconst (v := 1) hx hb dX6_isStay_24 (by decide) ?_
    refine lv_iand hx hb dX6_isStay_25 ?_
    refine jn_el hf (fun k_9 ek_9 hf => ?_)
    have J34 : ∀ (z_8 : Int32) (H : Heap) (locs : List Loc) (ls : Array Slot), va_P G.1 vwCl [oX6 t_h t_a t_windows t_goal t_otherFrom t_otherTo t_least, arI G (t_a 1) 12 t_links_4] H → va_D A [oX6 t_h t_a t_windows t_goal t_otherFrom t_otherTo t_least, arI G (t_a 1) 12 t_links_4] → va_S A s.heap H locs → lv_has ls 4 [(0, .ref t_h), (1, .int v1), (2, .int v2)] → k_9 z_8 = some (r, o_t_links) → W p l e ({ frames := 2, cells := 0, slots := 0, locals := 47 } : Room) s m args below meth c H locs 0 0 Q (F0 m 34 ls [.int z_8]) := by
      intro z_8 H locs ls hP hD hS hl hf
      rw [ek_9] at hf
      refine lv_istore_n (lv' := [(3, .int z_8), (0, .ref t_h), (1, .int v1), (2, .int v2)]) hx hb dX6_isStay_34 rfl hl (by decide) rfl (fun ls hl => ?_)
      refine lv_aload_n hx hb dX6_isStay_35 rfl (lv_at hl 1 rfl) ?_
      refine lv_iload_n hx hb dX6_isStay_36 rfl (lv_at hl 2 rfl) ?_
      refine lv_iload_n hx hb dX6_isStay_37 rfl (lv_at hl 3 rfl) ?_
      obtain ⟨t_links_10, hc_11, hf⟩ := bd1_in hf
      refine wcV (w1 := [oX6 t_h t_a t_windows t_goal t_otherFrom t_otherTo t_least, arI G (t_a 1) 12 t_links_10]) (va_runV (As := [.int v1, .int v2]) (rest := []) ⟨hx, hb, hml, hown, hw⟩ ((ctX6_join l G t_h t_a t_windows t_links_4 t_goal t_otherFrom t_otherTo t_least v1 v2 _ hc_11) _) (kV hw calX6_join kw_18_20 rfl rfl ⟨Nat.le_of_ble_eq_true rfl, Nat.le_of_ble_eq_true rfl⟩) (wpV (hP.sub (ws' := [oX6 t_h t_a t_windows t_goal t_otherFrom t_otherTo t_least, arI G (t_a 1) 12 t_links_4]) [0, 1] rfl) (hD.sub (ws' := [oX6 t_h t_a t_windows t_goal t_otherFrom t_otherTo t_least, arI G (t_a 1) 12 t_links_4]) [0, 1] (by decide) rfl) hK (ci := 6) (q0 := 0) rfl rfl) rfl rfl hl.1 rfl (lv_room (Nat.le_of_ble_eq_true rfl)) dX6_isStay_38 ⟨Nat.zero_le _, Nat.zero_le _⟩) hS hA hP hD [0, 1] rfl rfl (fun H locs hP hD hS => ?_)
      have hP : va_P G.1 vwCl [oX6 t_h t_a t_windows t_goal t_otherFrom t_otherTo t_least, arI G (t_a 1) 12 t_links_10] H := hP
      have hD : va_D A [oX6 t_h t_a t_windows t_goal t_otherFrom t_otherTo t_least, arI G (t_a 1) 12 t_links_10] := hD
      refine lv_iload_n hx hb dX6_isStay_41 rfl (lv_at hl 0 rfl) ?_
      obtain ⟨hzn, hf⟩ := bzI_in hf
      exact hRet _ _ _ _ _ _ hf hP hS hzn dX6_isStay_42
    refine lv_if_ne (tgt := 33) hx hb dX6_isStay_26 (by decide) (fun c_12 => ?_) (fun c_12 => ?_)
    · have hf := iq c_12 hf
      refine lv_iconst (v := 0) hx hb dX6_isStay_33 (by decide) ?_
      exact J34 _ _ _ _ hP hD hS (lv_sub hl [0, 1, 2] rfl) hf
    · have hf := ip c_12 hf
      refine lv_iconst (v := 1) hx hb dX6_isStay_29 (by decide) ?_
      refine lv_goto (tgt := 34) hx hb dX6_isStay_30 (by decide) ?_
      exact J34 _ _ _ _ hP hD hS (lv_sub hl [0, 1, 2] rfl) hf
  · have hf := ip c_3 hf
    refine lv_iconst (v := 0) hx hb dX6_isStay_9 (by decide) ?_
    exact hRet _ _ _ _ _ _ hf hP hS (by decide +kernel) dX6_isStay_10
theorem calX6_stays : CalV yX6_stays cX6_stays 4 (some .int) 0 := ⟨⟨kw_34_0, kw_2_0, by decide +kernel⟩, kw_33_22, kw_33_23⟩
set_option maxHeartbeats 8000000 in
set_option maxRecDepth 100000 in
theorem ctX6_stays (l : Launch) (G : GT) (t_h : Nat) (t_a : Nat → Nat) (t_windows : Int32) (t_links : Nat → Int32) (t_goal : Int32) (t_otherFrom : Int32) (t_otherTo : Int32) (t_least : Int32) (r : Int32) (o_t_links : Nat → Int32) (hf : fX6_stays t_windows t_links = some (r, o_t_links)) : WrI l yX6_stays (Cond.code yX6_stays cX6_stays 4 (some .int)) { frames := 3, cells := 0, slots := 0, locals := 70 } G [.ref t_h] [oX6 t_h t_a t_windows t_goal t_otherFrom t_otherTo t_least, arI G (t_a 1) 12 t_links] [oX6 t_h t_a t_windows t_goal t_otherFrom t_otherTo t_least, arI G (t_a 1) 12 o_t_links] r := by
  intro sz
  refine Met.ofW (cc := cX6_stays) (maxL := 4) (ret := (some .int)) (by decide) rfl ?_
  intro p e s m args below meth c s₁ B hml hv
  obtain ⟨hargs, hsz, hP, hD0, hK⟩ := hv
  subst hsz
  obtain ⟨hx, hb, hr, hw, hown, hlk⟩ := fwB B
  refine fw_enter hargs (Nat.le_of_ble_eq_true rfl) (fun ls hl => ?_)
  have hl : lv_has ls 4 [(0, .ref t_h)] := hl
  refine fw_Q (P := fun Q => ∃ A : Nat → Prop, va_D A [oX6 t_h t_a t_windows t_goal t_otherFrom t_otherTo t_least, arI G (t_a 1) 12 t_links] ∧ va_S A s.heap s.heap [] ∧ (∀ q, s.heap.size ≤ q → A q) ∧ ∀ (v : Int32) (n_t_links : Nat → Int32) (H : Heap) (locs : List Loc) (pc : Nat) (ls : Array Slot), some (v, n_t_links) = some (r, o_t_links) → va_P G.1 vwCl [oX6 t_h t_a t_windows t_goal t_otherFrom t_otherTo t_least, arI G (t_a 1) 12 n_t_links] H → va_S A s.heap H locs → decode cX6_stays pc = .ok (.ireturn, 1) → W p l e ({ frames := 3, cells := 0, slots := 0, locals := 70 } : Room) s m args below meth c H locs 0 0 Q (F0 m pc ls [.int v])) ⟨va_A [oX6 t_h t_a t_windows t_goal t_otherFrom t_otherTo t_least, arI G (t_a 1) 12 t_links] s.heap.size, hD0.self (sz := s.heap.size), va_S.rf, fun q h => Or.inr h, ?_⟩ ?_
  · intro v n_t_links H locs pc ls h hP hS hd
    cases h
    exact retWI hx hb hr hlk hS hP rfl hd
  rintro Q ⟨A, hD, hS, hA, hRet⟩
  change W p l e ({ frames := 3, cells := 0, slots := 0, locals := 70 } : Room) s m args below meth c _ _ 0 0 Q _
  have L16 : ∀ (l2 : Int32) (K : Int32 → (Nat → Int32) → Option (Int32 × (Nat → Int32))) (n : Nat) (l1 : Int32) (l3 : Int32) (t_links : Nat → Int32) (H : Heap) (locs : List Loc) (ls : Array Slot), va_P G.1 vwCl [oX6 t_h t_a t_windows t_goal t_otherFrom t_otherTo t_least, arI G (t_a 1) 12 t_links] H → va_D A [oX6 t_h t_a t_windows t_goal t_otherFrom t_otherTo t_least, arI G (t_a 1) 12 t_links] → va_S A s.heap H locs → lv_has ls 4 [(0, .ref t_h), (1, .int l1), (2, .int l2), (3, .int l3)] → fX6_stays_16 l2 t_windows K n l1 l3 t_links = some (r, o_t_links) → (∀ (k1 : Int32) (kt_links : Nat → Int32) (H : Heap) (locs : List Loc) (ls : Array Slot), va_P G.1 vwCl [oX6 t_h t_a t_windows t_goal t_otherFrom t_otherTo t_least, arI G (t_a 1) 12 kt_links] H → va_D A [oX6 t_h t_a t_windows t_goal t_otherFrom t_otherTo t_least, arI G (t_a 1) 12 kt_links] → va_S A s.heap H locs → lv_has ls 4 [(0, .ref t_h), (1, .int k1), (2, .int l2)] → K k1 kt_links = some (r, o_t_links) → W p l e ({ frames := 3, cells := 0, slots := 0, locals := 70 } : Room) s m args below meth c H locs 0 0 Q (F0 m 42 ls [])) → W p l e ({ frames := 3, cells := 0, slots := 0, locals := 70 } : Room) s m args below meth c H locs 0 0 Q (F0 m 16 ls []) := by
    intro l2 K n
    induction n with
    | zero => intro l1 l3 t_links H locs ls hP hD hS hl hf; rw [fX6_stays_16] at hf; cases hf
    | succ n ih =>
      intro l1 l3 t_links H locs ls hP hD hS hl hf hX
      rw [fX6_stays_16] at hf
      refine lv_iload_n hx hb dX6_stays_16 rfl (lv_at hl 3 rfl) ?_
      refine lv_aload_n hx hb dX6_stays_17 rfl (lv_at hl 0 rfl) ?_
      refine va_get (D := G.1) (ci := 6) (v := .int t_windows) (C := RX6) (T := TX6) (N := 9) hx hb hw inW6 hown hK.1 hP 0 rfl rfl 0 (by decide) (hw _ kw_18_14) (fun _ h9 => h9) rfl dX6_stays_18 ?_
      refine lv_icmp_ge (tgt := 42) hx hb dX6_stays_21 (by decide) (fun c_3 => ?_) (fun c_3 => ?_)
      · have hf := ip c_3 hf
        exact hX _ _ _ _ _ hP hD hS (lv_sub hl [0, 1, 2] rfl) hf
      · have hf := iq c_3 hf
        refine lv_aload_n hx hb dX6_stays_24 rfl (lv_at hl 0 rfl) ?_
        refine lv_iload_n hx hb dX6_stays_25 rfl (lv_at hl 2 rfl) ?_
        refine lv_iload_n hx hb dX6_stays_26 rfl (lv_at hl 3 rfl) ?_
        obtain ⟨r_5, t_links_4, hc_6, hf⟩ := bd2_in hf
        refine wcI (w1 := [oX6 t_h t_a t_windows t_goal t_otherFrom t_otherTo t_least, arI G (t_a 1) 12 t_links_4]) (va_runV (As := [.int l2, .int l3]) (rest := []) ⟨hx, hb, hml, hown, hw⟩ ((ctX6_isStay l G t_h t_a t_windows t_links t_goal t_otherFrom t_otherTo t_least l2 l3 _ _ hc_6) _) (kV hw calX6_isStay kw_34_1 rfl rfl ⟨Nat.le_of_ble_eq_true rfl, Nat.le_of_ble_eq_true rfl⟩) (wpV (hP.sub (ws' := [oX6 t_h t_a t_windows t_goal t_otherFrom t_otherTo t_least, arI G (t_a 1) 12 t_links]) [0, 1] rfl) (hD.sub (ws' := [oX6 t_h t_a t_windows t_goal t_otherFrom t_otherTo t_least, arI G (t_a 1) 12 t_links]) [0, 1] (by decide) rfl) hK (ci := 6) (q0 := 0) rfl rfl) rfl rfl hl.1 rfl (lv_room (Nat.le_of_ble_eq_true rfl)) dX6_stays_27 ⟨Nat.zero_le _, Nat.zero_le _⟩) hS hA hP hD [0, 1] rfl rfl (fun H locs hP hD hS => ?_)
        have hP : va_P G.1 vwCl [oX6 t_h t_a t_windows t_goal t_otherFrom t_otherTo t_least, arI G (t_a 1) 12 t_links_4] H := hP
        have hD : va_D A [oX6 t_h t_a t_windows t_goal t_otherFrom t_otherTo t_least, arI G (t_a 1) 12 t_links_4] := hD
        refine lv_if_eq (tgt := 36) hx hb dX6_stays_30 (by decide) (fun c_7 => ?_) (fun c_7 => ?_)
        · have hf := ip c_7 hf
          refine lv_iinc (v := (l3 + 1)) (lv' := [(3, .int (l3 + 1)), (0, .ref t_h), (1, .int l1), (2, .int l2)]) hx hb dX6_stays_36 hl (k := 3) rfl (by rfl) (by decide) rfl (fun ls hl => ?_)
          refine lv_goto (tgt := 16) hx hb dX6_stays_39 (by decide) ?_
          exact ih _ _ _ _ _ _ hP hD hS (lv_sub hl [1, 2, 3, 0] rfl) hf hX
        · have hf := iq c_7 hf
          refine lv_iinc (v := (l1 + 1)) (lv' := [(1, .int (l1 + 1)), (0, .ref t_h), (2, .int l2), (3, .int l3)]) hx hb dX6_stays_33 hl (k := 1) rfl (by rfl) (by decide) rfl (fun ls hl => ?_)
          refine lv_iinc (v := (l3 + 1)) (lv' := [(3, .int (l3 + 1)), (1, .int (l1 + 1)), (0, .ref t_h), (2, .int l2)]) hx hb dX6_stays_36 hl (k := 3) rfl (by rfl) (by decide) rfl (fun ls hl => ?_)
          refine lv_goto (tgt := 16) hx hb dX6_stays_39 (by decide) ?_
          exact ih _ _ _ _ _ _ hP hD hS (lv_sub hl [2, 1, 3, 0] rfl) hf hX
  have L4 : ∀  (K : Int32 → (Nat → Int32) → Option (Int32 × (Nat → Int32))) (n : Nat) (l1 : Int32) (l2 : Int32) (t_links : Nat → Int32) (H : Heap) (locs : List Loc) (ls : Array Slot), va_P G.1 vwCl [oX6 t_h t_a t_windows t_goal t_otherFrom t_otherTo t_least, arI G (t_a 1) 12 t_links] H → va_D A [oX6 t_h t_a t_windows t_goal t_otherFrom t_otherTo t_least, arI G (t_a 1) 12 t_links] → va_S A s.heap H locs → lv_has ls 4 [(0, .ref t_h), (1, .int l1), (2, .int l2)] → fX6_stays_4 t_windows K n l1 l2 t_links = some (r, o_t_links) → (∀ (k1 : Int32) (kt_links : Nat → Int32) (H : Heap) (locs : List Loc) (ls : Array Slot), va_P G.1 vwCl [oX6 t_h t_a t_windows t_goal t_otherFrom t_otherTo t_least, arI G (t_a 1) 12 kt_links] H → va_D A [oX6 t_h t_a t_windows t_goal t_otherFrom t_otherTo t_least, arI G (t_a 1) 12 kt_links] → va_S A s.heap H locs → lv_has ls 4 [(1, .int k1)] → K k1 kt_links = some (r, o_t_links) → W p l e ({ frames := 3, cells := 0, slots := 0, locals := 70 } : Room) s m args below meth c H locs 0 0 Q (F0 m 48 ls [])) → W p l e ({ frames := 3, cells := 0, slots := 0, locals := 70 } : Room) s m args below meth c H locs 0 0 Q (F0 m 4 ls []) := by
    intro  K n
    induction n with
    | zero => intro l1 l2 t_links H locs ls hP hD hS hl hf; rw [fX6_stays_4] at hf; cases hf
    | succ n ih =>
      intro l1 l2 t_links H locs ls hP hD hS hl hf hX
      rw [fX6_stays_4] at hf
      refine lv_iload_n hx hb dX6_stays_4 rfl (lv_at hl 2 rfl) ?_
      refine lv_aload_n hx hb dX6_stays_5 rfl (lv_at hl 0 rfl) ?_
      refine va_get (D := G.1) (ci := 6) (v := .int t_windows) (C := RX6) (T := TX6) (N := 9) hx hb hw inW6 hown hK.1 hP 0 rfl rfl 0 (by decide) (hw _ kw_18_14) (fun _ h9 => h9) rfl dX6_stays_6 ?_
      refine lv_icmp_ge (tgt := 48) hx hb dX6_stays_9 (by decide) (fun c_1 => ?_) (fun c_1 => ?_)
      · have hf := ip c_1 hf
        exact hX _ _ _ _ _ hP hD hS (lv_sub hl [1] rfl) hf
      · have hf := iq c_1 hf
        refine lv_iload_n hx hb dX6_stays_12 rfl (lv_at hl 2 rfl) ?_
        refine lv_iconst (v := 1) hx hb dX6_stays_13 (by decide) ?_
        refine lv_iadd hx hb dX6_stays_14 ?_
        refine lv_topi (fun y_2 ey_2 => ?_)
        have hf := bnd_all hf y_2 ey_2
        refine lv_istore_n (lv' := [(3, .int y_2), (0, .ref t_h), (1, .int l1), (2, .int l2)]) hx hb dX6_stays_15 rfl hl (by decide) rfl (fun ls hl => ?_)
        refine L16 _ _ _ _ _ _ _ _ _ hP hD hS (lv_sub hl [1, 2, 3, 0] rfl) hf (fun w_8 t_links_9 H locs ls hP hD hS hl hf => ?_)
        refine lv_iinc (v := (l2 + 1)) (lv' := [(2, .int (l2 + 1)), (0, .ref t_h), (1, .int w_8)]) hx hb dX6_stays_42 hl (k := 2) rfl (by rfl) (by decide) rfl (fun ls hl => ?_)
        refine lv_goto (tgt := 4) hx hb dX6_stays_45 (by decide) ?_
        exact ih _ _ _ _ _ _ hP hD hS (lv_sub hl [1, 2, 0] rfl) hf hX
  unfold fX6_stays at hf
  refine lv_iconst (v := 0) hx hb dX6_stays_0 (by decide) ?_
  refine lv_istore_n (lv' := [(1, .int 0), (0, .ref t_h)]) hx hb dX6_stays_1 rfl hl (by decide) rfl (fun ls hl => ?_)
  refine lv_iconst (v := 0) hx hb dX6_stays_2 (by decide) ?_
  refine lv_istore_n (lv' := [(2, .int 0), (1, .int 0), (0, .ref t_h)]) hx hb dX6_stays_3 rfl hl (by decide) rfl (fun ls hl => ?_)
  refine L4  _ _ _ _ _ _ _ _ hP hD hS (lv_sub hl [2, 1, 0] rfl) hf (fun w_10 t_links_11 H locs ls hP hD hS hl hf => ?_)
  refine lv_iload_n hx hb dX6_stays_48 rfl (lv_at hl 0 rfl) ?_
  exact hRet _ _ _ _ _ _ hf hP hS dX6_stays_49
theorem calX6_stayAt : CalV yX6_stayAt cX6_stayAt 5 (some .int) 1 := ⟨⟨kw_34_13, kw_2_0, by decide +kernel⟩, kw_34_11, kw_34_12⟩
set_option maxHeartbeats 8000000 in
set_option maxRecDepth 100000 in
theorem ctX6_stayAt (l : Launch) (G : GT) (t_h : Nat) (t_a : Nat → Nat) (t_windows : Int32) (t_links : Nat → Int32) (t_goal : Int32) (t_otherFrom : Int32) (t_otherTo : Int32) (t_least : Int32) (v1 : Int32) (r : Int32) (o_t_links : Nat → Int32) (hf : fX6_stayAt t_windows t_links v1 = some (r, o_t_links)) : WrI l yX6_stayAt (Cond.code yX6_stayAt cX6_stayAt 5 (some .int)) { frames := 3, cells := 0, slots := 0, locals := 70 } G [.ref t_h, .int v1] [oX6 t_h t_a t_windows t_goal t_otherFrom t_otherTo t_least, arI G (t_a 1) 12 t_links] [oX6 t_h t_a t_windows t_goal t_otherFrom t_otherTo t_least, arI G (t_a 1) 12 o_t_links] r := by
  intro sz
  refine Met.ofW (cc := cX6_stayAt) (maxL := 5) (ret := (some .int)) (by decide) rfl ?_
  intro p e s m args below meth c s₁ B hml hv
  obtain ⟨hargs, hsz, hP, hD0, hK⟩ := hv
  subst hsz
  obtain ⟨hx, hb, hr, hw, hown, hlk⟩ := fwB B
  refine fw_enter hargs (Nat.le_of_ble_eq_true rfl) (fun ls hl => ?_)
  have hl : lv_has ls 5 [(0, .ref t_h), (1, .int v1)] := hl
  refine fw_Q (P := fun Q => ∃ A : Nat → Prop, va_D A [oX6 t_h t_a t_windows t_goal t_otherFrom t_otherTo t_least, arI G (t_a 1) 12 t_links] ∧ va_S A s.heap s.heap [] ∧ (∀ q, s.heap.size ≤ q → A q) ∧ ∀ (v : Int32) (n_t_links : Nat → Int32) (H : Heap) (locs : List Loc) (pc : Nat) (ls : Array Slot), some (v, n_t_links) = some (r, o_t_links) → va_P G.1 vwCl [oX6 t_h t_a t_windows t_goal t_otherFrom t_otherTo t_least, arI G (t_a 1) 12 n_t_links] H → va_S A s.heap H locs → decode cX6_stayAt pc = .ok (.ireturn, 1) → W p l e ({ frames := 3, cells := 0, slots := 0, locals := 70 } : Room) s m args below meth c H locs 0 0 Q (F0 m pc ls [.int v])) ⟨va_A [oX6 t_h t_a t_windows t_goal t_otherFrom t_otherTo t_least, arI G (t_a 1) 12 t_links] s.heap.size, hD0.self (sz := s.heap.size), va_S.rf, fun q h => Or.inr h, ?_⟩ ?_
  · intro v n_t_links H locs pc ls h hP hS hd
    cases h
    exact retWI hx hb hr hlk hS hP rfl hd
  rintro Q ⟨A, hD, hS, hA, hRet⟩
  change W p l e ({ frames := 3, cells := 0, slots := 0, locals := 70 } : Room) s m args below meth c _ _ 0 0 Q _
  have L17 : ∀ (l3 : Int32) (K : Int32 → (Nat → Int32) → Option (Int32 × (Nat → Int32))) (n : Nat) (l2 : Int32) (l4 : Int32) (t_links : Nat → Int32) (H : Heap) (locs : List Loc) (ls : Array Slot), va_P G.1 vwCl [oX6 t_h t_a t_windows t_goal t_otherFrom t_otherTo t_least, arI G (t_a 1) 12 t_links] H → va_D A [oX6 t_h t_a t_windows t_goal t_otherFrom t_otherTo t_least, arI G (t_a 1) 12 t_links] → va_S A s.heap H locs → lv_has ls 5 [(0, .ref t_h), (1, .int v1), (2, .int l2), (3, .int l3), (4, .int l4)] → fX6_stayAt_17 v1 l3 t_windows K n l2 l4 t_links = some (r, o_t_links) → (∀ (k2 : Int32) (kt_links : Nat → Int32) (H : Heap) (locs : List Loc) (ls : Array Slot), va_P G.1 vwCl [oX6 t_h t_a t_windows t_goal t_otherFrom t_otherTo t_least, arI G (t_a 1) 12 kt_links] H → va_D A [oX6 t_h t_a t_windows t_goal t_otherFrom t_otherTo t_least, arI G (t_a 1) 12 kt_links] → va_S A s.heap H locs → lv_has ls 5 [(0, .ref t_h), (1, .int v1), (2, .int k2), (3, .int l3)] → K k2 kt_links = some (r, o_t_links) → W p l e ({ frames := 3, cells := 0, slots := 0, locals := 70 } : Room) s m args below meth c H locs 0 0 Q (F0 m 57 ls [])) → W p l e ({ frames := 3, cells := 0, slots := 0, locals := 70 } : Room) s m args below meth c H locs 0 0 Q (F0 m 17 ls []) := by
    intro l3 K n
    induction n with
    | zero => intro l2 l4 t_links H locs ls hP hD hS hl hf; rw [fX6_stayAt_17] at hf; cases hf
    | succ n ih =>
      intro l2 l4 t_links H locs ls hP hD hS hl hf hX
      rw [fX6_stayAt_17] at hf
      refine lv_iload hx hb dX6_stayAt_17 (lv_at hl 4 rfl) ?_
      refine lv_aload_n hx hb dX6_stayAt_19 rfl (lv_at hl 0 rfl) ?_
      refine va_get (D := G.1) (ci := 6) (v := .int t_windows) (C := RX6) (T := TX6) (N := 9) hx hb hw inW6 hown hK.1 hP 0 rfl rfl 0 (by decide) (hw _ kw_18_14) (fun _ h9 => h9) rfl dX6_stayAt_20 ?_
      refine lv_icmp_ge (tgt := 57) hx hb dX6_stayAt_23 (by decide) (fun c_3 => ?_) (fun c_3 => ?_)
      · have hf := ip c_3 hf
        exact hX _ _ _ _ _ hP hD hS (lv_sub hl [0, 1, 2, 3] rfl) hf
      · have hf := iq c_3 hf
        refine lv_aload_n hx hb dX6_stayAt_26 rfl (lv_at hl 0 rfl) ?_
        refine lv_iload_n hx hb dX6_stayAt_27 rfl (lv_at hl 3 rfl) ?_
        refine lv_iload hx hb dX6_stayAt_28 (lv_at hl 4 rfl) ?_
        obtain ⟨r_5, t_links_4, hc_6, hf⟩ := bd2_in hf
        refine wcI (w1 := [oX6 t_h t_a t_windows t_goal t_otherFrom t_otherTo t_least, arI G (t_a 1) 12 t_links_4]) (va_runV (As := [.int l3, .int l4]) (rest := []) ⟨hx, hb, hml, hown, hw⟩ ((ctX6_isStay l G t_h t_a t_windows t_links t_goal t_otherFrom t_otherTo t_least l3 l4 _ _ hc_6) _) (kV hw calX6_isStay kw_34_1 rfl rfl ⟨Nat.le_of_ble_eq_true rfl, Nat.le_of_ble_eq_true rfl⟩) (wpV (hP.sub (ws' := [oX6 t_h t_a t_windows t_goal t_otherFrom t_otherTo t_least, arI G (t_a 1) 12 t_links]) [0, 1] rfl) (hD.sub (ws' := [oX6 t_h t_a t_windows t_goal t_otherFrom t_otherTo t_least, arI G (t_a 1) 12 t_links]) [0, 1] (by decide) rfl) hK (ci := 6) (q0 := 0) rfl rfl) rfl rfl hl.1 rfl (lv_room (Nat.le_of_ble_eq_true rfl)) dX6_stayAt_30 ⟨Nat.zero_le _, Nat.zero_le _⟩) hS hA hP hD [0, 1] rfl rfl (fun H locs hP hD hS => ?_)
        have hP : va_P G.1 vwCl [oX6 t_h t_a t_windows t_goal t_otherFrom t_otherTo t_least, arI G (t_a 1) 12 t_links_4] H := hP
        have hD : va_D A [oX6 t_h t_a t_windows t_goal t_otherFrom t_otherTo t_least, arI G (t_a 1) 12 t_links_4] := hD
        refine lv_if_eq (tgt := 51) hx hb dX6_stayAt_33 (by decide) (fun c_7 => ?_) (fun c_7 => ?_)
        · have hf := ip c_7 hf
          refine lv_iinc (v := (l4 + 1)) (lv' := [(4, .int (l4 + 1)), (0, .ref t_h), (1, .int v1), (2, .int l2), (3, .int l3)]) hx hb dX6_stayAt_51 hl (k := 4) rfl (by rfl) (by decide) rfl (fun ls hl => ?_)
          refine lv_goto (tgt := 17) hx hb dX6_stayAt_54 (by decide) ?_
          exact ih _ _ _ _ _ _ hP hD hS (lv_sub hl [1, 2, 3, 4, 0] rfl) hf hX
        · have hf := iq c_7 hf
          refine lv_iload_n hx hb dX6_stayAt_36 rfl (lv_at hl 2 rfl) ?_
          refine lv_iload_n hx hb dX6_stayAt_37 rfl (lv_at hl 1 rfl) ?_
          refine lv_icmp_ne (tgt := 48) hx hb dX6_stayAt_38 (by decide) (fun c_8 => ?_) (fun c_8 => ?_)
          · have hf := iq c_8 hf
            refine lv_iinc (v := (l2 + 1)) (lv' := [(2, .int (l2 + 1)), (0, .ref t_h), (1, .int v1), (3, .int l3), (4, .int l4)]) hx hb dX6_stayAt_48 hl (k := 2) rfl (by rfl) (by decide) rfl (fun ls hl => ?_)
            refine lv_iinc (v := (l4 + 1)) (lv' := [(4, .int (l4 + 1)), (2, .int (l2 + 1)), (0, .ref t_h), (1, .int v1), (3, .int l3)]) hx hb dX6_stayAt_51 hl (k := 4) rfl (by rfl) (by decide) rfl (fun ls hl => ?_)
            refine lv_goto (tgt := 17) hx hb dX6_stayAt_54 (by decide) ?_
            exact ih _ _ _ _ _ _ hP hD hS (lv_sub hl [2, 3, 1, 4, 0] rfl) hf hX
          · have hf := ip c_8 hf
            refine lv_iload_n hx hb dX6_stayAt_41 rfl (lv_at hl 3 rfl) ?_
            refine lv_iload hx hb dX6_stayAt_42 (lv_at hl 4 rfl) ?_
            obtain ⟨r_9, hc_10, hf⟩ := bd1_in hf
            refine rcI (va_runSN (As := [.int l3, .int l4]) (rest := []) ⟨hx, hb, hml, hown, hw⟩ ((ctX7_pairOf l G l3 l4 _ hc_10) _) (kSN hw calX7_pairOf (nm_12 hK.2) rfl rfl ⟨Nat.le_of_ble_eq_true rfl, Nat.le_of_ble_eq_true rfl⟩) (rpS (hP.sub (ws' := []) [] rfl) hK) rfl rfl hl.1 rfl (lv_room (Nat.le_of_ble_eq_true rfl)) dX6_stayAt_44 ⟨Nat.zero_le _, Nat.zero_le _⟩) hS hA hP (fun H locs hP hS => ?_)
            exact hRet _ _ _ _ _ _ hf hP hS dX6_stayAt_47
  have L4 : ∀  (K : (Nat → Int32) → Option (Int32 × (Nat → Int32))) (n : Nat) (l2 : Int32) (l3 : Int32) (t_links : Nat → Int32) (H : Heap) (locs : List Loc) (ls : Array Slot), va_P G.1 vwCl [oX6 t_h t_a t_windows t_goal t_otherFrom t_otherTo t_least, arI G (t_a 1) 12 t_links] H → va_D A [oX6 t_h t_a t_windows t_goal t_otherFrom t_otherTo t_least, arI G (t_a 1) 12 t_links] → va_S A s.heap H locs → lv_has ls 5 [(0, .ref t_h), (1, .int v1), (2, .int l2), (3, .int l3)] → fX6_stayAt_4 v1 t_windows K n l2 l3 t_links = some (r, o_t_links) → (∀ (kt_links : Nat → Int32) (H : Heap) (locs : List Loc) (ls : Array Slot), va_P G.1 vwCl [oX6 t_h t_a t_windows t_goal t_otherFrom t_otherTo t_least, arI G (t_a 1) 12 kt_links] H → va_D A [oX6 t_h t_a t_windows t_goal t_otherFrom t_otherTo t_least, arI G (t_a 1) 12 kt_links] → va_S A s.heap H locs → lv_has ls 5 [] → K kt_links = some (r, o_t_links) → W p l e ({ frames := 3, cells := 0, slots := 0, locals := 70 } : Room) s m args below meth c H locs 0 0 Q (F0 m 63 ls [])) → W p l e ({ frames := 3, cells := 0, slots := 0, locals := 70 } : Room) s m args below meth c H locs 0 0 Q (F0 m 4 ls []) := by
    intro  K n
    induction n with
    | zero => intro l2 l3 t_links H locs ls hP hD hS hl hf; rw [fX6_stayAt_4] at hf; cases hf
    | succ n ih =>
      intro l2 l3 t_links H locs ls hP hD hS hl hf hX
      rw [fX6_stayAt_4] at hf
      refine lv_iload_n hx hb dX6_stayAt_4 rfl (lv_at hl 3 rfl) ?_
      refine lv_aload_n hx hb dX6_stayAt_5 rfl (lv_at hl 0 rfl) ?_
      refine va_get (D := G.1) (ci := 6) (v := .int t_windows) (C := RX6) (T := TX6) (N := 9) hx hb hw inW6 hown hK.1 hP 0 rfl rfl 0 (by decide) (hw _ kw_18_14) (fun _ h9 => h9) rfl dX6_stayAt_6 ?_
      refine lv_icmp_ge (tgt := 63) hx hb dX6_stayAt_9 (by decide) (fun c_1 => ?_) (fun c_1 => ?_)
      · have hf := ip c_1 hf
        exact hX _ _ _ _ hP hD hS (lv_sub hl [] rfl) hf
      · have hf := iq c_1 hf
        refine lv_iload_n hx hb dX6_stayAt_12 rfl (lv_at hl 3 rfl) ?_
        refine lv_iconst (v := 1) hx hb dX6_stayAt_13 (by decide) ?_
        refine lv_iadd hx hb dX6_stayAt_14 ?_
        refine lv_topi (fun y_2 ey_2 => ?_)
        have hf := bnd_all hf y_2 ey_2
        refine lv_istore (lv' := [(4, .int y_2), (0, .ref t_h), (1, .int v1), (2, .int l2), (3, .int l3)]) hx hb dX6_stayAt_15 hl (by decide) rfl (fun ls hl => ?_)
        refine L17 _ _ _ _ _ _ _ _ _ hP hD hS (lv_sub hl [1, 2, 3, 4, 0] rfl) hf (fun w_11 t_links_12 H locs ls hP hD hS hl hf => ?_)
        refine lv_iinc (v := (l3 + 1)) (lv' := [(3, .int (l3 + 1)), (0, .ref t_h), (1, .int v1), (2, .int w_11)]) hx hb dX6_stayAt_57 hl (k := 3) rfl (by rfl) (by decide) rfl (fun ls hl => ?_)
        refine lv_goto (tgt := 4) hx hb dX6_stayAt_60 (by decide) ?_
        exact ih _ _ _ _ _ _ hP hD hS (lv_sub hl [1, 2, 3, 0] rfl) hf hX
  unfold fX6_stayAt at hf
  refine lv_iconst (v := 0) hx hb dX6_stayAt_0 (by decide) ?_
  refine lv_istore_n (lv' := [(2, .int 0), (0, .ref t_h), (1, .int v1)]) hx hb dX6_stayAt_1 rfl hl (by decide) rfl (fun ls hl => ?_)
  refine lv_iconst (v := 0) hx hb dX6_stayAt_2 (by decide) ?_
  refine lv_istore_n (lv' := [(3, .int 0), (2, .int 0), (0, .ref t_h), (1, .int v1)]) hx hb dX6_stayAt_3 rfl hl (by decide) rfl (fun ls hl => ?_)
  refine L4  _ _ _ _ _ _ _ _ hP hD hS (lv_sub hl [2, 3, 1, 0] rfl) hf (fun t_links_13 H locs ls hP hD hS hl hf => ?_)
  refine lv_iconst (v := (-1)) hx hb dX6_stayAt_63 (by decide) ?_
  exact hRet _ _ _ _ _ _ hf hP hS dX6_stayAt_64
theorem calX1_mayBeTaut : CalV yX1_mayBeTaut cX1_mayBeTaut 2 (some .boolean) 1 := ⟨⟨kw_35_5, kw_1_19, by decide +kernel⟩, kw_35_3, kw_35_4⟩
set_option maxHeartbeats 8000000 in
set_option maxRecDepth 100000 in
theorem ctX1_mayBeTaut (l : Launch) (G : GT) (t_h : Nat) (t_a : Nat → Nat) (t_windows : Int32) (t_washes : Int32) (t_damp : Int32) (t_heard : Int32) (t_lines : Int32) (t_hour : Int32) (t_strings : Int32) (t_cans : Nat → Int32) (t_washPairs : Nat → Int32) (t_washHours : Nat → Int32) (t_pairs : Nat → Int32) (v1 : Int32) (r : Int32) (hf : fX1_mayBeTaut t_windows t_washes t_hour t_strings t_cans t_washPairs t_washHours t_pairs v1 = some r) : RdI l yX1_mayBeTaut (Cond.code yX1_mayBeTaut cX1_mayBeTaut 2 (some .boolean)) { frames := 3, cells := 0, slots := 0, locals := 70 } G [.ref t_h, .int v1] [oX1 t_h t_a t_windows t_washes t_damp t_heard t_lines t_hour t_strings, arI G (t_a 7) 12 t_cans, arI G (t_a 8) 8 t_washPairs, arI G (t_a 9) 8 t_washHours, arI G (t_a 10) 21 t_pairs] r := by
  intro sz
  refine Met.ofW (cc := cX1_mayBeTaut) (maxL := 2) (ret := (some .boolean)) (by decide) rfl ?_
  intro p e s m args below meth c s₁ B hml hv
  obtain ⟨hargs, hsz, hP, hK⟩ := hv
  subst hsz
  obtain ⟨hx, hb, hr, hw, hown, hlk⟩ := fwB B
  refine fw_enter hargs (Nat.le_of_ble_eq_true rfl) (fun ls hl => ?_)
  have hl : lv_has ls 2 [(0, .ref t_h), (1, .int v1)] := hl
  refine fw_Q (P := fun Q => ∃ A : Nat → Prop, va_S A s.heap s.heap [] ∧ (∀ q, s.heap.size ≤ q → A q) ∧ ∀ (v : Int32) (H : Heap) (locs : List Loc) (pc : Nat) (ls : Array Slot), some v = some r → va_S A s.heap H locs → narrow .boolean (.int v) = .int v → decode cX1_mayBeTaut pc = .ok (.ireturn, 1) → W p l e ({ frames := 3, cells := 0, slots := 0, locals := 70 } : Room) s m args below meth c H locs 0 0 Q (F0 m pc ls [.int v])) ⟨fun q => s.heap.size ≤ q, va_S.rf, fun q h => h, fun v H locs pc ls h hS hn hd => retRZ hx hb hr hlk hS hn h hd⟩ ?_
  rintro Q ⟨A, hS, hA, hRet⟩
  change W p l e ({ frames := 3, cells := 0, slots := 0, locals := 70 } : Room) s m args below meth c _ _ 0 0 Q _
  unfold fX1_mayBeTaut at hf
  refine lv_aload_n hx hb dX1_mayBeTaut_0 rfl (lv_at hl 0 rfl) ?_
  refine lv_iload_n hx hb dX1_mayBeTaut_1 rfl (lv_at hl 1 rfl) ?_
  obtain ⟨r_1, hc_2, hf⟩ := bd1_in hf
  refine rcI (va_runV (As := [.int v1]) (rest := []) ⟨hx, hb, hml, hown, hw⟩ ((ctX1_whyNot l G t_h t_a t_windows t_washes t_damp t_heard t_lines t_hour t_strings t_cans t_pairs v1 _ hc_2) _) (kV hw calX1_whyNot kw_35_6 rfl rfl ⟨Nat.le_of_ble_eq_true rfl, Nat.le_of_ble_eq_true rfl⟩) (rpV (hP.sub (ws' := [oX1 t_h t_a t_windows t_washes t_damp t_heard t_lines t_hour t_strings, arI G (t_a 7) 12 t_cans, arI G (t_a 10) 21 t_pairs]) [0, 1, 4] rfl) hK (ci := 1) (q0 := 0) rfl rfl) rfl rfl hl.1 rfl (lv_room (Nat.le_of_ble_eq_true rfl)) dX1_mayBeTaut_2 ⟨Nat.zero_le _, Nat.zero_le _⟩) hS hA hP (fun H locs hP hS => ?_)
  refine lv_if_ne (tgt := 24) hx hb dX1_mayBeTaut_5 (by decide) (fun c_3 => ?_) (fun c_3 => ?_)
  · have hf := iq c_3 hf
    refine lv_iconst (v := 0) hx hb dX1_mayBeTaut_24 (by decide) ?_
    exact hRet _ _ _ _ _ hf hS (by decide +kernel) dX1_mayBeTaut_25
  · have hf := ip c_3 hf
    refine lv_aload_n hx hb dX1_mayBeTaut_8 rfl (lv_at hl 0 rfl) ?_
    refine lv_iload_n hx hb dX1_mayBeTaut_9 rfl (lv_at hl 1 rfl) ?_
    refine lv_aload_n hx hb dX1_mayBeTaut_10 rfl (lv_at hl 0 rfl) ?_
    refine va_get (D := G.1) (ci := 1) (v := .int t_hour) (C := RX1) (T := TX1) (N := 12) hx hb hw inW1 hown hK.1 hP 0 rfl rfl 5 (by decide) (hw _ kw_3_22) (fun _ h9 => h9) rfl dX1_mayBeTaut_11 ?_
    obtain ⟨r_4, hc_5, hf⟩ := bd1_in hf
    refine rcI (va_runV (As := [.int v1, .int t_hour]) (rest := []) ⟨hx, hb, hml, hown, hw⟩ ((ctX1_slackAt l G t_h t_a t_windows t_washes t_damp t_heard t_lines t_hour t_strings t_washPairs t_washHours v1 t_hour _ hc_5) _) (kV hw calX1_slackAt kw_35_7 rfl rfl ⟨Nat.le_of_ble_eq_true rfl, Nat.le_of_ble_eq_true rfl⟩) (rpV (hP.sub (ws' := [oX1 t_h t_a t_windows t_washes t_damp t_heard t_lines t_hour t_strings, arI G (t_a 8) 8 t_washPairs, arI G (t_a 9) 8 t_washHours]) [0, 2, 3] rfl) hK (ci := 1) (q0 := 0) rfl rfl) rfl rfl hl.1 rfl (lv_room (Nat.le_of_ble_eq_true rfl)) dX1_mayBeTaut_14 ⟨Nat.zero_le _, Nat.zero_le _⟩) hS hA hP (fun H locs hP hS => ?_)
    refine lv_if_ne (tgt := 24) hx hb dX1_mayBeTaut_17 (by decide) (fun c_6 => ?_) (fun c_6 => ?_)
    · have hf := iq c_6 hf
      refine lv_iconst (v := 0) hx hb dX1_mayBeTaut_24 (by decide) ?_
      exact hRet _ _ _ _ _ hf hS (by decide +kernel) dX1_mayBeTaut_25
    · have hf := ip c_6 hf
      refine lv_iconst (v := 1) hx hb dX1_mayBeTaut_20 (by decide) ?_
      refine lv_goto (tgt := 25) hx hb dX1_mayBeTaut_21 (by decide) ?_
      exact hRet _ _ _ _ _ hf hS (by decide +kernel) dX1_mayBeTaut_25
theorem calX6_heardCount : CalV yX6_heardCount cX6_heardCount 5 (some .int) 2 := ⟨⟨kw_37_23, kw_2_0, by decide +kernel⟩, kw_37_21, kw_37_22⟩
set_option maxHeartbeats 8000000 in
set_option maxRecDepth 100000 in
theorem ctX6_heardCount (l : Launch) (G : GT) (t_h : Nat) (t_a : Nat → Nat) (t_windows : Int32) (t_rest : Nat → Int32) (t_goal : Int32) (t_otherFrom : Int32) (t_otherTo : Int32) (t_least : Int32) (v1 : Int32) (v2 : Int32) (r : Int32) (hf : fX6_heardCount t_windows t_rest v1 v2 = some r) : RdI l yX6_heardCount (Cond.code yX6_heardCount cX6_heardCount 5 (some .int)) { frames := 2, cells := 0, slots := 0, locals := 43 } G [.ref t_h, .int v1, .int v2] [oX6 t_h t_a t_windows t_goal t_otherFrom t_otherTo t_least, arI G (t_a 3) 12 t_rest] r := by
  intro sz
  refine Met.ofW (cc := cX6_heardCount) (maxL := 5) (ret := (some .int)) (by decide) rfl ?_
  intro p e s m args below meth c s₁ B hml hv
  obtain ⟨hargs, hsz, hP, hK⟩ := hv
  subst hsz
  obtain ⟨hx, hb, hr, hw, hown, hlk⟩ := fwB B
  refine fw_enter hargs (Nat.le_of_ble_eq_true rfl) (fun ls hl => ?_)
  have hl : lv_has ls 5 [(0, .ref t_h), (1, .int v1), (2, .int v2)] := hl
  refine fw_Q (P := fun Q => ∃ A : Nat → Prop, va_S A s.heap s.heap [] ∧ (∀ q, s.heap.size ≤ q → A q) ∧ ∀ (v : Int32) (H : Heap) (locs : List Loc) (pc : Nat) (ls : Array Slot), some v = some r → va_S A s.heap H locs → decode cX6_heardCount pc = .ok (.ireturn, 1) → W p l e ({ frames := 2, cells := 0, slots := 0, locals := 43 } : Room) s m args below meth c H locs 0 0 Q (F0 m pc ls [.int v])) ⟨fun q => s.heap.size ≤ q, va_S.rf, fun q h => h, fun v H locs pc ls h hS hd => retRI hx hb hr hlk hS h hd⟩ ?_
  rintro Q ⟨A, hS, hA, hRet⟩
  change W p l e ({ frames := 2, cells := 0, slots := 0, locals := 43 } : Room) s m args below meth c _ _ 0 0 Q _
  have L5 : ∀  (K : Int32 → Option Int32) (n : Nat) (l3 : Int32) (l4 : Int32) (H : Heap) (locs : List Loc) (ls : Array Slot), va_P G.1 vwCl [oX6 t_h t_a t_windows t_goal t_otherFrom t_otherTo t_least, arI G (t_a 3) 12 t_rest] H → va_S A s.heap H locs → lv_has ls 5 [(0, .ref t_h), (1, .int v1), (2, .int v2), (3, .int l3), (4, .int l4)] → fX6_heardCount_5 v1 v2 t_windows t_rest K n l3 l4 = some r → (∀ (k3 : Int32) (H : Heap) (locs : List Loc) (ls : Array Slot), va_P G.1 vwCl [oX6 t_h t_a t_windows t_goal t_otherFrom t_otherTo t_least, arI G (t_a 3) 12 t_rest] H → va_S A s.heap H locs → lv_has ls 5 [(3, .int k3)] → K k3 = some r → W p l e ({ frames := 2, cells := 0, slots := 0, locals := 43 } : Room) s m args below meth c H locs 0 0 Q (F0 m 39 ls [])) → W p l e ({ frames := 2, cells := 0, slots := 0, locals := 43 } : Room) s m args below meth c H locs 0 0 Q (F0 m 5 ls []) := by
    intro  K n
    induction n with
    | zero => intro l3 l4 H locs ls hP hS hl hf; rw [fX6_heardCount_5] at hf; cases hf
    | succ n ih =>
      intro l3 l4 H locs ls hP hS hl hf hX
      rw [fX6_heardCount_5] at hf
      refine lv_iload hx hb dX6_heardCount_5 (lv_at hl 4 rfl) ?_
      refine lv_aload_n hx hb dX6_heardCount_7 rfl (lv_at hl 0 rfl) ?_
      refine va_get (D := G.1) (ci := 6) (v := .int t_windows) (C := RX6) (T := TX6) (N := 9) hx hb hw inW6 hown hK.1 hP 0 rfl rfl 0 (by decide) (hw _ kw_18_14) (fun _ h9 => h9) rfl dX6_heardCount_8 ?_
      refine lv_icmp_ge (tgt := 39) hx hb dX6_heardCount_11 (by decide) (fun c_1 => ?_) (fun c_1 => ?_)
      · have hf := ip c_1 hf
        exact hX _ _ _ _ hP hS (lv_sub hl [3] rfl) hf
      · have hf := iq c_1 hf
        refine lv_iload hx hb dX6_heardCount_14 (lv_at hl 4 rfl) ?_
        refine lv_iload_n hx hb dX6_heardCount_16 rfl (lv_at hl 1 rfl) ?_
        refine lv_icmp_eq (tgt := 33) hx hb dX6_heardCount_17 (by decide) (fun c_2 => ?_) (fun c_2 => ?_)
        · have hf := ip c_2 hf
          refine lv_iinc (v := (l4 + 1)) (lv' := [(4, .int (l4 + 1)), (0, .ref t_h), (1, .int v1), (2, .int v2), (3, .int l3)]) hx hb dX6_heardCount_33 hl (k := 4) rfl (by rfl) (by decide) rfl (fun ls hl => ?_)
          refine lv_goto (tgt := 5) hx hb dX6_heardCount_36 (by decide) ?_
          exact ih _ _ _ _ _ hP hS (lv_sub hl [1, 2, 3, 4, 0] rfl) hf hX
        · have hf := iq c_2 hf
          refine lv_aload_n hx hb dX6_heardCount_20 rfl (lv_at hl 0 rfl) ?_
          refine lv_iload hx hb dX6_heardCount_21 (lv_at hl 4 rfl) ?_
          refine lv_iload_n hx hb dX6_heardCount_23 rfl (lv_at hl 2 rfl) ?_
          obtain ⟨r_3, hc_4, hf⟩ := bd1_in hf
          refine rcI (va_runV (As := [.int l4, .int v2]) (rest := []) ⟨hx, hb, hml, hown, hw⟩ ((ctX6_isHeardFrom l G t_h t_a t_windows t_rest t_goal t_otherFrom t_otherTo t_least l4 v2 _ hc_4) _) (kV hw calX6_isHeardFrom kw_38_0 rfl rfl ⟨Nat.le_of_ble_eq_true rfl, Nat.le_of_ble_eq_true rfl⟩) (rpV (hP.sub (ws' := [oX6 t_h t_a t_windows t_goal t_otherFrom t_otherTo t_least, arI G (t_a 3) 12 t_rest]) [0, 1] rfl) hK (ci := 6) (q0 := 0) rfl rfl) rfl rfl hl.1 rfl (lv_room (Nat.le_of_ble_eq_true rfl)) dX6_heardCount_24 ⟨Nat.zero_le _, Nat.zero_le _⟩) hS hA hP (fun H locs hP hS => ?_)
          refine lv_if_eq (tgt := 33) hx hb dX6_heardCount_27 (by decide) (fun c_5 => ?_) (fun c_5 => ?_)
          · have hf := ip c_5 hf
            refine lv_iinc (v := (l4 + 1)) (lv' := [(4, .int (l4 + 1)), (0, .ref t_h), (1, .int v1), (2, .int v2), (3, .int l3)]) hx hb dX6_heardCount_33 hl (k := 4) rfl (by rfl) (by decide) rfl (fun ls hl => ?_)
            refine lv_goto (tgt := 5) hx hb dX6_heardCount_36 (by decide) ?_
            exact ih _ _ _ _ _ hP hS (lv_sub hl [1, 2, 3, 4, 0] rfl) hf hX
          · have hf := iq c_5 hf
            refine lv_iinc (v := (l3 + 1)) (lv' := [(3, .int (l3 + 1)), (0, .ref t_h), (1, .int v1), (2, .int v2), (4, .int l4)]) hx hb dX6_heardCount_30 hl (k := 3) rfl (by rfl) (by decide) rfl (fun ls hl => ?_)
            refine lv_iinc (v := (l4 + 1)) (lv' := [(4, .int (l4 + 1)), (3, .int (l3 + 1)), (0, .ref t_h), (1, .int v1), (2, .int v2)]) hx hb dX6_heardCount_33 hl (k := 4) rfl (by rfl) (by decide) rfl (fun ls hl => ?_)
            refine lv_goto (tgt := 5) hx hb dX6_heardCount_36 (by decide) ?_
            exact ih _ _ _ _ _ hP hS (lv_sub hl [2, 3, 4, 1, 0] rfl) hf hX
  unfold fX6_heardCount at hf
  refine lv_iconst (v := 0) hx hb dX6_heardCount_0 (by decide) ?_
  refine lv_istore_n (lv' := [(3, .int 0), (0, .ref t_h), (1, .int v1), (2, .int v2)]) hx hb dX6_heardCount_1 rfl hl (by decide) rfl (fun ls hl => ?_)
  refine lv_iconst (v := 0) hx hb dX6_heardCount_2 (by decide) ?_
  refine lv_istore (lv' := [(4, .int 0), (3, .int 0), (0, .ref t_h), (1, .int v1), (2, .int v2)]) hx hb dX6_heardCount_3 hl (by decide) rfl (fun ls hl => ?_)
  refine L5  _ _ _ _ _ _ _ hP hS (lv_sub hl [2, 3, 4, 1, 0] rfl) hf (fun w_6 H locs ls hP hS hl hf => ?_)
  refine lv_iload_n hx hb dX6_heardCount_39 rfl (lv_at hl 0 rfl) ?_
  exact hRet _ _ _ _ _ hf hS dX6_heardCount_40
theorem calX6_heardLoss : CalV yX6_heardLoss cX6_heardLoss 5 (some .int) 2 := ⟨⟨kw_38_4, kw_2_0, by decide +kernel⟩, kw_38_2, kw_38_3⟩
set_option maxHeartbeats 8000000 in
set_option maxRecDepth 100000 in
theorem ctX6_heardLoss (l : Launch) (G : GT) (t_h : Nat) (t_a : Nat → Nat) (t_windows : Int32) (t_rest : Nat → Int32) (t_goal : Int32) (t_otherFrom : Int32) (t_otherTo : Int32) (t_least : Int32) (v1 : Int32) (v2 : Int32) (r : Int32) (hf : fX6_heardLoss t_windows t_rest v1 v2 = some r) : RdI l yX6_heardLoss (Cond.code yX6_heardLoss cX6_heardLoss 5 (some .int)) { frames := 2, cells := 0, slots := 0, locals := 43 } G [.ref t_h, .int v1, .int v2] [oX6 t_h t_a t_windows t_goal t_otherFrom t_otherTo t_least, arI G (t_a 3) 12 t_rest] r := by
  intro sz
  refine Met.ofW (cc := cX6_heardLoss) (maxL := 5) (ret := (some .int)) (by decide) rfl ?_
  intro p e s m args below meth c s₁ B hml hv
  obtain ⟨hargs, hsz, hP, hK⟩ := hv
  subst hsz
  obtain ⟨hx, hb, hr, hw, hown, hlk⟩ := fwB B
  refine fw_enter hargs (Nat.le_of_ble_eq_true rfl) (fun ls hl => ?_)
  have hl : lv_has ls 5 [(0, .ref t_h), (1, .int v1), (2, .int v2)] := hl
  refine fw_Q (P := fun Q => ∃ A : Nat → Prop, va_S A s.heap s.heap [] ∧ (∀ q, s.heap.size ≤ q → A q) ∧ ∀ (v : Int32) (H : Heap) (locs : List Loc) (pc : Nat) (ls : Array Slot), some v = some r → va_S A s.heap H locs → decode cX6_heardLoss pc = .ok (.ireturn, 1) → W p l e ({ frames := 2, cells := 0, slots := 0, locals := 43 } : Room) s m args below meth c H locs 0 0 Q (F0 m pc ls [.int v])) ⟨fun q => s.heap.size ≤ q, va_S.rf, fun q h => h, fun v H locs pc ls h hS hd => retRI hx hb hr hlk hS h hd⟩ ?_
  rintro Q ⟨A, hS, hA, hRet⟩
  change W p l e ({ frames := 2, cells := 0, slots := 0, locals := 43 } : Room) s m args below meth c _ _ 0 0 Q _
  have L5 : ∀  (K : Int32 → Option Int32) (n : Nat) (l3 : Int32) (l4 : Int32) (H : Heap) (locs : List Loc) (ls : Array Slot), va_P G.1 vwCl [oX6 t_h t_a t_windows t_goal t_otherFrom t_otherTo t_least, arI G (t_a 3) 12 t_rest] H → va_S A s.heap H locs → lv_has ls 5 [(0, .ref t_h), (1, .int v1), (2, .int v2), (3, .int l3), (4, .int l4)] → fX6_heardLoss_5 v1 v2 t_windows t_rest K n l3 l4 = some r → (∀ (k3 : Int32) (H : Heap) (locs : List Loc) (ls : Array Slot), va_P G.1 vwCl [oX6 t_h t_a t_windows t_goal t_otherFrom t_otherTo t_least, arI G (t_a 3) 12 t_rest] H → va_S A s.heap H locs → lv_has ls 5 [(3, .int k3)] → K k3 = some r → W p l e ({ frames := 2, cells := 0, slots := 0, locals := 43 } : Room) s m args below meth c H locs 0 0 Q (F0 m 45 ls [])) → W p l e ({ frames := 2, cells := 0, slots := 0, locals := 43 } : Room) s m args below meth c H locs 0 0 Q (F0 m 5 ls []) := by
    intro  K n
    induction n with
    | zero => intro l3 l4 H locs ls hP hS hl hf; rw [fX6_heardLoss_5] at hf; cases hf
    | succ n ih =>
      intro l3 l4 H locs ls hP hS hl hf hX
      rw [fX6_heardLoss_5] at hf
      refine lv_iload hx hb dX6_heardLoss_5 (lv_at hl 4 rfl) ?_
      refine lv_aload_n hx hb dX6_heardLoss_7 rfl (lv_at hl 0 rfl) ?_
      refine va_get (D := G.1) (ci := 6) (v := .int t_windows) (C := RX6) (T := TX6) (N := 9) hx hb hw inW6 hown hK.1 hP 0 rfl rfl 0 (by decide) (hw _ kw_18_14) (fun _ h9 => h9) rfl dX6_heardLoss_8 ?_
      refine lv_icmp_ge (tgt := 45) hx hb dX6_heardLoss_11 (by decide) (fun c_1 => ?_) (fun c_1 => ?_)
      · have hf := ip c_1 hf
        exact hX _ _ _ _ hP hS (lv_sub hl [3] rfl) hf
      · have hf := iq c_1 hf
        refine lv_iload hx hb dX6_heardLoss_14 (lv_at hl 4 rfl) ?_
        refine lv_iload_n hx hb dX6_heardLoss_16 rfl (lv_at hl 1 rfl) ?_
        refine lv_icmp_eq (tgt := 39) hx hb dX6_heardLoss_17 (by decide) (fun c_2 => ?_) (fun c_2 => ?_)
        · have hf := ip c_2 hf
          refine lv_iinc (v := (l4 + 1)) (lv' := [(4, .int (l4 + 1)), (0, .ref t_h), (1, .int v1), (2, .int v2), (3, .int l3)]) hx hb dX6_heardLoss_39 hl (k := 4) rfl (by rfl) (by decide) rfl (fun ls hl => ?_)
          refine lv_goto (tgt := 5) hx hb dX6_heardLoss_42 (by decide) ?_
          exact ih _ _ _ _ _ hP hS (lv_sub hl [1, 2, 3, 4, 0] rfl) hf hX
        · have hf := iq c_2 hf
          refine lv_aload_n hx hb dX6_heardLoss_20 rfl (lv_at hl 0 rfl) ?_
          refine lv_iload hx hb dX6_heardLoss_21 (lv_at hl 4 rfl) ?_
          refine lv_iload_n hx hb dX6_heardLoss_23 rfl (lv_at hl 2 rfl) ?_
          obtain ⟨r_3, hc_4, hf⟩ := bd1_in hf
          refine rcI (va_runV (As := [.int l4, .int v2]) (rest := []) ⟨hx, hb, hml, hown, hw⟩ ((ctX6_isHeardFrom l G t_h t_a t_windows t_rest t_goal t_otherFrom t_otherTo t_least l4 v2 _ hc_4) _) (kV hw calX6_isHeardFrom kw_38_0 rfl rfl ⟨Nat.le_of_ble_eq_true rfl, Nat.le_of_ble_eq_true rfl⟩) (rpV (hP.sub (ws' := [oX6 t_h t_a t_windows t_goal t_otherFrom t_otherTo t_least, arI G (t_a 3) 12 t_rest]) [0, 1] rfl) hK (ci := 6) (q0 := 0) rfl rfl) rfl rfl hl.1 rfl (lv_room (Nat.le_of_ble_eq_true rfl)) dX6_heardLoss_24 ⟨Nat.zero_le _, Nat.zero_le _⟩) hS hA hP (fun H locs hP hS => ?_)
          refine lv_if_eq (tgt := 39) hx hb dX6_heardLoss_27 (by decide) (fun c_5 => ?_) (fun c_5 => ?_)
          · have hf := ip c_5 hf
            refine lv_iinc (v := (l4 + 1)) (lv' := [(4, .int (l4 + 1)), (0, .ref t_h), (1, .int v1), (2, .int v2), (3, .int l3)]) hx hb dX6_heardLoss_39 hl (k := 4) rfl (by rfl) (by decide) rfl (fun ls hl => ?_)
            refine lv_goto (tgt := 5) hx hb dX6_heardLoss_42 (by decide) ?_
            exact ih _ _ _ _ _ hP hS (lv_sub hl [1, 2, 3, 4, 0] rfl) hf hX
          · have hf := iq c_5 hf
            refine lv_iload_n hx hb dX6_heardLoss_30 rfl (lv_at hl 3 rfl) ?_
            refine lv_aload_n hx hb dX6_heardLoss_31 rfl (lv_at hl 0 rfl) ?_
            refine lv_iload hx hb dX6_heardLoss_32 (lv_at hl 4 rfl) ?_
            obtain ⟨r_6, hc_7, hf⟩ := bd1_in hf
            refine rcI (va_runV (As := [.int l4]) (rest := [.int l3]) ⟨hx, hb, hml, hown, hw⟩ ((ctX6_lossFrom l G t_h t_a t_windows t_rest t_goal t_otherFrom t_otherTo t_least l4 _ hc_7) _) (kV hw calX6_lossFrom kw_30_20 rfl rfl ⟨Nat.le_of_ble_eq_true rfl, Nat.le_of_ble_eq_true rfl⟩) (rpV (hP.sub (ws' := [oX6 t_h t_a t_windows t_goal t_otherFrom t_otherTo t_least, arI G (t_a 3) 12 t_rest]) [0, 1] rfl) hK (ci := 6) (q0 := 0) rfl rfl) rfl rfl hl.1 rfl (lv_room (Nat.le_of_ble_eq_true rfl)) dX6_heardLoss_34 ⟨Nat.zero_le _, Nat.zero_le _⟩) hS hA hP (fun H locs hP hS => ?_)
            refine lv_iadd hx hb dX6_heardLoss_37 ?_
            refine lv_topi (fun y_8 ey_8 => ?_)
            have hf := bnd_all hf y_8 ey_8
            refine lv_istore_n (lv' := [(3, .int y_8), (0, .ref t_h), (1, .int v1), (2, .int v2), (4, .int l4)]) hx hb dX6_heardLoss_38 rfl hl (by decide) rfl (fun ls hl => ?_)
            refine lv_iinc (v := (l4 + 1)) (lv' := [(4, .int (l4 + 1)), (3, .int y_8), (0, .ref t_h), (1, .int v1), (2, .int v2)]) hx hb dX6_heardLoss_39 hl (k := 4) rfl (by rfl) (by decide) rfl (fun ls hl => ?_)
            refine lv_goto (tgt := 5) hx hb dX6_heardLoss_42 (by decide) ?_
            exact ih _ _ _ _ _ hP hS (lv_sub hl [2, 3, 4, 1, 0] rfl) hf hX
  unfold fX6_heardLoss at hf
  refine lv_iconst (v := 0) hx hb dX6_heardLoss_0 (by decide) ?_
  refine lv_istore_n (lv' := [(3, .int 0), (0, .ref t_h), (1, .int v1), (2, .int v2)]) hx hb dX6_heardLoss_1 rfl hl (by decide) rfl (fun ls hl => ?_)
  refine lv_iconst (v := 0) hx hb dX6_heardLoss_2 (by decide) ?_
  refine lv_istore (lv' := [(4, .int 0), (3, .int 0), (0, .ref t_h), (1, .int v1), (2, .int v2)]) hx hb dX6_heardLoss_3 hl (by decide) rfl (fun ls hl => ?_)
  refine L5  _ _ _ _ _ _ _ hP hS (lv_sub hl [2, 3, 4, 1, 0] rfl) hf (fun w_9 H locs ls hP hS hl hf => ?_)
  refine lv_iload_n hx hb dX6_heardLoss_45 rfl (lv_at hl 0 rfl) ?_
  exact hRet _ _ _ _ _ hf hS dX6_heardLoss_46
theorem calX2_firstJoining : CalS yX2_firstJoining cX2_firstJoining 6 (some .int) 3 := ⟨⟨kw_39_0, kw_2_4, by decide +kernel⟩, kw_38_23⟩
set_option maxHeartbeats 8000000 in
set_option maxRecDepth 100000 in
theorem ctX2_firstJoining (l : Launch) (G : GT) (p0_h : Nat) (p0_a : Nat → Nat) (p0_windows : Int32) (p0_washes : Int32) (p0_damp : Int32) (p0_heard : Int32) (p0_lines : Int32) (p0_hour : Int32) (p0_strings : Int32) (p0_cans : Nat → Int32) (p0_washPairs : Nat → Int32) (p0_washHours : Nat → Int32) (p0_pairs : Nat → Int32) (v1 : Int32) (v2 : Int32) (r : Int32) (hf : fX2_firstJoining p0_windows p0_washes p0_hour p0_strings p0_cans p0_washPairs p0_washHours p0_pairs v1 v2 = some r) : RdI l yX2_firstJoining (Cond.code yX2_firstJoining cX2_firstJoining 6 (some .int)) { frames := 4, cells := 0, slots := 0, locals := 91 } G [.ref p0_h, .int v1, .int v2] [oX1 p0_h p0_a p0_windows p0_washes p0_damp p0_heard p0_lines p0_hour p0_strings, arI G (p0_a 7) 12 p0_cans, arI G (p0_a 8) 8 p0_washPairs, arI G (p0_a 9) 8 p0_washHours, arI G (p0_a 10) 21 p0_pairs] r := by
  intro sz
  refine Met.ofW (cc := cX2_firstJoining) (maxL := 6) (ret := (some .int)) (by decide) rfl ?_
  intro p e s m args below meth c s₁ B hml hv
  obtain ⟨hargs, hsz, hP, hK⟩ := hv
  subst hsz
  obtain ⟨hx, hb, hr, hw, hown, hlk⟩ := fwB B
  refine fw_enter hargs (Nat.le_of_ble_eq_true rfl) (fun ls hl => ?_)
  have hl : lv_has ls 6 [(0, .ref p0_h), (1, .int v1), (2, .int v2)] := hl
  refine fw_Q (P := fun Q => ∃ A : Nat → Prop, va_S A s.heap s.heap [] ∧ (∀ q, s.heap.size ≤ q → A q) ∧ ∀ (v : Int32) (H : Heap) (locs : List Loc) (pc : Nat) (ls : Array Slot), some v = some r → va_S A s.heap H locs → decode cX2_firstJoining pc = .ok (.ireturn, 1) → W p l e ({ frames := 4, cells := 0, slots := 0, locals := 91 } : Room) s m args below meth c H locs 0 0 Q (F0 m pc ls [.int v])) ⟨fun q => s.heap.size ≤ q, va_S.rf, fun q h => h, fun v H locs pc ls h hS hd => retRI hx hb hr hlk hS h hd⟩ ?_
  rintro Q ⟨A, hS, hA, hRet⟩
  change W p l e ({ frames := 4, cells := 0, slots := 0, locals := 91 } : Room) s m args below meth c _ _ 0 0 Q _
  have L15 : ∀ (l3 : Int32) (K : Option Int32) (n : Nat) (l4 : Int32) (H : Heap) (locs : List Loc) (ls : Array Slot), va_P G.1 vwCl [oX1 p0_h p0_a p0_windows p0_washes p0_damp p0_heard p0_lines p0_hour p0_strings, arI G (p0_a 7) 12 p0_cans, arI G (p0_a 8) 8 p0_washPairs, arI G (p0_a 9) 8 p0_washHours, arI G (p0_a 10) 21 p0_pairs] H → va_S A s.heap H locs → lv_has ls 6 [(0, .ref p0_h), (1, .int v1), (2, .int v2), (3, .int l3), (4, .int l4)] → fX2_firstJoining_15 v1 v2 l3 p0_windows p0_washes p0_hour p0_strings p0_cans p0_washPairs p0_washHours p0_pairs K n l4 = some r → (∀  (H : Heap) (locs : List Loc) (ls : Array Slot), va_P G.1 vwCl [oX1 p0_h p0_a p0_windows p0_washes p0_damp p0_heard p0_lines p0_hour p0_strings, arI G (p0_a 7) 12 p0_cans, arI G (p0_a 8) 8 p0_washPairs, arI G (p0_a 9) 8 p0_washHours, arI G (p0_a 10) 21 p0_pairs] H → va_S A s.heap H locs → lv_has ls 6 [(0, .ref p0_h), (1, .int v1), (2, .int v2), (3, .int l3)] → K = some r → W p l e ({ frames := 4, cells := 0, slots := 0, locals := 91 } : Room) s m args below meth c H locs 0 0 Q (F0 m 88 ls [])) → W p l e ({ frames := 4, cells := 0, slots := 0, locals := 91 } : Room) s m args below meth c H locs 0 0 Q (F0 m 15 ls []) := by
    intro l3 K n
    induction n with
    | zero => intro l4 H locs ls hP hS hl hf; rw [fX2_firstJoining_15] at hf; cases hf
    | succ n ih =>
      intro l4 H locs ls hP hS hl hf hX
      rw [fX2_firstJoining_15] at hf
      refine lv_iload hx hb dX2_firstJoining_15 (lv_at hl 4 rfl) ?_
      refine lv_aload_n hx hb dX2_firstJoining_17 rfl (lv_at hl 0 rfl) ?_
      refine va_getN (D := G.1) (ci := 1) (v := .int p0_windows) (C := RX1) (T := TX1) (N := 12) hx hb hw inW1 hown hK.1 hP 0 rfl rfl 0 (by decide) ((nf_4 hK.2).use rfl) (fun _ h9 => h9) rfl dX2_firstJoining_18 ?_
      refine lv_icmp_ge (tgt := 88) hx hb dX2_firstJoining_21 (by decide) (fun c_3 => ?_) (fun c_3 => ?_)
      · have hf := ip c_3 hf
        exact hX  _ _ _ hP hS (lv_sub hl [0, 1, 2, 3] rfl) hf
      · have hf := iq c_3 hf
        refine lv_iload_n hx hb dX2_firstJoining_24 rfl (lv_at hl 1 rfl) ?_
        refine lv_iload_n hx hb dX2_firstJoining_25 rfl (lv_at hl 3 rfl) ?_
        refine lv_ishr hx hb dX2_firstJoining_26 ?_
        refine lv_iload_n hx hb dX2_firstJoining_27 rfl (lv_at hl 2 rfl) ?_
        refine lv_iload hx hb dX2_firstJoining_28 (lv_at hl 4 rfl) ?_
        refine lv_ishr hx hb dX2_firstJoining_30 ?_
        refine lv_iand hx hb dX2_firstJoining_31 ?_
        refine lv_iconst (v := 1) hx hb dX2_firstJoining_32 (by decide) ?_
        refine lv_iand hx hb dX2_firstJoining_33 ?_
        refine jn_el hf (fun k_5 ek_5 hf => ?_)
        have J55 : ∀ (z_4 : Int32) (H : Heap) (locs : List Loc) (ls : Array Slot), va_P G.1 vwCl [oX1 p0_h p0_a p0_windows p0_washes p0_damp p0_heard p0_lines p0_hour p0_strings, arI G (p0_a 7) 12 p0_cans, arI G (p0_a 8) 8 p0_washPairs, arI G (p0_a 9) 8 p0_washHours, arI G (p0_a 10) 21 p0_pairs] H → va_S A s.heap H locs → lv_has ls 6 [(0, .ref p0_h), (1, .int v1), (2, .int v2), (3, .int l3), (4, .int l4)] → k_5 z_4 = some r → W p l e ({ frames := 4, cells := 0, slots := 0, locals := 91 } : Room) s m args below meth c H locs 0 0 Q (F0 m 55 ls [.int z_4]) := by
          intro z_4 H locs ls hP hS hl hf
          rw [ek_5] at hf
          refine lv_istore (lv' := [(5, .int z_4), (0, .ref p0_h), (1, .int v1), (2, .int v2), (3, .int l3), (4, .int l4)]) hx hb dX2_firstJoining_55 hl (by decide) rfl (fun ls hl => ?_)
          refine lv_iload hx hb dX2_firstJoining_57 (lv_at hl 0 rfl) ?_
          refine lv_if_eq (tgt := 82) hx hb dX2_firstJoining_59 (by decide) (fun c_6 => ?_) (fun c_6 => ?_)
          · have hf := ip c_6 hf
            refine lv_iinc (v := (l4 + 1)) (lv' := [(4, .int (l4 + 1)), (5, .int z_4), (0, .ref p0_h), (1, .int v1), (2, .int v2), (3, .int l3)]) hx hb dX2_firstJoining_82 hl (k := 5) rfl (by rfl) (by decide) rfl (fun ls hl => ?_)
            refine lv_goto (tgt := 15) hx hb dX2_firstJoining_85 (by decide) ?_
            exact ih _ _ _ _ hP hS (lv_sub hl [2, 3, 4, 5, 0] rfl) hf hX
          · have hf := iq c_6 hf
            refine lv_aload_n hx hb dX2_firstJoining_62 rfl (lv_at hl 1 rfl) ?_
            refine lv_iload_n hx hb dX2_firstJoining_63 rfl (lv_at hl 4 rfl) ?_
            refine lv_iload hx hb dX2_firstJoining_64 (lv_at hl 5 rfl) ?_
            obtain ⟨r_7, hc_8, hf⟩ := bd1_in hf
            refine rcI (va_runSN (As := [.int l3, .int l4]) (rest := [.ref p0_h]) ⟨hx, hb, hml, hown, hw⟩ ((ctX7_pairOf l G l3 l4 _ hc_8) _) (kSN hw calX7_pairOf (nm_13 hK.2) rfl rfl ⟨Nat.le_of_ble_eq_true rfl, Nat.le_of_ble_eq_true rfl⟩) (rpS (hP.sub (ws' := []) [] rfl) hK) rfl rfl hl.1 rfl (lv_room (Nat.le_of_ble_eq_true rfl)) dX2_firstJoining_66 ⟨Nat.zero_le _, Nat.zero_le _⟩) hS hA hP (fun H locs hP hS => ?_)
            obtain ⟨r_9, hc_10, hf⟩ := bd1_in hf
            refine rcI (va_runV (As := [.int r_7]) (rest := []) ⟨hx, hb, hml, hown, hw⟩ ((ctX1_mayBeTaut l G p0_h p0_a p0_windows p0_washes p0_damp p0_heard p0_lines p0_hour p0_strings p0_cans p0_washPairs p0_washHours p0_pairs r_7 _ hc_10) _) (kV hw calX1_mayBeTaut kw_39_1 rfl rfl ⟨Nat.le_of_ble_eq_true rfl, Nat.le_of_ble_eq_true rfl⟩) (rpV (hP.sub (ws' := [oX1 p0_h p0_a p0_windows p0_washes p0_damp p0_heard p0_lines p0_hour p0_strings, arI G (p0_a 7) 12 p0_cans, arI G (p0_a 8) 8 p0_washPairs, arI G (p0_a 9) 8 p0_washHours, arI G (p0_a 10) 21 p0_pairs]) [0, 1, 2, 3, 4] rfl) hK (ci := 1) (q0 := 0) rfl rfl) rfl rfl hl.1 rfl (lv_room (Nat.le_of_ble_eq_true rfl)) dX2_firstJoining_69 ⟨Nat.zero_le _, Nat.zero_le _⟩) hS hA hP (fun H locs hP hS => ?_)
            refine lv_if_eq (tgt := 82) hx hb dX2_firstJoining_72 (by decide) (fun c_11 => ?_) (fun c_11 => ?_)
            · have hf := ip c_11 hf
              refine lv_iinc (v := (l4 + 1)) (lv' := [(4, .int (l4 + 1)), (5, .int z_4), (0, .ref p0_h), (1, .int v1), (2, .int v2), (3, .int l3)]) hx hb dX2_firstJoining_82 hl (k := 5) rfl (by rfl) (by decide) rfl (fun ls hl => ?_)
              refine lv_goto (tgt := 15) hx hb dX2_firstJoining_85 (by decide) ?_
              exact ih _ _ _ _ hP hS (lv_sub hl [2, 3, 4, 5, 0] rfl) hf hX
            · have hf := iq c_11 hf
              refine lv_iload_n hx hb dX2_firstJoining_75 rfl (lv_at hl 4 rfl) ?_
              refine lv_iload hx hb dX2_firstJoining_76 (lv_at hl 5 rfl) ?_
              obtain ⟨r_12, hc_13, hf⟩ := bd1_in hf
              refine rcI (va_runSN (As := [.int l3, .int l4]) (rest := []) ⟨hx, hb, hml, hown, hw⟩ ((ctX7_pairOf l G l3 l4 _ hc_13) _) (kSN hw calX7_pairOf (nm_13 hK.2) rfl rfl ⟨Nat.le_of_ble_eq_true rfl, Nat.le_of_ble_eq_true rfl⟩) (rpS (hP.sub (ws' := []) [] rfl) hK) rfl rfl hl.1 rfl (lv_room (Nat.le_of_ble_eq_true rfl)) dX2_firstJoining_78 ⟨Nat.zero_le _, Nat.zero_le _⟩) hS hA hP (fun H locs hP hS => ?_)
              exact hRet _ _ _ _ _ hf hS dX2_firstJoining_81
        refine lv_if_ne (tgt := 50) hx hb dX2_firstJoining_34 (by decide) (fun c_14 => ?_) (fun c_14 => ?_)
        · have hf := iq c_14 hf
          refine lv_iconst (v := 1) hx hb dX2_firstJoining_50 (by decide) ?_
          refine lv_goto (tgt := 55) hx hb dX2_firstJoining_51 (by decide) ?_
          exact J55 _ _ _ _ hP hS (lv_sub hl [0, 1, 2, 3, 4] rfl) hf
        · have hf := ip c_14 hf
          refine lv_iload_n hx hb dX2_firstJoining_37 rfl (lv_at hl 1 rfl) ?_
          refine lv_iload hx hb dX2_firstJoining_38 (lv_at hl 4 rfl) ?_
          refine lv_ishr hx hb dX2_firstJoining_40 ?_
          refine lv_iload_n hx hb dX2_firstJoining_41 rfl (lv_at hl 2 rfl) ?_
          refine lv_iload_n hx hb dX2_firstJoining_42 rfl (lv_at hl 3 rfl) ?_
          refine lv_ishr hx hb dX2_firstJoining_43 ?_
          refine lv_iand hx hb dX2_firstJoining_44 ?_
          refine lv_iconst (v := 1) hx hb dX2_firstJoining_45 (by decide) ?_
          refine lv_iand hx hb dX2_firstJoining_46 ?_
          refine lv_if_eq (tgt := 54) hx hb dX2_firstJoining_47 (by decide) (fun c_15 => ?_) (fun c_15 => ?_)
          · have hf := ip c_15 hf
            refine lv_iconst (v := 0) hx hb dX2_firstJoining_54 (by decide) ?_
            exact J55 _ _ _ _ hP hS (lv_sub hl [0, 1, 2, 3, 4] rfl) hf
          · have hf := iq c_15 hf
            refine lv_iconst (v := 1) hx hb dX2_firstJoining_50 (by decide) ?_
            refine lv_goto (tgt := 55) hx hb dX2_firstJoining_51 (by decide) ?_
            exact J55 _ _ _ _ hP hS (lv_sub hl [0, 1, 2, 3, 4] rfl) hf
  have L2 : ∀  (K : Option Int32) (n : Nat) (l3 : Int32) (H : Heap) (locs : List Loc) (ls : Array Slot), va_P G.1 vwCl [oX1 p0_h p0_a p0_windows p0_washes p0_damp p0_heard p0_lines p0_hour p0_strings, arI G (p0_a 7) 12 p0_cans, arI G (p0_a 8) 8 p0_washPairs, arI G (p0_a 9) 8 p0_washHours, arI G (p0_a 10) 21 p0_pairs] H → va_S A s.heap H locs → lv_has ls 6 [(0, .ref p0_h), (1, .int v1), (2, .int v2), (3, .int l3)] → fX2_firstJoining_2 v1 v2 p0_windows p0_washes p0_hour p0_strings p0_cans p0_washPairs p0_washHours p0_pairs K n l3 = some r → (∀  (H : Heap) (locs : List Loc) (ls : Array Slot), va_P G.1 vwCl [oX1 p0_h p0_a p0_windows p0_washes p0_damp p0_heard p0_lines p0_hour p0_strings, arI G (p0_a 7) 12 p0_cans, arI G (p0_a 8) 8 p0_washPairs, arI G (p0_a 9) 8 p0_washHours, arI G (p0_a 10) 21 p0_pairs] H → va_S A s.heap H locs → lv_has ls 6 [] → K = some r → W p l e ({ frames := 4, cells := 0, slots := 0, locals := 91 } : Room) s m args below meth c H locs 0 0 Q (F0 m 94 ls [])) → W p l e ({ frames := 4, cells := 0, slots := 0, locals := 91 } : Room) s m args below meth c H locs 0 0 Q (F0 m 2 ls []) := by
    intro  K n
    induction n with
    | zero => intro l3 H locs ls hP hS hl hf; rw [fX2_firstJoining_2] at hf; cases hf
    | succ n ih =>
      intro l3 H locs ls hP hS hl hf hX
      rw [fX2_firstJoining_2] at hf
      refine lv_iload_n hx hb dX2_firstJoining_2 rfl (lv_at hl 3 rfl) ?_
      refine lv_aload_n hx hb dX2_firstJoining_3 rfl (lv_at hl 0 rfl) ?_
      refine va_getN (D := G.1) (ci := 1) (v := .int p0_windows) (C := RX1) (T := TX1) (N := 12) hx hb hw inW1 hown hK.1 hP 0 rfl rfl 0 (by decide) ((nf_4 hK.2).use rfl) (fun _ h9 => h9) rfl dX2_firstJoining_4 ?_
      refine lv_icmp_ge (tgt := 94) hx hb dX2_firstJoining_7 (by decide) (fun c_1 => ?_) (fun c_1 => ?_)
      · have hf := ip c_1 hf
        exact hX  _ _ _ hP hS (lv_sub hl [] rfl) hf
      · have hf := iq c_1 hf
        refine lv_iload_n hx hb dX2_firstJoining_10 rfl (lv_at hl 3 rfl) ?_
        refine lv_iconst (v := 1) hx hb dX2_firstJoining_11 (by decide) ?_
        refine lv_iadd hx hb dX2_firstJoining_12 ?_
        refine lv_topi (fun y_2 ey_2 => ?_)
        have hf := bnd_all hf y_2 ey_2
        refine lv_istore (lv' := [(4, .int y_2), (0, .ref p0_h), (1, .int v1), (2, .int v2), (3, .int l3)]) hx hb dX2_firstJoining_13 hl (by decide) rfl (fun ls hl => ?_)
        refine L15 _ _ _ _ _ _ _ hP hS (lv_sub hl [1, 2, 3, 4, 0] rfl) hf (fun  H locs ls hP hS hl hf => ?_)
        refine lv_iinc (v := (l3 + 1)) (lv' := [(3, .int (l3 + 1)), (0, .ref p0_h), (1, .int v1), (2, .int v2)]) hx hb dX2_firstJoining_88 hl (k := 3) rfl (by rfl) (by decide) rfl (fun ls hl => ?_)
        refine lv_goto (tgt := 2) hx hb dX2_firstJoining_91 (by decide) ?_
        exact ih _ _ _ _ hP hS (lv_sub hl [1, 2, 3, 0] rfl) hf hX
  unfold fX2_firstJoining at hf
  refine lv_iconst (v := 0) hx hb dX2_firstJoining_0 (by decide) ?_
  refine lv_istore_n (lv' := [(3, .int 0), (0, .ref p0_h), (1, .int v1), (2, .int v2)]) hx hb dX2_firstJoining_1 rfl hl (by decide) rfl (fun ls hl => ?_)
  refine L2  _ _ _ _ _ _ hP hS (lv_sub hl [1, 2, 3, 0] rfl) hf (fun  H locs ls hP hS hl hf => ?_)
  refine lv_iconst (v := (-1)) hx hb dX2_firstJoining_94 (by decide) ?_
  exact hRet _ _ _ _ _ hf hS dX2_firstJoining_95
theorem calX2_seekTwo : CalV yX2_seekTwo cX2_seekTwo 7 none 4 := ⟨⟨kw_39_5, kw_2_4, by decide +kernel⟩, kw_39_3, kw_39_4⟩
set_option maxHeartbeats 8000000 in
set_option maxRecDepth 100000 in
theorem ctX2_seekTwo (l : Launch) (G : GT) (t_h : Nat) (t_a : Nat → Nat) (p1_h : Nat) (p1_a : Nat → Nat) (p2_h : Nat) (p2_a : Nat → Nat) (t_size : Int32) (t_first : Int32) (t_second : Int32) (p1_windows : Int32) (p1_washes : Int32) (p1_damp : Int32) (p1_heard : Int32) (p1_lines : Int32) (p1_hour : Int32) (p1_strings : Int32) (p1_cans : Nat → Int32) (p1_washPairs : Nat → Int32) (p1_washHours : Nat → Int32) (p1_pairs : Nat → Int32) (p1_knots : Nat → Int32) (p2_windows : Int32) (p2_links : Nat → Int32) (p2_goal : Int32) (p2_otherFrom : Int32) (p2_otherTo : Int32) (p2_least : Int32) (v3 : Int32) (v4 : Int32) (o_t_size : Int32) (o_t_first : Int32) (o_t_second : Int32) (o_p1_strings : Int32) (o_p1_pairs : Nat → Int32) (o_p1_knots : Nat → Int32) (o_p2_links : Nat → Int32) (hf : fX2_seekTwo t_size t_first t_second p1_windows p1_washes p1_hour p1_strings p1_cans p1_washPairs p1_washHours p1_pairs p1_knots p2_windows p2_links v3 v4 = some (o_t_size, o_t_first, o_t_second, o_p1_strings, o_p1_pairs, o_p1_knots, o_p2_links)) : WrV l yX2_seekTwo (Cond.code yX2_seekTwo cX2_seekTwo 7 none) { frames := 5, cells := 0, slots := 0, locals := 116 } G [.ref t_h, .ref p1_h, .ref p2_h, .int v3, .int v4] [oX2 t_h t_a t_size t_first t_second, oX1 p1_h p1_a p1_windows p1_washes p1_damp p1_heard p1_lines p1_hour p1_strings, arI G (p1_a 7) 12 p1_cans, arI G (p1_a 8) 8 p1_washPairs, arI G (p1_a 9) 8 p1_washHours, arI G (p1_a 10) 21 p1_pairs, arI G (p1_a 11) 21 p1_knots, oX6 p2_h p2_a p2_windows p2_goal p2_otherFrom p2_otherTo p2_least, arI G (p2_a 1) 12 p2_links] [oX2 t_h t_a o_t_size o_t_first o_t_second, oX1 p1_h p1_a p1_windows p1_washes p1_damp p1_heard p1_lines p1_hour o_p1_strings, arI G (p1_a 7) 12 p1_cans, arI G (p1_a 8) 8 p1_washPairs, arI G (p1_a 9) 8 p1_washHours, arI G (p1_a 10) 21 o_p1_pairs, arI G (p1_a 11) 21 o_p1_knots, oX6 p2_h p2_a p2_windows p2_goal p2_otherFrom p2_otherTo p2_least, arI G (p2_a 1) 12 o_p2_links] := by
  intro sz
  refine Met.ofW (cc := cX2_seekTwo) (maxL := 7) (ret := none) (by decide) rfl ?_
  intro p e s m args below meth c s₁ B hml hv
  obtain ⟨hargs, hsz, hP, hD0, hK⟩ := hv
  subst hsz
  obtain ⟨hx, hb, hr, hw, hown, hlk⟩ := fwB B
  refine fw_enter hargs (Nat.le_of_ble_eq_true rfl) (fun ls hl => ?_)
  have hl : lv_has ls 7 [(0, .ref t_h), (1, .ref p1_h), (2, .ref p2_h), (3, .int v3), (4, .int v4)] := hl
  refine fw_Q (P := fun Q => ∃ A : Nat → Prop, va_D A [oX2 t_h t_a t_size t_first t_second, oX1 p1_h p1_a p1_windows p1_washes p1_damp p1_heard p1_lines p1_hour p1_strings, arI G (p1_a 7) 12 p1_cans, arI G (p1_a 8) 8 p1_washPairs, arI G (p1_a 9) 8 p1_washHours, arI G (p1_a 10) 21 p1_pairs, arI G (p1_a 11) 21 p1_knots, oX6 p2_h p2_a p2_windows p2_goal p2_otherFrom p2_otherTo p2_least, arI G (p2_a 1) 12 p2_links] ∧ va_S A s.heap s.heap [] ∧ (∀ q, s.heap.size ≤ q → A q) ∧ ∀ (n_t_size : Int32) (n_t_first : Int32) (n_t_second : Int32) (n_p1_strings : Int32) (n_p1_pairs : Nat → Int32) (n_p1_knots : Nat → Int32) (n_p2_links : Nat → Int32) (H : Heap) (locs : List Loc) (pc : Nat) (ls : Array Slot), some (n_t_size, n_t_first, n_t_second, n_p1_strings, n_p1_pairs, n_p1_knots, n_p2_links) = some (o_t_size, o_t_first, o_t_second, o_p1_strings, o_p1_pairs, o_p1_knots, o_p2_links) → va_P G.1 vwCl [oX2 t_h t_a n_t_size n_t_first n_t_second, oX1 p1_h p1_a p1_windows p1_washes p1_damp p1_heard p1_lines p1_hour n_p1_strings, arI G (p1_a 7) 12 p1_cans, arI G (p1_a 8) 8 p1_washPairs, arI G (p1_a 9) 8 p1_washHours, arI G (p1_a 10) 21 n_p1_pairs, arI G (p1_a 11) 21 n_p1_knots, oX6 p2_h p2_a p2_windows p2_goal p2_otherFrom p2_otherTo p2_least, arI G (p2_a 1) 12 n_p2_links] H → va_S A s.heap H locs → decode cX2_seekTwo pc = .ok (.return_, 1) → W p l e ({ frames := 5, cells := 0, slots := 0, locals := 116 } : Room) s m args below meth c H locs 0 0 Q (F0 m pc ls [])) ⟨va_A [oX2 t_h t_a t_size t_first t_second, oX1 p1_h p1_a p1_windows p1_washes p1_damp p1_heard p1_lines p1_hour p1_strings, arI G (p1_a 7) 12 p1_cans, arI G (p1_a 8) 8 p1_washPairs, arI G (p1_a 9) 8 p1_washHours, arI G (p1_a 10) 21 p1_pairs, arI G (p1_a 11) 21 p1_knots, oX6 p2_h p2_a p2_windows p2_goal p2_otherFrom p2_otherTo p2_least, arI G (p2_a 1) 12 p2_links] s.heap.size, hD0.self (sz := s.heap.size), va_S.rf, fun q h => Or.inr h, ?_⟩ ?_
  · intro n_t_size n_t_first n_t_second n_p1_strings n_p1_pairs n_p1_knots n_p2_links H locs pc ls h hP hS hd
    cases h
    exact retWV hx hb hr hlk hS hP hd
  rintro Q ⟨A, hD, hS, hA, hRet⟩
  change W p l e ({ frames := 5, cells := 0, slots := 0, locals := 116 } : Room) s m args below meth c _ _ 0 0 Q _
  have L18 : ∀ (l5 : Int32) (t_size : Int32) (t_first : Int32) (K : Int32 → Int32 → (Nat → Int32) → (Nat → Int32) → (Nat → Int32) → Option (Int32 × Int32 × Int32 × Int32 × (Nat → Int32) × (Nat → Int32) × (Nat → Int32))) (n : Nat) (l6 : Int32) (t_second : Int32) (p1_strings : Int32) (p1_pairs : Nat → Int32) (p1_knots : Nat → Int32) (p2_links : Nat → Int32) (H : Heap) (locs : List Loc) (ls : Array Slot), va_P G.1 vwCl [oX2 t_h t_a t_size t_first t_second, oX1 p1_h p1_a p1_windows p1_washes p1_damp p1_heard p1_lines p1_hour p1_strings, arI G (p1_a 7) 12 p1_cans, arI G (p1_a 8) 8 p1_washPairs, arI G (p1_a 9) 8 p1_washHours, arI G (p1_a 10) 21 p1_pairs, arI G (p1_a 11) 21 p1_knots, oX6 p2_h p2_a p2_windows p2_goal p2_otherFrom p2_otherTo p2_least, arI G (p2_a 1) 12 p2_links] H → va_D A [oX2 t_h t_a t_size t_first t_second, oX1 p1_h p1_a p1_windows p1_washes p1_damp p1_heard p1_lines p1_hour p1_strings, arI G (p1_a 7) 12 p1_cans, arI G (p1_a 8) 8 p1_washPairs, arI G (p1_a 9) 8 p1_washHours, arI G (p1_a 10) 21 p1_pairs, arI G (p1_a 11) 21 p1_knots, oX6 p2_h p2_a p2_windows p2_goal p2_otherFrom p2_otherTo p2_least, arI G (p2_a 1) 12 p2_links] → va_S A s.heap H locs → lv_has ls 7 [(0, .ref t_h), (1, .ref p1_h), (2, .ref p2_h), (3, .int v3), (4, .int v4), (5, .int l5), (6, .int l6)] → fX2_seekTwo_18 v3 v4 l5 p1_windows p1_washes p1_hour p1_cans p1_washPairs p1_washHours p2_windows K n l6 t_second p1_strings p1_pairs p1_knots p2_links = some (o_t_size, o_t_first, o_t_second, o_p1_strings, o_p1_pairs, o_p1_knots, o_p2_links) → (∀ (kt_second : Int32) (kp1_strings : Int32) (kp1_pairs : Nat → Int32) (kp1_knots : Nat → Int32) (kp2_links : Nat → Int32) (H : Heap) (locs : List Loc) (ls : Array Slot), va_P G.1 vwCl [oX2 t_h t_a t_size t_first kt_second, oX1 p1_h p1_a p1_windows p1_washes p1_damp p1_heard p1_lines p1_hour kp1_strings, arI G (p1_a 7) 12 p1_cans, arI G (p1_a 8) 8 p1_washPairs, arI G (p1_a 9) 8 p1_washHours, arI G (p1_a 10) 21 kp1_pairs, arI G (p1_a 11) 21 kp1_knots, oX6 p2_h p2_a p2_windows p2_goal p2_otherFrom p2_otherTo p2_least, arI G (p2_a 1) 12 kp2_links] H → va_D A [oX2 t_h t_a t_size t_first kt_second, oX1 p1_h p1_a p1_windows p1_washes p1_damp p1_heard p1_lines p1_hour kp1_strings, arI G (p1_a 7) 12 p1_cans, arI G (p1_a 8) 8 p1_washPairs, arI G (p1_a 9) 8 p1_washHours, arI G (p1_a 10) 21 kp1_pairs, arI G (p1_a 11) 21 kp1_knots, oX6 p2_h p2_a p2_windows p2_goal p2_otherFrom p2_otherTo p2_least, arI G (p2_a 1) 12 kp2_links] → va_S A s.heap H locs → lv_has ls 7 [(0, .ref t_h), (1, .ref p1_h), (2, .ref p2_h), (3, .int v3), (4, .int v4), (5, .int l5)] → K kt_second kp1_strings kp1_pairs kp1_knots kp2_links = some (o_t_size, o_t_first, o_t_second, o_p1_strings, o_p1_pairs, o_p1_knots, o_p2_links) → W p l e ({ frames := 5, cells := 0, slots := 0, locals := 116 } : Room) s m args below meth c H locs 0 0 Q (F0 m 137 ls [])) → W p l e ({ frames := 5, cells := 0, slots := 0, locals := 116 } : Room) s m args below meth c H locs 0 0 Q (F0 m 18 ls []) := by
    intro l5 t_size t_first K n
    induction n with
    | zero => intro l6 t_second p1_strings p1_pairs p1_knots p2_links H locs ls hP hD hS hl hf; rw [fX2_seekTwo_18] at hf; cases hf
    | succ n ih =>
      intro l6 t_second p1_strings p1_pairs p1_knots p2_links H locs ls hP hD hS hl hf hX
      rw [fX2_seekTwo_18] at hf
      refine lv_iload hx hb dX2_seekTwo_18 (lv_at hl 6 rfl) ?_
      refine lv_aload_n hx hb dX2_seekTwo_20 rfl (lv_at hl 1 rfl) ?_
      refine va_getN (D := G.1) (ci := 1) (v := .int p1_windows) (C := RX1) (T := TX1) (N := 12) hx hb hw inW1 hown hK.1 hP 1 rfl rfl 0 (by decide) ((nf_4 hK.2).use rfl) (fun _ h9 => h9) rfl dX2_seekTwo_21 ?_
      refine lv_icmp_ge (tgt := 137) hx hb dX2_seekTwo_24 (by decide) (fun c_3 => ?_) (fun c_3 => ?_)
      · have hf := ip c_3 hf
        exact hX _ _ _ _ _ _ _ _ hP hD hS (lv_sub hl [0, 1, 2, 3, 4, 5] rfl) hf
      · have hf := iq c_3 hf
        refine lv_aload_n hx hb dX2_seekTwo_27 rfl (lv_at hl 1 rfl) ?_
        refine lv_iload hx hb dX2_seekTwo_28 (lv_at hl 5 rfl) ?_
        refine lv_iload hx hb dX2_seekTwo_30 (lv_at hl 6 rfl) ?_
        obtain ⟨r_4, hc_5, hf⟩ := bd1_in hf
        refine rcI (va_runSN (As := [.int l5, .int l6]) (rest := [.ref p1_h]) ⟨hx, hb, hml, hown, hw⟩ ((ctX7_pairOf l G l5 l6 _ hc_5) _) (kSN hw calX7_pairOf (nm_13 hK.2) rfl rfl ⟨Nat.le_of_ble_eq_true rfl, Nat.le_of_ble_eq_true rfl⟩) (rpS (hP.sub (ws' := []) [] rfl) hK) rfl rfl hl.1 rfl (lv_room (Nat.le_of_ble_eq_true rfl)) dX2_seekTwo_32 ⟨Nat.zero_le _, Nat.zero_le _⟩) hS hA hP (fun H locs hP hS => ?_)
        obtain ⟨r_6, hc_7, hf⟩ := bd1_in hf
        refine rcI (va_runV (As := [.int r_4]) (rest := []) ⟨hx, hb, hml, hown, hw⟩ ((ctX1_mayBeTaut l G p1_h p1_a p1_windows p1_washes p1_damp p1_heard p1_lines p1_hour p1_strings p1_cans p1_washPairs p1_washHours p1_pairs r_4 _ hc_7) _) (kV hw calX1_mayBeTaut kw_39_1 rfl rfl ⟨Nat.le_of_ble_eq_true rfl, Nat.le_of_ble_eq_true rfl⟩) (rpV (hP.sub (ws' := [oX1 p1_h p1_a p1_windows p1_washes p1_damp p1_heard p1_lines p1_hour p1_strings, arI G (p1_a 7) 12 p1_cans, arI G (p1_a 8) 8 p1_washPairs, arI G (p1_a 9) 8 p1_washHours, arI G (p1_a 10) 21 p1_pairs]) [1, 2, 3, 4, 5] rfl) hK (ci := 1) (q0 := 0) rfl rfl) rfl rfl hl.1 rfl (lv_room (Nat.le_of_ble_eq_true rfl)) dX2_seekTwo_35 ⟨Nat.zero_le _, Nat.zero_le _⟩) hS hA hP (fun H locs hP hS => ?_)
        refine lv_if_ne (tgt := 44) hx hb dX2_seekTwo_38 (by decide) (fun c_8 => ?_) (fun c_8 => ?_)
        · have hf := iq c_8 hf
          refine lv_aload_n hx hb dX2_seekTwo_44 rfl (lv_at hl 1 rfl) ?_
          refine lv_iload hx hb dX2_seekTwo_45 (lv_at hl 5 rfl) ?_
          refine lv_iload hx hb dX2_seekTwo_47 (lv_at hl 6 rfl) ?_
          obtain ⟨r_9, hc_10, hf⟩ := bd1_in hf
          refine rcI (va_runSN (As := [.int l5, .int l6]) (rest := [.ref p1_h]) ⟨hx, hb, hml, hown, hw⟩ ((ctX7_pairOf l G l5 l6 _ hc_10) _) (kSN hw calX7_pairOf (nm_13 hK.2) rfl rfl ⟨Nat.le_of_ble_eq_true rfl, Nat.le_of_ble_eq_true rfl⟩) (rpS (hP.sub (ws' := []) [] rfl) hK) rfl rfl hl.1 rfl (lv_room (Nat.le_of_ble_eq_true rfl)) dX2_seekTwo_49 ⟨Nat.zero_le _, Nat.zero_le _⟩) hS hA hP (fun H locs hP hS => ?_)
          refine lv_iconst (v := 0) hx hb dX2_seekTwo_52 (by decide) ?_
          obtain ⟨p1_strings_11, p1_pairs_12, p1_knots_13, hc_14, hf⟩ := bd3_in hf
          refine wcV (w1 := [oX1 p1_h p1_a p1_windows p1_washes p1_damp p1_heard p1_lines p1_hour p1_strings_11, arI G (p1_a 10) 21 p1_pairs_12, arI G (p1_a 11) 21 p1_knots_13]) (va_runV (As := [.int r_9, .int 0]) (rest := []) ⟨hx, hb, hml, hown, hw⟩ ((ctX1_addString l G p1_h p1_a p1_windows p1_washes p1_damp p1_heard p1_lines p1_hour p1_strings p1_pairs p1_knots r_9 0 _ _ _ hc_14) _) (kV hw calX1_addString kw_39_6 rfl rfl ⟨Nat.le_of_ble_eq_true rfl, Nat.le_of_ble_eq_true rfl⟩) (wpV (hP.sub (ws' := [oX1 p1_h p1_a p1_windows p1_washes p1_damp p1_heard p1_lines p1_hour p1_strings, arI G (p1_a 10) 21 p1_pairs, arI G (p1_a 11) 21 p1_knots]) [1, 5, 6] rfl) (hD.sub (ws' := [oX1 p1_h p1_a p1_windows p1_washes p1_damp p1_heard p1_lines p1_hour p1_strings, arI G (p1_a 10) 21 p1_pairs, arI G (p1_a 11) 21 p1_knots]) [1, 5, 6] (by decide) rfl) hK (ci := 1) (q0 := 0) rfl rfl) rfl rfl hl.1 rfl (lv_room (Nat.le_of_ble_eq_true rfl)) dX2_seekTwo_53 ⟨Nat.zero_le _, Nat.zero_le _⟩) hS hA hP hD [1, 5, 6] rfl rfl (fun H locs hP hD hS => ?_)
          have hP : va_P G.1 vwCl [oX2 t_h t_a t_size t_first t_second, oX1 p1_h p1_a p1_windows p1_washes p1_damp p1_heard p1_lines p1_hour p1_strings_11, arI G (p1_a 7) 12 p1_cans, arI G (p1_a 8) 8 p1_washPairs, arI G (p1_a 9) 8 p1_washHours, arI G (p1_a 10) 21 p1_pairs_12, arI G (p1_a 11) 21 p1_knots_13, oX6 p2_h p2_a p2_windows p2_goal p2_otherFrom p2_otherTo p2_least, arI G (p2_a 1) 12 p2_links] H := hP
          have hD : va_D A [oX2 t_h t_a t_size t_first t_second, oX1 p1_h p1_a p1_windows p1_washes p1_damp p1_heard p1_lines p1_hour p1_strings_11, arI G (p1_a 7) 12 p1_cans, arI G (p1_a 8) 8 p1_washPairs, arI G (p1_a 9) 8 p1_washHours, arI G (p1_a 10) 21 p1_pairs_12, arI G (p1_a 11) 21 p1_knots_13, oX6 p2_h p2_a p2_windows p2_goal p2_otherFrom p2_otherTo p2_least, arI G (p2_a 1) 12 p2_links] := hD
          refine lv_aload_n hx hb dX2_seekTwo_56 rfl (lv_at hl 2 rfl) ?_
          refine lv_iload hx hb dX2_seekTwo_57 (lv_at hl 5 rfl) ?_
          refine lv_iload hx hb dX2_seekTwo_59 (lv_at hl 6 rfl) ?_
          obtain ⟨p2_links_15, hc_16, hf⟩ := bd1_in hf
          refine wcV (w1 := [oX6 p2_h p2_a p2_windows p2_goal p2_otherFrom p2_otherTo p2_least, arI G (p2_a 1) 12 p2_links_15]) (va_runV (As := [.int l5, .int l6]) (rest := []) ⟨hx, hb, hml, hown, hw⟩ ((ctX6_join l G p2_h p2_a p2_windows p2_links p2_goal p2_otherFrom p2_otherTo p2_least l5 l6 _ hc_16) _) (kV hw calX6_join kw_39_7 rfl rfl ⟨Nat.le_of_ble_eq_true rfl, Nat.le_of_ble_eq_true rfl⟩) (wpV (hP.sub (ws' := [oX6 p2_h p2_a p2_windows p2_goal p2_otherFrom p2_otherTo p2_least, arI G (p2_a 1) 12 p2_links]) [7, 8] rfl) (hD.sub (ws' := [oX6 p2_h p2_a p2_windows p2_goal p2_otherFrom p2_otherTo p2_least, arI G (p2_a 1) 12 p2_links]) [7, 8] (by decide) rfl) hK (ci := 6) (q0 := 0) rfl rfl) rfl rfl hl.1 rfl (lv_room (Nat.le_of_ble_eq_true rfl)) dX2_seekTwo_61 ⟨Nat.zero_le _, Nat.zero_le _⟩) hS hA hP hD [7, 8] rfl rfl (fun H locs hP hD hS => ?_)
          have hP : va_P G.1 vwCl [oX2 t_h t_a t_size t_first t_second, oX1 p1_h p1_a p1_windows p1_washes p1_damp p1_heard p1_lines p1_hour p1_strings_11, arI G (p1_a 7) 12 p1_cans, arI G (p1_a 8) 8 p1_washPairs, arI G (p1_a 9) 8 p1_washHours, arI G (p1_a 10) 21 p1_pairs_12, arI G (p1_a 11) 21 p1_knots_13, oX6 p2_h p2_a p2_windows p2_goal p2_otherFrom p2_otherTo p2_least, arI G (p2_a 1) 12 p2_links_15] H := hP
          have hD : va_D A [oX2 t_h t_a t_size t_first t_second, oX1 p1_h p1_a p1_windows p1_washes p1_damp p1_heard p1_lines p1_hour p1_strings_11, arI G (p1_a 7) 12 p1_cans, arI G (p1_a 8) 8 p1_washPairs, arI G (p1_a 9) 8 p1_washHours, arI G (p1_a 10) 21 p1_pairs_12, arI G (p1_a 11) 21 p1_knots_13, oX6 p2_h p2_a p2_windows p2_goal p2_otherFrom p2_otherTo p2_least, arI G (p2_a 1) 12 p2_links_15] := hD
          refine lv_aload_n hx hb dX2_seekTwo_64 rfl (lv_at hl 0 rfl) ?_
          refine lv_aload_n hx hb dX2_seekTwo_65 rfl (lv_at hl 1 rfl) ?_
          refine lv_aload_n hx hb dX2_seekTwo_66 rfl (lv_at hl 2 rfl) ?_
          refine lv_iload_n hx hb dX2_seekTwo_67 rfl (lv_at hl 3 rfl) ?_
          obtain ⟨r_17, hc_18, hf⟩ := bd1_in hf
          refine rcI (va_runV (As := [.int v3]) (rest := [.ref p1_h, .ref t_h]) ⟨hx, hb, hml, hown, hw⟩ ((ctX6_reachOf l G p2_h p2_a p2_windows p2_links_15 p2_goal p2_otherFrom p2_otherTo p2_least v3 _ hc_18) _) (kV hw calX6_reachOf kw_38_21 rfl rfl ⟨Nat.le_of_ble_eq_true rfl, Nat.le_of_ble_eq_true rfl⟩) (rpV (hP.sub (ws' := [oX6 p2_h p2_a p2_windows p2_goal p2_otherFrom p2_otherTo p2_least, arI G (p2_a 1) 12 p2_links_15]) [7, 8] rfl) hK (ci := 6) (q0 := 0) rfl rfl) rfl rfl hl.1 rfl (lv_room (Nat.le_of_ble_eq_true rfl)) dX2_seekTwo_68 ⟨Nat.zero_le _, Nat.zero_le _⟩) hS hA hP (fun H locs hP hS => ?_)
          refine lv_aload_n hx hb dX2_seekTwo_71 rfl (lv_at hl 2 rfl) ?_
          refine lv_iload hx hb dX2_seekTwo_72 (lv_at hl 4 rfl) ?_
          obtain ⟨r_19, hc_20, hf⟩ := bd1_in hf
          refine rcI (va_runV (As := [.int v4]) (rest := [.int r_17, .ref p1_h, .ref t_h]) ⟨hx, hb, hml, hown, hw⟩ ((ctX6_reachOf l G p2_h p2_a p2_windows p2_links_15 p2_goal p2_otherFrom p2_otherTo p2_least v4 _ hc_20) _) (kV hw calX6_reachOf kw_38_21 rfl rfl ⟨Nat.le_of_ble_eq_true rfl, Nat.le_of_ble_eq_true rfl⟩) (rpV (hP.sub (ws' := [oX6 p2_h p2_a p2_windows p2_goal p2_otherFrom p2_otherTo p2_least, arI G (p2_a 1) 12 p2_links_15]) [7, 8] rfl) hK (ci := 6) (q0 := 0) rfl rfl) rfl rfl hl.1 rfl (lv_room (Nat.le_of_ble_eq_true rfl)) dX2_seekTwo_74 ⟨Nat.zero_le _, Nat.zero_le _⟩) hS hA hP (fun H locs hP hS => ?_)
          obtain ⟨r_21, hc_22, hf⟩ := bd1_in hf
          refine rcI (va_runS (As := [.ref p1_h, .int r_17, .int r_19]) (rest := [.ref t_h]) ⟨hx, hb, hml, hown, hw⟩ ((ctX2_firstJoining l G p1_h p1_a p1_windows p1_washes p1_damp p1_heard p1_lines p1_hour p1_strings_11 p1_cans p1_washPairs p1_washHours p1_pairs_12 r_17 r_19 _ hc_22) _) (kS hw calX2_firstJoining kw_38_22 rfl rfl ⟨Nat.le_of_ble_eq_true rfl, Nat.le_of_ble_eq_true rfl⟩) (rpS (hP.sub (ws' := [oX1 p1_h p1_a p1_windows p1_washes p1_damp p1_heard p1_lines p1_hour p1_strings_11, arI G (p1_a 7) 12 p1_cans, arI G (p1_a 8) 8 p1_washPairs, arI G (p1_a 9) 8 p1_washHours, arI G (p1_a 10) 21 p1_pairs_12]) [1, 2, 3, 4, 5] rfl) hK) rfl rfl hl.1 rfl (lv_room (Nat.le_of_ble_eq_true rfl)) dX2_seekTwo_77 ⟨Nat.zero_le _, Nat.zero_le _⟩) hS hA hP (fun H locs hP hS => ?_)
          refine va_put (D := G.1) (ci := 2) (v := .int r_21) (ty := .int) (C := RX2) (T := TX2) (N := 3) hx hb hw inW2 tyX2 tyX2_ok nmX2 hown hK.1 hP hD hS 0 rfl rfl 2 (by decide) (hw _ kw_38_20) (fun _ h9 => h9) rfl (by decide +kernel) rfl rfl (Nat.le_of_ble_eq_true rfl) dX2_seekTwo_80 (fun H locs hP hD hS => ?_)
          have hP : va_P G.1 vwCl [oX2 t_h t_a t_size t_first r_21, oX1 p1_h p1_a p1_windows p1_washes p1_damp p1_heard p1_lines p1_hour p1_strings_11, arI G (p1_a 7) 12 p1_cans, arI G (p1_a 8) 8 p1_washPairs, arI G (p1_a 9) 8 p1_washHours, arI G (p1_a 10) 21 p1_pairs_12, arI G (p1_a 11) 21 p1_knots_13, oX6 p2_h p2_a p2_windows p2_goal p2_otherFrom p2_otherTo p2_least, arI G (p2_a 1) 12 p2_links_15] H := hP
          have hD : va_D A [oX2 t_h t_a t_size t_first r_21, oX1 p1_h p1_a p1_windows p1_washes p1_damp p1_heard p1_lines p1_hour p1_strings_11, arI G (p1_a 7) 12 p1_cans, arI G (p1_a 8) 8 p1_washPairs, arI G (p1_a 9) 8 p1_washHours, arI G (p1_a 10) 21 p1_pairs_12, arI G (p1_a 11) 21 p1_knots_13, oX6 p2_h p2_a p2_windows p2_goal p2_otherFrom p2_otherTo p2_least, arI G (p2_a 1) 12 p2_links_15] := hD
          refine lv_aload_n hx hb dX2_seekTwo_83 rfl (lv_at hl 2 rfl) ?_
          refine lv_iload hx hb dX2_seekTwo_84 (lv_at hl 5 rfl) ?_
          refine lv_iload hx hb dX2_seekTwo_86 (lv_at hl 6 rfl) ?_
          obtain ⟨p2_links_23, hc_24, hf⟩ := bd1_in hf
          refine wcV (w1 := [oX6 p2_h p2_a p2_windows p2_goal p2_otherFrom p2_otherTo p2_least, arI G (p2_a 1) 12 p2_links_23]) (va_runV (As := [.int l5, .int l6]) (rest := []) ⟨hx, hb, hml, hown, hw⟩ ((ctX6_sever l G p2_h p2_a p2_windows p2_links_15 p2_goal p2_otherFrom p2_otherTo p2_least l5 l6 _ hc_24) _) (kV hw calX6_sever kw_39_8 rfl rfl ⟨Nat.le_of_ble_eq_true rfl, Nat.le_of_ble_eq_true rfl⟩) (wpV (hP.sub (ws' := [oX6 p2_h p2_a p2_windows p2_goal p2_otherFrom p2_otherTo p2_least, arI G (p2_a 1) 12 p2_links_15]) [7, 8] rfl) (hD.sub (ws' := [oX6 p2_h p2_a p2_windows p2_goal p2_otherFrom p2_otherTo p2_least, arI G (p2_a 1) 12 p2_links_15]) [7, 8] (by decide) rfl) hK (ci := 6) (q0 := 0) rfl rfl) rfl rfl hl.1 rfl (lv_room (Nat.le_of_ble_eq_true rfl)) dX2_seekTwo_88 ⟨Nat.zero_le _, Nat.zero_le _⟩) hS hA hP hD [7, 8] rfl rfl (fun H locs hP hD hS => ?_)
          have hP : va_P G.1 vwCl [oX2 t_h t_a t_size t_first r_21, oX1 p1_h p1_a p1_windows p1_washes p1_damp p1_heard p1_lines p1_hour p1_strings_11, arI G (p1_a 7) 12 p1_cans, arI G (p1_a 8) 8 p1_washPairs, arI G (p1_a 9) 8 p1_washHours, arI G (p1_a 10) 21 p1_pairs_12, arI G (p1_a 11) 21 p1_knots_13, oX6 p2_h p2_a p2_windows p2_goal p2_otherFrom p2_otherTo p2_least, arI G (p2_a 1) 12 p2_links_23] H := hP
          have hD : va_D A [oX2 t_h t_a t_size t_first r_21, oX1 p1_h p1_a p1_windows p1_washes p1_damp p1_heard p1_lines p1_hour p1_strings_11, arI G (p1_a 7) 12 p1_cans, arI G (p1_a 8) 8 p1_washPairs, arI G (p1_a 9) 8 p1_washHours, arI G (p1_a 10) 21 p1_pairs_12, arI G (p1_a 11) 21 p1_knots_13, oX6 p2_h p2_a p2_windows p2_goal p2_otherFrom p2_otherTo p2_least, arI G (p2_a 1) 12 p2_links_23] := hD
          refine lv_aload_n hx hb dX2_seekTwo_91 rfl (lv_at hl 1 rfl) ?_
          refine lv_aload_n hx hb dX2_seekTwo_92 rfl (lv_at hl 1 rfl) ?_
          refine lv_iload hx hb dX2_seekTwo_93 (lv_at hl 5 rfl) ?_
          refine lv_iload hx hb dX2_seekTwo_95 (lv_at hl 6 rfl) ?_
          obtain ⟨r_25, hc_26, hf⟩ := bd1_in hf
          refine rcI (va_runSN (As := [.int l5, .int l6]) (rest := [.ref p1_h, .ref p1_h]) ⟨hx, hb, hml, hown, hw⟩ ((ctX7_pairOf l G l5 l6 _ hc_26) _) (kSN hw calX7_pairOf (nm_13 hK.2) rfl rfl ⟨Nat.le_of_ble_eq_true rfl, Nat.le_of_ble_eq_true rfl⟩) (rpS (hP.sub (ws' := []) [] rfl) hK) rfl rfl hl.1 rfl (lv_room (Nat.le_of_ble_eq_true rfl)) dX2_seekTwo_97 ⟨Nat.zero_le _, Nat.zero_le _⟩) hS hA hP (fun H locs hP hS => ?_)
          obtain ⟨r_27, hc_28, hf⟩ := bd1_in hf
          refine rcI (va_runV (As := [.int r_25]) (rest := [.ref p1_h]) ⟨hx, hb, hml, hown, hw⟩ ((ctX1_indexOf l G p1_h p1_a p1_windows p1_washes p1_damp p1_heard p1_lines p1_hour p1_strings_11 p1_pairs_12 r_25 _ hc_28) _) (kV hw calX1_indexOf kw_39_9 rfl rfl ⟨Nat.le_of_ble_eq_true rfl, Nat.le_of_ble_eq_true rfl⟩) (rpV (hP.sub (ws' := [oX1 p1_h p1_a p1_windows p1_washes p1_damp p1_heard p1_lines p1_hour p1_strings_11, arI G (p1_a 10) 21 p1_pairs_12]) [1, 5] rfl) hK (ci := 1) (q0 := 0) rfl rfl) rfl rfl hl.1 rfl (lv_room (Nat.le_of_ble_eq_true rfl)) dX2_seekTwo_100 ⟨Nat.zero_le _, Nat.zero_le _⟩) hS hA hP (fun H locs hP hS => ?_)
          obtain ⟨p1_strings_29, p1_pairs_30, p1_knots_31, hc_32, hf⟩ := bd3_in hf
          refine wcV (w1 := [oX1 p1_h p1_a p1_windows p1_washes p1_damp p1_heard p1_lines p1_hour p1_strings_29, arI G (p1_a 10) 21 p1_pairs_30, arI G (p1_a 11) 21 p1_knots_31]) (va_runV (As := [.int r_27]) (rest := []) ⟨hx, hb, hml, hown, hw⟩ ((ctX1_removeString l G p1_h p1_a p1_windows p1_washes p1_damp p1_heard p1_lines p1_hour p1_strings_11 p1_pairs_12 p1_knots_13 r_27 _ _ _ hc_32) _) (kV hw calX1_removeString kw_39_10 rfl rfl ⟨Nat.le_of_ble_eq_true rfl, Nat.le_of_ble_eq_true rfl⟩) (wpV (hP.sub (ws' := [oX1 p1_h p1_a p1_windows p1_washes p1_damp p1_heard p1_lines p1_hour p1_strings_11, arI G (p1_a 10) 21 p1_pairs_12, arI G (p1_a 11) 21 p1_knots_13]) [1, 5, 6] rfl) (hD.sub (ws' := [oX1 p1_h p1_a p1_windows p1_washes p1_damp p1_heard p1_lines p1_hour p1_strings_11, arI G (p1_a 10) 21 p1_pairs_12, arI G (p1_a 11) 21 p1_knots_13]) [1, 5, 6] (by decide) rfl) hK (ci := 1) (q0 := 0) rfl rfl) rfl rfl hl.1 rfl (lv_room (Nat.le_of_ble_eq_true rfl)) dX2_seekTwo_103 ⟨Nat.zero_le _, Nat.zero_le _⟩) hS hA hP hD [1, 5, 6] rfl rfl (fun H locs hP hD hS => ?_)
          have hP : va_P G.1 vwCl [oX2 t_h t_a t_size t_first r_21, oX1 p1_h p1_a p1_windows p1_washes p1_damp p1_heard p1_lines p1_hour p1_strings_29, arI G (p1_a 7) 12 p1_cans, arI G (p1_a 8) 8 p1_washPairs, arI G (p1_a 9) 8 p1_washHours, arI G (p1_a 10) 21 p1_pairs_30, arI G (p1_a 11) 21 p1_knots_31, oX6 p2_h p2_a p2_windows p2_goal p2_otherFrom p2_otherTo p2_least, arI G (p2_a 1) 12 p2_links_23] H := hP
          have hD : va_D A [oX2 t_h t_a t_size t_first r_21, oX1 p1_h p1_a p1_windows p1_washes p1_damp p1_heard p1_lines p1_hour p1_strings_29, arI G (p1_a 7) 12 p1_cans, arI G (p1_a 8) 8 p1_washPairs, arI G (p1_a 9) 8 p1_washHours, arI G (p1_a 10) 21 p1_pairs_30, arI G (p1_a 11) 21 p1_knots_31, oX6 p2_h p2_a p2_windows p2_goal p2_otherFrom p2_otherTo p2_least, arI G (p2_a 1) 12 p2_links_23] := hD
          refine lv_aload_n hx hb dX2_seekTwo_106 rfl (lv_at hl 0 rfl) ?_
          refine va_get (D := G.1) (ci := 2) (v := .int r_21) (C := RX2) (T := TX2) (N := 3) hx hb hw inW2 hown hK.1 hP 0 rfl rfl 2 (by decide) (hw _ kw_38_20) (fun _ h9 => h9) rfl dX2_seekTwo_107 ?_
          refine lv_iconst (v := (-1)) hx hb dX2_seekTwo_110 (by decide) ?_
          refine lv_icmp_eq (tgt := 131) hx hb dX2_seekTwo_111 (by decide) (fun c_33 => ?_) (fun c_33 => ?_)
          · have hf := ip c_33 hf
            refine lv_iinc (v := (l6 + 1)) (lv' := [(6, .int (l6 + 1)), (0, .ref t_h), (1, .ref p1_h), (2, .ref p2_h), (3, .int v3), (4, .int v4), (5, .int l5)]) hx hb dX2_seekTwo_131 hl (k := 6) rfl (by rfl) (by decide) rfl (fun ls hl => ?_)
            refine lv_goto (tgt := 18) hx hb dX2_seekTwo_134 (by decide) ?_
            exact ih _ _ _ _ _ _ _ _ _ hP hD hS (lv_sub hl [1, 2, 3, 4, 5, 6, 0] rfl) hf hX
          · have hf := iq c_33 hf
            refine lv_aload_n hx hb dX2_seekTwo_114 rfl (lv_at hl 0 rfl) ?_
            refine lv_iload hx hb dX2_seekTwo_115 (lv_at hl 5 rfl) ?_
            refine lv_iload hx hb dX2_seekTwo_117 (lv_at hl 6 rfl) ?_
            obtain ⟨r_34, hc_35, hf⟩ := bd1_in hf
            refine rcI (va_runSN (As := [.int l5, .int l6]) (rest := [.ref t_h]) ⟨hx, hb, hml, hown, hw⟩ ((ctX7_pairOf l G l5 l6 _ hc_35) _) (kSN hw calX7_pairOf (nm_13 hK.2) rfl rfl ⟨Nat.le_of_ble_eq_true rfl, Nat.le_of_ble_eq_true rfl⟩) (rpS (hP.sub (ws' := []) [] rfl) hK) rfl rfl hl.1 rfl (lv_room (Nat.le_of_ble_eq_true rfl)) dX2_seekTwo_119 ⟨Nat.zero_le _, Nat.zero_le _⟩) hS hA hP (fun H locs hP hS => ?_)
            refine va_put (D := G.1) (ci := 2) (v := .int r_34) (ty := .int) (C := RX2) (T := TX2) (N := 3) hx hb hw inW2 tyX2 tyX2_ok nmX2 hown hK.1 hP hD hS 0 rfl rfl 1 (by decide) (hw _ kw_38_19) (fun _ h9 => h9) rfl (by decide +kernel) rfl rfl (Nat.le_of_ble_eq_true rfl) dX2_seekTwo_122 (fun H locs hP hD hS => ?_)
            have hP : va_P G.1 vwCl [oX2 t_h t_a t_size r_34 r_21, oX1 p1_h p1_a p1_windows p1_washes p1_damp p1_heard p1_lines p1_hour p1_strings_29, arI G (p1_a 7) 12 p1_cans, arI G (p1_a 8) 8 p1_washPairs, arI G (p1_a 9) 8 p1_washHours, arI G (p1_a 10) 21 p1_pairs_30, arI G (p1_a 11) 21 p1_knots_31, oX6 p2_h p2_a p2_windows p2_goal p2_otherFrom p2_otherTo p2_least, arI G (p2_a 1) 12 p2_links_23] H := hP
            have hD : va_D A [oX2 t_h t_a t_size r_34 r_21, oX1 p1_h p1_a p1_windows p1_washes p1_damp p1_heard p1_lines p1_hour p1_strings_29, arI G (p1_a 7) 12 p1_cans, arI G (p1_a 8) 8 p1_washPairs, arI G (p1_a 9) 8 p1_washHours, arI G (p1_a 10) 21 p1_pairs_30, arI G (p1_a 11) 21 p1_knots_31, oX6 p2_h p2_a p2_windows p2_goal p2_otherFrom p2_otherTo p2_least, arI G (p2_a 1) 12 p2_links_23] := hD
            refine lv_aload_n hx hb dX2_seekTwo_125 rfl (lv_at hl 0 rfl) ?_
            refine lv_iconst (v := 2) hx hb dX2_seekTwo_126 (by decide) ?_
            refine va_put (D := G.1) (ci := 2) (v := .int 2) (ty := .int) (C := RX2) (T := TX2) (N := 3) hx hb hw inW2 tyX2 tyX2_ok nmX2 hown hK.1 hP hD hS 0 rfl rfl 0 (by decide) (hw _ kw_38_18) (fun _ h9 => h9) rfl (by decide +kernel) rfl rfl (Nat.le_of_ble_eq_true rfl) dX2_seekTwo_127 (fun H locs hP hD hS => ?_)
            have hP : va_P G.1 vwCl [oX2 t_h t_a 2 r_34 r_21, oX1 p1_h p1_a p1_windows p1_washes p1_damp p1_heard p1_lines p1_hour p1_strings_29, arI G (p1_a 7) 12 p1_cans, arI G (p1_a 8) 8 p1_washPairs, arI G (p1_a 9) 8 p1_washHours, arI G (p1_a 10) 21 p1_pairs_30, arI G (p1_a 11) 21 p1_knots_31, oX6 p2_h p2_a p2_windows p2_goal p2_otherFrom p2_otherTo p2_least, arI G (p2_a 1) 12 p2_links_23] H := hP
            have hD : va_D A [oX2 t_h t_a 2 r_34 r_21, oX1 p1_h p1_a p1_windows p1_washes p1_damp p1_heard p1_lines p1_hour p1_strings_29, arI G (p1_a 7) 12 p1_cans, arI G (p1_a 8) 8 p1_washPairs, arI G (p1_a 9) 8 p1_washHours, arI G (p1_a 10) 21 p1_pairs_30, arI G (p1_a 11) 21 p1_knots_31, oX6 p2_h p2_a p2_windows p2_goal p2_otherFrom p2_otherTo p2_least, arI G (p2_a 1) 12 p2_links_23] := hD
            exact hRet _ _ _ _ _ _ _ _ _ _ _ hf hP hS dX2_seekTwo_130
        · have hf := ip c_8 hf
          refine lv_goto (tgt := 131) hx hb dX2_seekTwo_41 (by decide) ?_
          refine lv_iinc (v := (l6 + 1)) (lv' := [(6, .int (l6 + 1)), (0, .ref t_h), (1, .ref p1_h), (2, .ref p2_h), (3, .int v3), (4, .int v4), (5, .int l5)]) hx hb dX2_seekTwo_131 hl (k := 6) rfl (by rfl) (by decide) rfl (fun ls hl => ?_)
          refine lv_goto (tgt := 18) hx hb dX2_seekTwo_134 (by decide) ?_
          exact ih _ _ _ _ _ _ _ _ _ hP hD hS (lv_sub hl [1, 2, 3, 4, 5, 6, 0] rfl) hf hX
  have L3 : ∀ (t_size : Int32) (t_first : Int32) (K : Int32 → Int32 → (Nat → Int32) → (Nat → Int32) → (Nat → Int32) → Option (Int32 × Int32 × Int32 × Int32 × (Nat → Int32) × (Nat → Int32) × (Nat → Int32))) (n : Nat) (l5 : Int32) (t_second : Int32) (p1_strings : Int32) (p1_pairs : Nat → Int32) (p1_knots : Nat → Int32) (p2_links : Nat → Int32) (H : Heap) (locs : List Loc) (ls : Array Slot), va_P G.1 vwCl [oX2 t_h t_a t_size t_first t_second, oX1 p1_h p1_a p1_windows p1_washes p1_damp p1_heard p1_lines p1_hour p1_strings, arI G (p1_a 7) 12 p1_cans, arI G (p1_a 8) 8 p1_washPairs, arI G (p1_a 9) 8 p1_washHours, arI G (p1_a 10) 21 p1_pairs, arI G (p1_a 11) 21 p1_knots, oX6 p2_h p2_a p2_windows p2_goal p2_otherFrom p2_otherTo p2_least, arI G (p2_a 1) 12 p2_links] H → va_D A [oX2 t_h t_a t_size t_first t_second, oX1 p1_h p1_a p1_windows p1_washes p1_damp p1_heard p1_lines p1_hour p1_strings, arI G (p1_a 7) 12 p1_cans, arI G (p1_a 8) 8 p1_washPairs, arI G (p1_a 9) 8 p1_washHours, arI G (p1_a 10) 21 p1_pairs, arI G (p1_a 11) 21 p1_knots, oX6 p2_h p2_a p2_windows p2_goal p2_otherFrom p2_otherTo p2_least, arI G (p2_a 1) 12 p2_links] → va_S A s.heap H locs → lv_has ls 7 [(0, .ref t_h), (1, .ref p1_h), (2, .ref p2_h), (3, .int v3), (4, .int v4), (5, .int l5)] → fX2_seekTwo_3 v3 v4 p1_windows p1_washes p1_hour p1_cans p1_washPairs p1_washHours p2_windows K n l5 t_second p1_strings p1_pairs p1_knots p2_links = some (o_t_size, o_t_first, o_t_second, o_p1_strings, o_p1_pairs, o_p1_knots, o_p2_links) → (∀ (kt_second : Int32) (kp1_strings : Int32) (kp1_pairs : Nat → Int32) (kp1_knots : Nat → Int32) (kp2_links : Nat → Int32) (H : Heap) (locs : List Loc) (ls : Array Slot), va_P G.1 vwCl [oX2 t_h t_a t_size t_first kt_second, oX1 p1_h p1_a p1_windows p1_washes p1_damp p1_heard p1_lines p1_hour kp1_strings, arI G (p1_a 7) 12 p1_cans, arI G (p1_a 8) 8 p1_washPairs, arI G (p1_a 9) 8 p1_washHours, arI G (p1_a 10) 21 kp1_pairs, arI G (p1_a 11) 21 kp1_knots, oX6 p2_h p2_a p2_windows p2_goal p2_otherFrom p2_otherTo p2_least, arI G (p2_a 1) 12 kp2_links] H → va_D A [oX2 t_h t_a t_size t_first kt_second, oX1 p1_h p1_a p1_windows p1_washes p1_damp p1_heard p1_lines p1_hour kp1_strings, arI G (p1_a 7) 12 p1_cans, arI G (p1_a 8) 8 p1_washPairs, arI G (p1_a 9) 8 p1_washHours, arI G (p1_a 10) 21 kp1_pairs, arI G (p1_a 11) 21 kp1_knots, oX6 p2_h p2_a p2_windows p2_goal p2_otherFrom p2_otherTo p2_least, arI G (p2_a 1) 12 kp2_links] → va_S A s.heap H locs → lv_has ls 7 [] → K kt_second kp1_strings kp1_pairs kp1_knots kp2_links = some (o_t_size, o_t_first, o_t_second, o_p1_strings, o_p1_pairs, o_p1_knots, o_p2_links) → W p l e ({ frames := 5, cells := 0, slots := 0, locals := 116 } : Room) s m args below meth c H locs 0 0 Q (F0 m 143 ls [])) → W p l e ({ frames := 5, cells := 0, slots := 0, locals := 116 } : Room) s m args below meth c H locs 0 0 Q (F0 m 3 ls []) := by
    intro t_size t_first K n
    induction n with
    | zero => intro l5 t_second p1_strings p1_pairs p1_knots p2_links H locs ls hP hD hS hl hf; rw [fX2_seekTwo_3] at hf; cases hf
    | succ n ih =>
      intro l5 t_second p1_strings p1_pairs p1_knots p2_links H locs ls hP hD hS hl hf hX
      rw [fX2_seekTwo_3] at hf
      refine lv_iload hx hb dX2_seekTwo_3 (lv_at hl 5 rfl) ?_
      refine lv_aload_n hx hb dX2_seekTwo_5 rfl (lv_at hl 1 rfl) ?_
      refine va_getN (D := G.1) (ci := 1) (v := .int p1_windows) (C := RX1) (T := TX1) (N := 12) hx hb hw inW1 hown hK.1 hP 1 rfl rfl 0 (by decide) ((nf_4 hK.2).use rfl) (fun _ h9 => h9) rfl dX2_seekTwo_6 ?_
      refine lv_icmp_ge (tgt := 143) hx hb dX2_seekTwo_9 (by decide) (fun c_1 => ?_) (fun c_1 => ?_)
      · have hf := ip c_1 hf
        exact hX _ _ _ _ _ _ _ _ hP hD hS (lv_sub hl [] rfl) hf
      · have hf := iq c_1 hf
        refine lv_iload hx hb dX2_seekTwo_12 (lv_at hl 5 rfl) ?_
        refine lv_iconst (v := 1) hx hb dX2_seekTwo_14 (by decide) ?_
        refine lv_iadd hx hb dX2_seekTwo_15 ?_
        refine lv_topi (fun y_2 ey_2 => ?_)
        have hf := bnd_all hf y_2 ey_2
        refine lv_istore (lv' := [(6, .int y_2), (0, .ref t_h), (1, .ref p1_h), (2, .ref p2_h), (3, .int v3), (4, .int v4), (5, .int l5)]) hx hb dX2_seekTwo_16 hl (by decide) rfl (fun ls hl => ?_)
        refine L18 _ _ _ _ _ _ _ _ _ _ _ _ _ _ hP hD hS (lv_sub hl [1, 2, 3, 4, 5, 6, 0] rfl) hf (fun t_second_36 p1_strings_37 p1_pairs_38 p1_knots_39 p2_links_40 H locs ls hP hD hS hl hf => ?_)
        refine lv_iinc (v := (l5 + 1)) (lv' := [(5, .int (l5 + 1)), (0, .ref t_h), (1, .ref p1_h), (2, .ref p2_h), (3, .int v3), (4, .int v4)]) hx hb dX2_seekTwo_137 hl (k := 5) rfl (by rfl) (by decide) rfl (fun ls hl => ?_)
        refine lv_goto (tgt := 3) hx hb dX2_seekTwo_140 (by decide) ?_
        exact ih _ _ _ _ _ _ _ _ _ hP hD hS (lv_sub hl [1, 2, 3, 4, 5, 0] rfl) hf hX
  unfold fX2_seekTwo at hf
  refine lv_iconst (v := 0) hx hb dX2_seekTwo_0 (by decide) ?_
  refine lv_istore (lv' := [(5, .int 0), (0, .ref t_h), (1, .ref p1_h), (2, .ref p2_h), (3, .int v3), (4, .int v4)]) hx hb dX2_seekTwo_1 hl (by decide) rfl (fun ls hl => ?_)
  refine L3 _ _ _ _ _ _ _ _ _ _ _ _ _ hP hD hS (lv_sub hl [1, 2, 3, 4, 5, 0] rfl) hf (fun t_second_41 p1_strings_42 p1_pairs_43 p1_knots_44 p2_links_45 H locs ls hP hD hS hl hf => ?_)
  exact hRet _ _ _ _ _ _ _ _ _ _ _ hf hP hS dX2_seekTwo_143
theorem calX2_seek : CalV yX2_seek cX2_seek 6 none 4 := ⟨⟨kw_38_17, kw_2_4, by decide +kernel⟩, kw_38_15, kw_38_16⟩
set_option maxHeartbeats 8000000 in
set_option maxRecDepth 100000 in
theorem ctX2_seek (l : Launch) (G : GT) (t_h : Nat) (t_a : Nat → Nat) (p1_h : Nat) (p1_a : Nat → Nat) (p2_h : Nat) (p2_a : Nat → Nat) (t_size : Int32) (t_first : Int32) (t_second : Int32) (p1_windows : Int32) (p1_washes : Int32) (p1_damp : Int32) (p1_heard : Int32) (p1_lines : Int32) (p1_hour : Int32) (p1_strings : Int32) (p1_cans : Nat → Int32) (p1_washPairs : Nat → Int32) (p1_washHours : Nat → Int32) (p1_pairs : Nat → Int32) (p1_knots : Nat → Int32) (p2_windows : Int32) (p2_links : Nat → Int32) (p2_goal : Int32) (p2_otherFrom : Int32) (p2_otherTo : Int32) (p2_least : Int32) (v3 : Int32) (v4 : Int32) (o_t_size : Int32) (o_t_first : Int32) (o_t_second : Int32) (o_p1_strings : Int32) (o_p1_pairs : Nat → Int32) (o_p1_knots : Nat → Int32) (o_p2_links : Nat → Int32) (hf : fX2_seek t_size t_first t_second p1_windows p1_washes p1_hour p1_strings p1_cans p1_washPairs p1_washHours p1_pairs p1_knots p2_windows p2_links v3 v4 = some (o_t_size, o_t_first, o_t_second, o_p1_strings, o_p1_pairs, o_p1_knots, o_p2_links)) : WrV l yX2_seek (Cond.code yX2_seek cX2_seek 6 none) { frames := 6, cells := 0, slots := 0, locals := 142 } G [.ref t_h, .ref p1_h, .ref p2_h, .int v3, .int v4] [oX2 t_h t_a t_size t_first t_second, oX1 p1_h p1_a p1_windows p1_washes p1_damp p1_heard p1_lines p1_hour p1_strings, arI G (p1_a 7) 12 p1_cans, arI G (p1_a 8) 8 p1_washPairs, arI G (p1_a 9) 8 p1_washHours, arI G (p1_a 10) 21 p1_pairs, arI G (p1_a 11) 21 p1_knots, oX6 p2_h p2_a p2_windows p2_goal p2_otherFrom p2_otherTo p2_least, arI G (p2_a 1) 12 p2_links] [oX2 t_h t_a o_t_size o_t_first o_t_second, oX1 p1_h p1_a p1_windows p1_washes p1_damp p1_heard p1_lines p1_hour o_p1_strings, arI G (p1_a 7) 12 p1_cans, arI G (p1_a 8) 8 p1_washPairs, arI G (p1_a 9) 8 p1_washHours, arI G (p1_a 10) 21 o_p1_pairs, arI G (p1_a 11) 21 o_p1_knots, oX6 p2_h p2_a p2_windows p2_goal p2_otherFrom p2_otherTo p2_least, arI G (p2_a 1) 12 o_p2_links] := by
  intro sz
  refine Met.ofW (cc := cX2_seek) (maxL := 6) (ret := none) (by decide) rfl ?_
  intro p e s m args below meth c s₁ B hml hv
  obtain ⟨hargs, hsz, hP, hD0, hK⟩ := hv
  subst hsz
  obtain ⟨hx, hb, hr, hw, hown, hlk⟩ := fwB B
  refine fw_enter hargs (Nat.le_of_ble_eq_true rfl) (fun ls hl => ?_)
  have hl : lv_has ls 6 [(0, .ref t_h), (1, .ref p1_h), (2, .ref p2_h), (3, .int v3), (4, .int v4)] := hl
  refine fw_Q (P := fun Q => ∃ A : Nat → Prop, va_D A [oX2 t_h t_a t_size t_first t_second, oX1 p1_h p1_a p1_windows p1_washes p1_damp p1_heard p1_lines p1_hour p1_strings, arI G (p1_a 7) 12 p1_cans, arI G (p1_a 8) 8 p1_washPairs, arI G (p1_a 9) 8 p1_washHours, arI G (p1_a 10) 21 p1_pairs, arI G (p1_a 11) 21 p1_knots, oX6 p2_h p2_a p2_windows p2_goal p2_otherFrom p2_otherTo p2_least, arI G (p2_a 1) 12 p2_links] ∧ va_S A s.heap s.heap [] ∧ (∀ q, s.heap.size ≤ q → A q) ∧ ∀ (n_t_size : Int32) (n_t_first : Int32) (n_t_second : Int32) (n_p1_strings : Int32) (n_p1_pairs : Nat → Int32) (n_p1_knots : Nat → Int32) (n_p2_links : Nat → Int32) (H : Heap) (locs : List Loc) (pc : Nat) (ls : Array Slot), some (n_t_size, n_t_first, n_t_second, n_p1_strings, n_p1_pairs, n_p1_knots, n_p2_links) = some (o_t_size, o_t_first, o_t_second, o_p1_strings, o_p1_pairs, o_p1_knots, o_p2_links) → va_P G.1 vwCl [oX2 t_h t_a n_t_size n_t_first n_t_second, oX1 p1_h p1_a p1_windows p1_washes p1_damp p1_heard p1_lines p1_hour n_p1_strings, arI G (p1_a 7) 12 p1_cans, arI G (p1_a 8) 8 p1_washPairs, arI G (p1_a 9) 8 p1_washHours, arI G (p1_a 10) 21 n_p1_pairs, arI G (p1_a 11) 21 n_p1_knots, oX6 p2_h p2_a p2_windows p2_goal p2_otherFrom p2_otherTo p2_least, arI G (p2_a 1) 12 n_p2_links] H → va_S A s.heap H locs → decode cX2_seek pc = .ok (.return_, 1) → W p l e ({ frames := 6, cells := 0, slots := 0, locals := 142 } : Room) s m args below meth c H locs 0 0 Q (F0 m pc ls [])) ⟨va_A [oX2 t_h t_a t_size t_first t_second, oX1 p1_h p1_a p1_windows p1_washes p1_damp p1_heard p1_lines p1_hour p1_strings, arI G (p1_a 7) 12 p1_cans, arI G (p1_a 8) 8 p1_washPairs, arI G (p1_a 9) 8 p1_washHours, arI G (p1_a 10) 21 p1_pairs, arI G (p1_a 11) 21 p1_knots, oX6 p2_h p2_a p2_windows p2_goal p2_otherFrom p2_otherTo p2_least, arI G (p2_a 1) 12 p2_links] s.heap.size, hD0.self (sz := s.heap.size), va_S.rf, fun q h => Or.inr h, ?_⟩ ?_
  · intro n_t_size n_t_first n_t_second n_p1_strings n_p1_pairs n_p1_knots n_p2_links H locs pc ls h hP hS hd
    cases h
    exact retWV hx hb hr hlk hS hP hd
  rintro Q ⟨A, hD, hS, hA, hRet⟩
  change W p l e ({ frames := 6, cells := 0, slots := 0, locals := 142 } : Room) s m args below meth c _ _ 0 0 Q _
  unfold fX2_seek at hf
  refine lv_aload_n hx hb dX2_seek_0 rfl (lv_at hl 0 rfl) ?_
  refine lv_iconst (v := (-1)) hx hb dX2_seek_1 (by decide) ?_
  refine va_put (D := G.1) (ci := 2) (v := .int (-1)) (ty := .int) (C := RX2) (T := TX2) (N := 3) hx hb hw inW2 tyX2 tyX2_ok nmX2 hown hK.1 hP hD hS 0 rfl rfl 0 (by decide) (hw _ kw_38_18) (fun _ h9 => h9) rfl (by decide +kernel) rfl rfl (Nat.le_of_ble_eq_true rfl) dX2_seek_2 (fun H locs hP hD hS => ?_)
  have hP : va_P G.1 vwCl [oX2 t_h t_a (-1) t_first t_second, oX1 p1_h p1_a p1_windows p1_washes p1_damp p1_heard p1_lines p1_hour p1_strings, arI G (p1_a 7) 12 p1_cans, arI G (p1_a 8) 8 p1_washPairs, arI G (p1_a 9) 8 p1_washHours, arI G (p1_a 10) 21 p1_pairs, arI G (p1_a 11) 21 p1_knots, oX6 p2_h p2_a p2_windows p2_goal p2_otherFrom p2_otherTo p2_least, arI G (p2_a 1) 12 p2_links] H := hP
  have hD : va_D A [oX2 t_h t_a (-1) t_first t_second, oX1 p1_h p1_a p1_windows p1_washes p1_damp p1_heard p1_lines p1_hour p1_strings, arI G (p1_a 7) 12 p1_cans, arI G (p1_a 8) 8 p1_washPairs, arI G (p1_a 9) 8 p1_washHours, arI G (p1_a 10) 21 p1_pairs, arI G (p1_a 11) 21 p1_knots, oX6 p2_h p2_a p2_windows p2_goal p2_otherFrom p2_otherTo p2_least, arI G (p2_a 1) 12 p2_links] := hD
  refine lv_aload_n hx hb dX2_seek_5 rfl (lv_at hl 0 rfl) ?_
  refine lv_iconst (v := (-1)) hx hb dX2_seek_6 (by decide) ?_
  refine va_put (D := G.1) (ci := 2) (v := .int (-1)) (ty := .int) (C := RX2) (T := TX2) (N := 3) hx hb hw inW2 tyX2 tyX2_ok nmX2 hown hK.1 hP hD hS 0 rfl rfl 1 (by decide) (hw _ kw_38_19) (fun _ h9 => h9) rfl (by decide +kernel) rfl rfl (Nat.le_of_ble_eq_true rfl) dX2_seek_7 (fun H locs hP hD hS => ?_)
  have hP : va_P G.1 vwCl [oX2 t_h t_a (-1) (-1) t_second, oX1 p1_h p1_a p1_windows p1_washes p1_damp p1_heard p1_lines p1_hour p1_strings, arI G (p1_a 7) 12 p1_cans, arI G (p1_a 8) 8 p1_washPairs, arI G (p1_a 9) 8 p1_washHours, arI G (p1_a 10) 21 p1_pairs, arI G (p1_a 11) 21 p1_knots, oX6 p2_h p2_a p2_windows p2_goal p2_otherFrom p2_otherTo p2_least, arI G (p2_a 1) 12 p2_links] H := hP
  have hD : va_D A [oX2 t_h t_a (-1) (-1) t_second, oX1 p1_h p1_a p1_windows p1_washes p1_damp p1_heard p1_lines p1_hour p1_strings, arI G (p1_a 7) 12 p1_cans, arI G (p1_a 8) 8 p1_washPairs, arI G (p1_a 9) 8 p1_washHours, arI G (p1_a 10) 21 p1_pairs, arI G (p1_a 11) 21 p1_knots, oX6 p2_h p2_a p2_windows p2_goal p2_otherFrom p2_otherTo p2_least, arI G (p2_a 1) 12 p2_links] := hD
  refine lv_aload_n hx hb dX2_seek_10 rfl (lv_at hl 0 rfl) ?_
  refine lv_iconst (v := (-1)) hx hb dX2_seek_11 (by decide) ?_
  refine va_put (D := G.1) (ci := 2) (v := .int (-1)) (ty := .int) (C := RX2) (T := TX2) (N := 3) hx hb hw inW2 tyX2 tyX2_ok nmX2 hown hK.1 hP hD hS 0 rfl rfl 2 (by decide) (hw _ kw_38_20) (fun _ h9 => h9) rfl (by decide +kernel) rfl rfl (Nat.le_of_ble_eq_true rfl) dX2_seek_12 (fun H locs hP hD hS => ?_)
  have hP : va_P G.1 vwCl [oX2 t_h t_a (-1) (-1) (-1), oX1 p1_h p1_a p1_windows p1_washes p1_damp p1_heard p1_lines p1_hour p1_strings, arI G (p1_a 7) 12 p1_cans, arI G (p1_a 8) 8 p1_washPairs, arI G (p1_a 9) 8 p1_washHours, arI G (p1_a 10) 21 p1_pairs, arI G (p1_a 11) 21 p1_knots, oX6 p2_h p2_a p2_windows p2_goal p2_otherFrom p2_otherTo p2_least, arI G (p2_a 1) 12 p2_links] H := hP
  have hD : va_D A [oX2 t_h t_a (-1) (-1) (-1), oX1 p1_h p1_a p1_windows p1_washes p1_damp p1_heard p1_lines p1_hour p1_strings, arI G (p1_a 7) 12 p1_cans, arI G (p1_a 8) 8 p1_washPairs, arI G (p1_a 9) 8 p1_washHours, arI G (p1_a 10) 21 p1_pairs, arI G (p1_a 11) 21 p1_knots, oX6 p2_h p2_a p2_windows p2_goal p2_otherFrom p2_otherTo p2_least, arI G (p2_a 1) 12 p2_links] := hD
  refine lv_aload_n hx hb dX2_seek_15 rfl (lv_at hl 2 rfl) ?_
  refine lv_iload_n hx hb dX2_seek_16 rfl (lv_at hl 3 rfl) ?_
  obtain ⟨r_1, hc_2, hf⟩ := bd1_in hf
  refine rcI (va_runV (As := [.int v3]) (rest := []) ⟨hx, hb, hml, hown, hw⟩ ((ctX6_reachOf l G p2_h p2_a p2_windows p2_links p2_goal p2_otherFrom p2_otherTo p2_least v3 _ hc_2) _) (kV hw calX6_reachOf kw_38_21 rfl rfl ⟨Nat.le_of_ble_eq_true rfl, Nat.le_of_ble_eq_true rfl⟩) (rpV (hP.sub (ws' := [oX6 p2_h p2_a p2_windows p2_goal p2_otherFrom p2_otherTo p2_least, arI G (p2_a 1) 12 p2_links]) [7, 8] rfl) hK (ci := 6) (q0 := 0) rfl rfl) rfl rfl hl.1 rfl (lv_room (Nat.le_of_ble_eq_true rfl)) dX2_seek_17 ⟨Nat.zero_le _, Nat.zero_le _⟩) hS hA hP (fun H locs hP hS => ?_)
  refine lv_istore (lv' := [(5, .int r_1), (0, .ref t_h), (1, .ref p1_h), (2, .ref p2_h), (3, .int v3), (4, .int v4)]) hx hb dX2_seek_20 hl (by decide) rfl (fun ls hl => ?_)
  refine lv_iload hx hb dX2_seek_22 (lv_at hl 0 rfl) ?_
  refine lv_iload hx hb dX2_seek_24 (lv_at hl 5 rfl) ?_
  refine lv_ishr hx hb dX2_seek_26 ?_
  refine lv_iconst (v := 1) hx hb dX2_seek_27 (by decide) ?_
  refine lv_iand hx hb dX2_seek_28 ?_
  refine lv_if_eq (tgt := 38) hx hb dX2_seek_29 (by decide) (fun c_3 => ?_) (fun c_3 => ?_)
  · have hf := ip c_3 hf
    refine lv_aload_n hx hb dX2_seek_38 rfl (lv_at hl 1 rfl) ?_
    refine lv_aload_n hx hb dX2_seek_39 rfl (lv_at hl 2 rfl) ?_
    refine lv_iload hx hb dX2_seek_40 (lv_at hl 0 rfl) ?_
    refine lv_aload_n hx hb dX2_seek_42 rfl (lv_at hl 3 rfl) ?_
    refine lv_iload hx hb dX2_seek_43 (lv_at hl 5 rfl) ?_
    obtain ⟨r_4, hc_5, hf⟩ := bd1_in hf
    refine rcI (va_runV (As := [.int v4]) (rest := [.int r_1, .ref p1_h, .ref t_h]) ⟨hx, hb, hml, hown, hw⟩ ((ctX6_reachOf l G p2_h p2_a p2_windows p2_links p2_goal p2_otherFrom p2_otherTo p2_least v4 _ hc_5) _) (kV hw calX6_reachOf kw_38_21 rfl rfl ⟨Nat.le_of_ble_eq_true rfl, Nat.le_of_ble_eq_true rfl⟩) (rpV (hP.sub (ws' := [oX6 p2_h p2_a p2_windows p2_goal p2_otherFrom p2_otherTo p2_least, arI G (p2_a 1) 12 p2_links]) [7, 8] rfl) hK (ci := 6) (q0 := 0) rfl rfl) rfl rfl hl.1 rfl (lv_room (Nat.le_of_ble_eq_true rfl)) dX2_seek_45 ⟨Nat.zero_le _, Nat.zero_le _⟩) hS hA hP (fun H locs hP hS => ?_)
    obtain ⟨r_6, hc_7, hf⟩ := bd1_in hf
    refine rcI (va_runS (As := [.ref p1_h, .int r_1, .int r_4]) (rest := [.ref t_h]) ⟨hx, hb, hml, hown, hw⟩ ((ctX2_firstJoining l G p1_h p1_a p1_windows p1_washes p1_damp p1_heard p1_lines p1_hour p1_strings p1_cans p1_washPairs p1_washHours p1_pairs r_1 r_4 _ hc_7) _) (kS hw calX2_firstJoining kw_38_22 rfl rfl ⟨Nat.le_of_ble_eq_true rfl, Nat.le_of_ble_eq_true rfl⟩) (rpS (hP.sub (ws' := [oX1 p1_h p1_a p1_windows p1_washes p1_damp p1_heard p1_lines p1_hour p1_strings, arI G (p1_a 7) 12 p1_cans, arI G (p1_a 8) 8 p1_washPairs, arI G (p1_a 9) 8 p1_washHours, arI G (p1_a 10) 21 p1_pairs]) [1, 2, 3, 4, 5] rfl) hK) rfl rfl hl.1 rfl (lv_room (Nat.le_of_ble_eq_true rfl)) dX2_seek_48 ⟨Nat.zero_le _, Nat.zero_le _⟩) hS hA hP (fun H locs hP hS => ?_)
    refine va_put (D := G.1) (ci := 2) (v := .int r_6) (ty := .int) (C := RX2) (T := TX2) (N := 3) hx hb hw inW2 tyX2 tyX2_ok nmX2 hown hK.1 hP hD hS 0 rfl rfl 1 (by decide) (hw _ kw_38_19) (fun _ h9 => h9) rfl (by decide +kernel) rfl rfl (Nat.le_of_ble_eq_true rfl) dX2_seek_51 (fun H locs hP hD hS => ?_)
    have hP : va_P G.1 vwCl [oX2 t_h t_a (-1) r_6 (-1), oX1 p1_h p1_a p1_windows p1_washes p1_damp p1_heard p1_lines p1_hour p1_strings, arI G (p1_a 7) 12 p1_cans, arI G (p1_a 8) 8 p1_washPairs, arI G (p1_a 9) 8 p1_washHours, arI G (p1_a 10) 21 p1_pairs, arI G (p1_a 11) 21 p1_knots, oX6 p2_h p2_a p2_windows p2_goal p2_otherFrom p2_otherTo p2_least, arI G (p2_a 1) 12 p2_links] H := hP
    have hD : va_D A [oX2 t_h t_a (-1) r_6 (-1), oX1 p1_h p1_a p1_windows p1_washes p1_damp p1_heard p1_lines p1_hour p1_strings, arI G (p1_a 7) 12 p1_cans, arI G (p1_a 8) 8 p1_washPairs, arI G (p1_a 9) 8 p1_washHours, arI G (p1_a 10) 21 p1_pairs, arI G (p1_a 11) 21 p1_knots, oX6 p2_h p2_a p2_windows p2_goal p2_otherFrom p2_otherTo p2_least, arI G (p2_a 1) 12 p2_links] := hD
    refine lv_aload_n hx hb dX2_seek_54 rfl (lv_at hl 1 rfl) ?_
    refine va_get (D := G.1) (ci := 2) (v := .int r_6) (C := RX2) (T := TX2) (N := 3) hx hb hw inW2 hown hK.1 hP 0 rfl rfl 1 (by decide) (hw _ kw_38_19) (fun _ h9 => h9) rfl dX2_seek_55 ?_
    refine lv_iconst (v := (-1)) hx hb dX2_seek_58 (by decide) ?_
    refine lv_icmp_eq (tgt := 68) hx hb dX2_seek_59 (by decide) (fun c_8 => ?_) (fun c_8 => ?_)
    · have hf := ip c_8 hf
      refine lv_aload_n hx hb dX2_seek_68 rfl (lv_at hl 1 rfl) ?_
      refine lv_aload_n hx hb dX2_seek_69 rfl (lv_at hl 2 rfl) ?_
      refine lv_aload_n hx hb dX2_seek_70 rfl (lv_at hl 3 rfl) ?_
      refine lv_iload_n hx hb dX2_seek_71 rfl (lv_at hl 4 rfl) ?_
      refine lv_iload hx hb dX2_seek_72 (lv_at hl 5 rfl) ?_
      obtain ⟨t_size_9, t_first_10, t_second_11, p1_strings_12, p1_pairs_13, p1_knots_14, p2_links_15, hc_16, hf⟩ := bd7_in hf
      refine wcV (w1 := [oX2 t_h t_a t_size_9 t_first_10 t_second_11, oX1 p1_h p1_a p1_windows p1_washes p1_damp p1_heard p1_lines p1_hour p1_strings_12, arI G (p1_a 7) 12 p1_cans, arI G (p1_a 8) 8 p1_washPairs, arI G (p1_a 9) 8 p1_washHours, arI G (p1_a 10) 21 p1_pairs_13, arI G (p1_a 11) 21 p1_knots_14, oX6 p2_h p2_a p2_windows p2_goal p2_otherFrom p2_otherTo p2_least, arI G (p2_a 1) 12 p2_links_15]) (va_runV (As := [.ref p1_h, .ref p2_h, .int v3, .int v4]) (rest := []) ⟨hx, hb, hml, hown, hw⟩ ((ctX2_seekTwo l G t_h t_a p1_h p1_a p2_h p2_a (-1) r_6 (-1) p1_windows p1_washes p1_damp p1_heard p1_lines p1_hour p1_strings p1_cans p1_washPairs p1_washHours p1_pairs p1_knots p2_windows p2_links p2_goal p2_otherFrom p2_otherTo p2_least v3 v4 _ _ _ _ _ _ _ hc_16) _) (kV hw calX2_seekTwo kw_39_2 rfl rfl ⟨Nat.le_of_ble_eq_true rfl, Nat.le_of_ble_eq_true rfl⟩) (wpV (hP.sub (ws' := [oX2 t_h t_a (-1) r_6 (-1), oX1 p1_h p1_a p1_windows p1_washes p1_damp p1_heard p1_lines p1_hour p1_strings, arI G (p1_a 7) 12 p1_cans, arI G (p1_a 8) 8 p1_washPairs, arI G (p1_a 9) 8 p1_washHours, arI G (p1_a 10) 21 p1_pairs, arI G (p1_a 11) 21 p1_knots, oX6 p2_h p2_a p2_windows p2_goal p2_otherFrom p2_otherTo p2_least, arI G (p2_a 1) 12 p2_links]) [0, 1, 2, 3, 4, 5, 6, 7, 8] rfl) (hD.sub (ws' := [oX2 t_h t_a (-1) r_6 (-1), oX1 p1_h p1_a p1_windows p1_washes p1_damp p1_heard p1_lines p1_hour p1_strings, arI G (p1_a 7) 12 p1_cans, arI G (p1_a 8) 8 p1_washPairs, arI G (p1_a 9) 8 p1_washHours, arI G (p1_a 10) 21 p1_pairs, arI G (p1_a 11) 21 p1_knots, oX6 p2_h p2_a p2_windows p2_goal p2_otherFrom p2_otherTo p2_least, arI G (p2_a 1) 12 p2_links]) [0, 1, 2, 3, 4, 5, 6, 7, 8] (by decide) rfl) hK (ci := 2) (q0 := 0) rfl rfl) rfl rfl hl.1 rfl (lv_room (Nat.le_of_ble_eq_true rfl)) dX2_seek_74 ⟨Nat.zero_le _, Nat.zero_le _⟩) hS hA hP hD [0, 1, 2, 3, 4, 5, 6, 7, 8] rfl rfl (fun H locs hP hD hS => ?_)
      have hP : va_P G.1 vwCl [oX2 t_h t_a t_size_9 t_first_10 t_second_11, oX1 p1_h p1_a p1_windows p1_washes p1_damp p1_heard p1_lines p1_hour p1_strings_12, arI G (p1_a 7) 12 p1_cans, arI G (p1_a 8) 8 p1_washPairs, arI G (p1_a 9) 8 p1_washHours, arI G (p1_a 10) 21 p1_pairs_13, arI G (p1_a 11) 21 p1_knots_14, oX6 p2_h p2_a p2_windows p2_goal p2_otherFrom p2_otherTo p2_least, arI G (p2_a 1) 12 p2_links_15] H := hP
      have hD : va_D A [oX2 t_h t_a t_size_9 t_first_10 t_second_11, oX1 p1_h p1_a p1_windows p1_washes p1_damp p1_heard p1_lines p1_hour p1_strings_12, arI G (p1_a 7) 12 p1_cans, arI G (p1_a 8) 8 p1_washPairs, arI G (p1_a 9) 8 p1_washHours, arI G (p1_a 10) 21 p1_pairs_13, arI G (p1_a 11) 21 p1_knots_14, oX6 p2_h p2_a p2_windows p2_goal p2_otherFrom p2_otherTo p2_least, arI G (p2_a 1) 12 p2_links_15] := hD
      exact hRet _ _ _ _ _ _ _ _ _ _ _ hf hP hS dX2_seek_77
    · have hf := iq c_8 hf
      refine lv_aload_n hx hb dX2_seek_62 rfl (lv_at hl 1 rfl) ?_
      refine lv_iconst (v := 1) hx hb dX2_seek_63 (by decide) ?_
      refine va_put (D := G.1) (ci := 2) (v := .int 1) (ty := .int) (C := RX2) (T := TX2) (N := 3) hx hb hw inW2 tyX2 tyX2_ok nmX2 hown hK.1 hP hD hS 0 rfl rfl 0 (by decide) (hw _ kw_38_18) (fun _ h9 => h9) rfl (by decide +kernel) rfl rfl (Nat.le_of_ble_eq_true rfl) dX2_seek_64 (fun H locs hP hD hS => ?_)
      have hP : va_P G.1 vwCl [oX2 t_h t_a 1 r_6 (-1), oX1 p1_h p1_a p1_windows p1_washes p1_damp p1_heard p1_lines p1_hour p1_strings, arI G (p1_a 7) 12 p1_cans, arI G (p1_a 8) 8 p1_washPairs, arI G (p1_a 9) 8 p1_washHours, arI G (p1_a 10) 21 p1_pairs, arI G (p1_a 11) 21 p1_knots, oX6 p2_h p2_a p2_windows p2_goal p2_otherFrom p2_otherTo p2_least, arI G (p2_a 1) 12 p2_links] H := hP
      have hD : va_D A [oX2 t_h t_a 1 r_6 (-1), oX1 p1_h p1_a p1_windows p1_washes p1_damp p1_heard p1_lines p1_hour p1_strings, arI G (p1_a 7) 12 p1_cans, arI G (p1_a 8) 8 p1_washPairs, arI G (p1_a 9) 8 p1_washHours, arI G (p1_a 10) 21 p1_pairs, arI G (p1_a 11) 21 p1_knots, oX6 p2_h p2_a p2_windows p2_goal p2_otherFrom p2_otherTo p2_least, arI G (p2_a 1) 12 p2_links] := hD
      exact hRet _ _ _ _ _ _ _ _ _ _ _ hf hP hS dX2_seek_67
  · have hf := iq c_3 hf
    refine lv_aload_n hx hb dX2_seek_32 rfl (lv_at hl 1 rfl) ?_
    refine lv_iconst (v := 0) hx hb dX2_seek_33 (by decide) ?_
    refine va_put (D := G.1) (ci := 2) (v := .int 0) (ty := .int) (C := RX2) (T := TX2) (N := 3) hx hb hw inW2 tyX2 tyX2_ok nmX2 hown hK.1 hP hD hS 0 rfl rfl 0 (by decide) (hw _ kw_38_18) (fun _ h9 => h9) rfl (by decide +kernel) rfl rfl (Nat.le_of_ble_eq_true rfl) dX2_seek_34 (fun H locs hP hD hS => ?_)
    have hP : va_P G.1 vwCl [oX2 t_h t_a 0 (-1) (-1), oX1 p1_h p1_a p1_windows p1_washes p1_damp p1_heard p1_lines p1_hour p1_strings, arI G (p1_a 7) 12 p1_cans, arI G (p1_a 8) 8 p1_washPairs, arI G (p1_a 9) 8 p1_washHours, arI G (p1_a 10) 21 p1_pairs, arI G (p1_a 11) 21 p1_knots, oX6 p2_h p2_a p2_windows p2_goal p2_otherFrom p2_otherTo p2_least, arI G (p2_a 1) 12 p2_links] H := hP
    have hD : va_D A [oX2 t_h t_a 0 (-1) (-1), oX1 p1_h p1_a p1_windows p1_washes p1_damp p1_heard p1_lines p1_hour p1_strings, arI G (p1_a 7) 12 p1_cans, arI G (p1_a 8) 8 p1_washPairs, arI G (p1_a 9) 8 p1_washHours, arI G (p1_a 10) 21 p1_pairs, arI G (p1_a 11) 21 p1_knots, oX6 p2_h p2_a p2_windows p2_goal p2_otherFrom p2_otherTo p2_least, arI G (p2_a 1) 12 p2_links] := hD
    exact hRet _ _ _ _ _ _ _ _ _ _ _ hf hP hS dX2_seek_37
theorem calX0_compare : CalV yX0_compare cX0_compare 5 none 3 := ⟨⟨kw_40_19, kw_2_8, by decide +kernel⟩, kw_40_17, kw_40_18⟩
set_option maxHeartbeats 8000000 in
set_option maxRecDepth 100000 in
theorem ctX0_compare (l : Launch) (G : GT) (t_h : Nat) (t_a : Nat → Nat) (t_places : Int32) (t_most : Int32) (t_leastLength : Int32) (t_leastPlaces : Int32) (v1 : Int32) (v2 : Int32) (v3 : Int32) (o_t_most : Int32) (o_t_leastLength : Int32) (o_t_leastPlaces : Int32) (hf : fX0_compare t_most t_leastLength t_leastPlaces v1 v2 v3 = some (o_t_most, o_t_leastLength, o_t_leastPlaces)) : WrV l yX0_compare (Cond.code yX0_compare cX0_compare 5 none) { frames := 0, cells := 0, slots := 0, locals := 0 } G [.ref t_h, .int v1, .int v2, .int v3] [oX0 t_h t_a t_places t_most t_leastLength t_leastPlaces] [oX0 t_h t_a t_places o_t_most o_t_leastLength o_t_leastPlaces] := by
  intro sz
  refine Met.ofW (cc := cX0_compare) (maxL := 5) (ret := none) (by decide) rfl ?_
  intro p e s m args below meth c s₁ B hml hv
  obtain ⟨hargs, hsz, hP, hD0, hK⟩ := hv
  subst hsz
  obtain ⟨hx, hb, hr, hw, hown, hlk⟩ := fwB B
  refine fw_enter hargs (Nat.le_of_ble_eq_true rfl) (fun ls hl => ?_)
  have hl : lv_has ls 5 [(0, .ref t_h), (1, .int v1), (2, .int v2), (3, .int v3)] := hl
  refine fw_Q (P := fun Q => ∃ A : Nat → Prop, va_D A [oX0 t_h t_a t_places t_most t_leastLength t_leastPlaces] ∧ va_S A s.heap s.heap [] ∧ (∀ q, s.heap.size ≤ q → A q) ∧ ∀ (n_t_most : Int32) (n_t_leastLength : Int32) (n_t_leastPlaces : Int32) (H : Heap) (locs : List Loc) (pc : Nat) (ls : Array Slot), some (n_t_most, n_t_leastLength, n_t_leastPlaces) = some (o_t_most, o_t_leastLength, o_t_leastPlaces) → va_P G.1 vwCl [oX0 t_h t_a t_places n_t_most n_t_leastLength n_t_leastPlaces] H → va_S A s.heap H locs → decode cX0_compare pc = .ok (.return_, 1) → W p l e ({ frames := 0, cells := 0, slots := 0, locals := 0 } : Room) s m args below meth c H locs 0 0 Q (F0 m pc ls [])) ⟨va_A [oX0 t_h t_a t_places t_most t_leastLength t_leastPlaces] s.heap.size, hD0.self (sz := s.heap.size), va_S.rf, fun q h => Or.inr h, ?_⟩ ?_
  · intro n_t_most n_t_leastLength n_t_leastPlaces H locs pc ls h hP hS hd
    cases h
    exact retWV hx hb hr hlk hS hP hd
  rintro Q ⟨A, hD, hS, hA, hRet⟩
  change W p l e ({ frames := 0, cells := 0, slots := 0, locals := 0 } : Room) s m args below meth c _ _ 0 0 Q _
  unfold fX0_compare at hf
  refine lv_iload_n hx hb dX0_compare_0 rfl (lv_at hl 1 rfl) ?_
  refine lv_aload_n hx hb dX0_compare_1 rfl (lv_at hl 0 rfl) ?_
  refine va_get (D := G.1) (ci := 0) (v := .int t_most) (C := RX0) (T := TX0) (N := 6) hx hb hw inW0 hown hK.1 hP 0 rfl rfl 3 (by decide) (hw _ kw_40_9) (fun _ h9 => h9) rfl dX0_compare_2 ?_
  refine jn_el hf (fun k_2 ek_2 hf => ?_)
  have J21 : ∀ (z_1 : Int32) (H : Heap) (locs : List Loc) (ls : Array Slot), va_P G.1 vwCl [oX0 t_h t_a t_places t_most t_leastLength t_leastPlaces] H → va_D A [oX0 t_h t_a t_places t_most t_leastLength t_leastPlaces] → va_S A s.heap H locs → lv_has ls 5 [(0, .ref t_h), (1, .int v1), (2, .int v2), (3, .int v3)] → k_2 z_1 = some (o_t_most, o_t_leastLength, o_t_leastPlaces) → W p l e ({ frames := 0, cells := 0, slots := 0, locals := 0 } : Room) s m args below meth c H locs 0 0 Q (F0 m 21 ls [.int z_1]) := by
    intro z_1 H locs ls hP hD hS hl hf
    rw [ek_2] at hf
    refine lv_istore (lv' := [(4, .int z_1), (0, .ref t_h), (1, .int v1), (2, .int v2), (3, .int v3)]) hx hb dX0_compare_21 hl (by decide) rfl (fun ls hl => ?_)
    refine lv_iload_n hx hb dX0_compare_23 rfl (lv_at hl 2 rfl) ?_
    refine lv_aload_n hx hb dX0_compare_24 rfl (lv_at hl 1 rfl) ?_
    refine va_get (D := G.1) (ci := 0) (v := .int t_most) (C := RX0) (T := TX0) (N := 6) hx hb hw inW0 hown hK.1 hP 0 rfl rfl 3 (by decide) (hw _ kw_40_9) (fun _ h9 => h9) rfl dX0_compare_25 ?_
    refine jn_el hf (fun k_3 ek_3 hf => ?_)
    have J60 : ∀  (H : Heap) (locs : List Loc) (ls : Array Slot), va_P G.1 vwCl [oX0 t_h t_a t_places t_most t_leastLength t_leastPlaces] H → va_D A [oX0 t_h t_a t_places t_most t_leastLength t_leastPlaces] → va_S A s.heap H locs → lv_has ls 5 [(0, .ref t_h), (1, .int v1), (2, .int v2), (3, .int v3)] → k_3 = some (o_t_most, o_t_leastLength, o_t_leastPlaces) → W p l e ({ frames := 0, cells := 0, slots := 0, locals := 0 } : Room) s m args below meth c H locs 0 0 Q (F0 m 60 ls []) := by
      intro  H locs ls hP hD hS hl hf
      rw [ek_3] at hf
      refine lv_aload_n hx hb dX0_compare_60 rfl (lv_at hl 0 rfl) ?_
      refine lv_iload_n hx hb dX0_compare_61 rfl (lv_at hl 1 rfl) ?_
      refine va_put (D := G.1) (ci := 0) (v := .int v1) (ty := .int) (C := RX0) (T := TX0) (N := 6) hx hb hw inW0 tyX0 tyX0_ok nmX0 hown hK.1 hP hD hS 0 rfl rfl 3 (by decide) (hw _ kw_40_9) (fun _ h9 => h9) rfl (by decide +kernel) rfl rfl (Nat.le_of_ble_eq_true rfl) dX0_compare_62 (fun H locs hP hD hS => ?_)
      have hP : va_P G.1 vwCl [oX0 t_h t_a t_places v1 t_leastLength t_leastPlaces] H := hP
      have hD : va_D A [oX0 t_h t_a t_places v1 t_leastLength t_leastPlaces] := hD
      refine lv_aload_n hx hb dX0_compare_65 rfl (lv_at hl 0 rfl) ?_
      refine lv_iload_n hx hb dX0_compare_66 rfl (lv_at hl 2 rfl) ?_
      refine va_put (D := G.1) (ci := 0) (v := .int v2) (ty := .int) (C := RX0) (T := TX0) (N := 6) hx hb hw inW0 tyX0 tyX0_ok nmX0 hown hK.1 hP hD hS 0 rfl rfl 4 (by decide) (hw _ kw_40_20) (fun _ h9 => h9) rfl (by decide +kernel) rfl rfl (Nat.le_of_ble_eq_true rfl) dX0_compare_67 (fun H locs hP hD hS => ?_)
      have hP : va_P G.1 vwCl [oX0 t_h t_a t_places v1 v2 t_leastPlaces] H := hP
      have hD : va_D A [oX0 t_h t_a t_places v1 v2 t_leastPlaces] := hD
      refine lv_aload_n hx hb dX0_compare_70 rfl (lv_at hl 0 rfl) ?_
      refine lv_iload_n hx hb dX0_compare_71 rfl (lv_at hl 3 rfl) ?_
      refine va_put (D := G.1) (ci := 0) (v := .int v3) (ty := .int) (C := RX0) (T := TX0) (N := 6) hx hb hw inW0 tyX0 tyX0_ok nmX0 hown hK.1 hP hD hS 0 rfl rfl 5 (by decide) (hw _ kw_40_21) (fun _ h9 => h9) rfl (by decide +kernel) rfl rfl (Nat.le_of_ble_eq_true rfl) dX0_compare_72 (fun H locs hP hD hS => ?_)
      have hP : va_P G.1 vwCl [oX0 t_h t_a t_places v1 v2 v3] H := hP
      have hD : va_D A [oX0 t_h t_a t_places v1 v2 v3] := hD
      exact hRet _ _ _ _ _ _ _ hf hP hS dX0_compare_75
    refine lv_icmp_gt (tgt := 60) hx hb dX0_compare_28 (by decide) (fun c_4 => ?_) (fun c_4 => ?_)
    · have hf := ip c_4 hf
      exact J60  _ _ _ hP hD hS (lv_sub hl [1, 2, 3, 4] rfl) hf
    · have hf := iq c_4 hf
      refine lv_iload_n hx hb dX0_compare_31 rfl (lv_at hl 2 rfl) ?_
      refine lv_aload_n hx hb dX0_compare_32 rfl (lv_at hl 1 rfl) ?_
      refine va_get (D := G.1) (ci := 0) (v := .int t_most) (C := RX0) (T := TX0) (N := 6) hx hb hw inW0 hown hK.1 hP 0 rfl rfl 3 (by decide) (hw _ kw_40_9) (fun _ h9 => h9) rfl dX0_compare_33 ?_
      refine jn_el hf (fun k_5 ek_5 hf => ?_)
      have J47 : ∀  (H : Heap) (locs : List Loc) (ls : Array Slot), va_P G.1 vwCl [oX0 t_h t_a t_places t_most t_leastLength t_leastPlaces] H → va_D A [oX0 t_h t_a t_places t_most t_leastLength t_leastPlaces] → va_S A s.heap H locs → lv_has ls 5 [(0, .ref t_h), (1, .int v1), (2, .int v2), (3, .int v3), (4, .int z_1)] → k_5 = some (o_t_most, o_t_leastLength, o_t_leastPlaces) → W p l e ({ frames := 0, cells := 0, slots := 0, locals := 0 } : Room) s m args below meth c H locs 0 0 Q (F0 m 47 ls []) := by
        intro  H locs ls hP hD hS hl hf
        rw [ek_5] at hf
        refine lv_iload hx hb dX0_compare_47 (lv_at hl 4 rfl) ?_
        refine lv_if_eq (tgt := 75) hx hb dX0_compare_49 (by decide) (fun c_6 => ?_) (fun c_6 => ?_)
        · have hf := ip c_6 hf
          exact hRet _ _ _ _ _ _ _ hf hP hS dX0_compare_75
        · have hf := iq c_6 hf
          refine lv_iload_n hx hb dX0_compare_52 rfl (lv_at hl 3 rfl) ?_
          refine lv_aload_n hx hb dX0_compare_53 rfl (lv_at hl 0 rfl) ?_
          refine va_get (D := G.1) (ci := 0) (v := .int t_leastPlaces) (C := RX0) (T := TX0) (N := 6) hx hb hw inW0 hown hK.1 hP 0 rfl rfl 5 (by decide) (hw _ kw_40_21) (fun _ h9 => h9) rfl dX0_compare_54 ?_
          refine lv_icmp_ge (tgt := 75) hx hb dX0_compare_57 (by decide) (fun c_7 => ?_) (fun c_7 => ?_)
          · have hf := ip c_7 hf
            exact hRet _ _ _ _ _ _ _ hf hP hS dX0_compare_75
          · have hf := iq c_7 hf
            exact J60  _ _ _ hP hD hS (lv_sub hl [0, 1, 2, 3] rfl) hf
      refine lv_icmp_ne (tgt := 47) hx hb dX0_compare_36 (by decide) (fun c_8 => ?_) (fun c_8 => ?_)
      · have hf := iq c_8 hf
        exact J47  _ _ _ hP hD hS (lv_sub hl [1, 2, 3, 4, 0] rfl) hf
      · have hf := ip c_8 hf
        refine lv_iload_n hx hb dX0_compare_39 rfl (lv_at hl 3 rfl) ?_
        refine lv_aload_n hx hb dX0_compare_40 rfl (lv_at hl 1 rfl) ?_
        refine va_get (D := G.1) (ci := 0) (v := .int t_leastLength) (C := RX0) (T := TX0) (N := 6) hx hb hw inW0 hown hK.1 hP 0 rfl rfl 4 (by decide) (hw _ kw_40_20) (fun _ h9 => h9) rfl dX0_compare_41 ?_
        refine lv_icmp_lt (tgt := 60) hx hb dX0_compare_44 (by decide) (fun c_9 => ?_) (fun c_9 => ?_)
        · have hf := ip c_9 hf
          exact J60  _ _ _ hP hD hS (lv_sub hl [1, 2, 3, 4] rfl) hf
        · have hf := iq c_9 hf
          exact J47  _ _ _ hP hD hS (lv_sub hl [1, 2, 3, 4, 0] rfl) hf
  refine lv_icmp_ne (tgt := 20) hx hb dX0_compare_5 (by decide) (fun c_10 => ?_) (fun c_10 => ?_)
  · have hf := iq c_10 hf
    refine lv_iconst (v := 0) hx hb dX0_compare_20 (by decide) ?_
    exact J21 _ _ _ _ hP hD hS (lv_sub hl [0, 1, 2, 3] rfl) hf
  · have hf := ip c_10 hf
    refine lv_iload_n hx hb dX0_compare_8 rfl (lv_at hl 2 rfl) ?_
    refine lv_aload_n hx hb dX0_compare_9 rfl (lv_at hl 0 rfl) ?_
    refine va_get (D := G.1) (ci := 0) (v := .int t_leastLength) (C := RX0) (T := TX0) (N := 6) hx hb hw inW0 hown hK.1 hP 0 rfl rfl 4 (by decide) (hw _ kw_40_20) (fun _ h9 => h9) rfl dX0_compare_10 ?_
    refine lv_icmp_ne (tgt := 20) hx hb dX0_compare_13 (by decide) (fun c_11 => ?_) (fun c_11 => ?_)
    · have hf := iq c_11 hf
      refine lv_iconst (v := 0) hx hb dX0_compare_20 (by decide) ?_
      exact J21 _ _ _ _ hP hD hS (lv_sub hl [0, 1, 2, 3] rfl) hf
    · have hf := ip c_11 hf
      refine lv_iconst (v := 1) hx hb dX0_compare_16 (by decide) ?_
      refine lv_goto (tgt := 21) hx hb dX0_compare_17 (by decide) ?_
      exact J21 _ _ _ _ hP hD hS (lv_sub hl [0, 1, 2, 3] rfl) hf
theorem calX1_takeFrom : CalV yX1_takeFrom cX1_takeFrom 2 none 1 := ⟨⟨kw_42_16, kw_1_19, by decide +kernel⟩, kw_42_14, kw_42_15⟩
set_option maxHeartbeats 8000000 in
set_option maxRecDepth 100000 in
theorem ctX1_takeFrom (l : Launch) (G : GT) (t_h : Nat) (t_a : Nat → Nat) (p1_h : Nat) (p1_a : Nat → Nat) (t_windows : Int32) (t_washes : Int32) (t_damp : Int32) (t_heard : Int32) (t_lines : Int32) (t_hour : Int32) (t_strings : Int32) (t_cans : Nat → Int32) (t_washPairs : Nat → Int32) (t_washHours : Nat → Int32) (t_pairs : Nat → Int32) (t_knots : Nat → Int32) (p1_windows : Int32) (p1_washes : Int32) (p1_damp : Int32) (p1_heard : Int32) (p1_lines : Int32) (p1_hour : Int32) (p1_strings : Int32) (p1_cans : Nat → Int32) (p1_washPairs : Nat → Int32) (p1_washHours : Nat → Int32) (p1_pairs : Nat → Int32) (p1_knots : Nat → Int32) (o_t_windows : Int32) (o_t_washes : Int32) (o_t_damp : Int32) (o_t_heard : Int32) (o_t_lines : Int32) (o_t_hour : Int32) (o_t_strings : Int32) (o_t_cans : Nat → Int32) (o_t_washPairs : Nat → Int32) (o_t_washHours : Nat → Int32) (o_t_pairs : Nat → Int32) (o_t_knots : Nat → Int32) (hf : fX1_takeFrom t_windows t_washes t_damp t_heard t_lines t_hour t_strings t_cans t_washPairs t_washHours t_pairs t_knots p1_windows p1_washes p1_damp p1_heard p1_lines p1_hour p1_strings p1_cans p1_washPairs p1_washHours p1_pairs p1_knots = some (o_t_windows, o_t_washes, o_t_damp, o_t_heard, o_t_lines, o_t_hour, o_t_strings, o_t_cans, o_t_washPairs, o_t_washHours, o_t_pairs, o_t_knots)) : WrV l yX1_takeFrom (Cond.code yX1_takeFrom cX1_takeFrom 2 none) { frames := 1, cells := 0, slots := 0, locals := 64 } G [.ref t_h, .ref p1_h] [oX1 t_h t_a t_windows t_washes t_damp t_heard t_lines t_hour t_strings, arI G (t_a 7) 12 t_cans, arI G (t_a 8) 8 t_washPairs, arI G (t_a 9) 8 t_washHours, arI G (t_a 10) 21 t_pairs, arI G (t_a 11) 21 t_knots, oX1 p1_h p1_a p1_windows p1_washes p1_damp p1_heard p1_lines p1_hour p1_strings, arI G (p1_a 7) 12 p1_cans, arI G (p1_a 8) 8 p1_washPairs, arI G (p1_a 9) 8 p1_washHours, arI G (p1_a 10) 21 p1_pairs, arI G (p1_a 11) 21 p1_knots] [oX1 t_h t_a o_t_windows o_t_washes o_t_damp o_t_heard o_t_lines o_t_hour o_t_strings, arI G (t_a 7) 12 o_t_cans, arI G (t_a 8) 8 o_t_washPairs, arI G (t_a 9) 8 o_t_washHours, arI G (t_a 10) 21 o_t_pairs, arI G (t_a 11) 21 o_t_knots, oX1 p1_h p1_a p1_windows p1_washes p1_damp p1_heard p1_lines p1_hour p1_strings, arI G (p1_a 7) 12 p1_cans, arI G (p1_a 8) 8 p1_washPairs, arI G (p1_a 9) 8 p1_washHours, arI G (p1_a 10) 21 p1_pairs, arI G (p1_a 11) 21 p1_knots] := by
  intro sz
  refine Met.ofW (cc := cX1_takeFrom) (maxL := 2) (ret := none) (by decide) rfl ?_
  intro p e s m args below meth c s₁ B hml hv
  obtain ⟨hargs, hsz, hP, hD0, hK⟩ := hv
  subst hsz
  obtain ⟨hx, hb, hr, hw, hown, hlk⟩ := fwB B
  refine fw_enter hargs (Nat.le_of_ble_eq_true rfl) (fun ls hl => ?_)
  have hl : lv_has ls 2 [(0, .ref t_h), (1, .ref p1_h)] := hl
  refine fw_Q (P := fun Q => ∃ A : Nat → Prop, va_D A [oX1 t_h t_a t_windows t_washes t_damp t_heard t_lines t_hour t_strings, arI G (t_a 7) 12 t_cans, arI G (t_a 8) 8 t_washPairs, arI G (t_a 9) 8 t_washHours, arI G (t_a 10) 21 t_pairs, arI G (t_a 11) 21 t_knots, oX1 p1_h p1_a p1_windows p1_washes p1_damp p1_heard p1_lines p1_hour p1_strings, arI G (p1_a 7) 12 p1_cans, arI G (p1_a 8) 8 p1_washPairs, arI G (p1_a 9) 8 p1_washHours, arI G (p1_a 10) 21 p1_pairs, arI G (p1_a 11) 21 p1_knots] ∧ va_S A s.heap s.heap [] ∧ (∀ q, s.heap.size ≤ q → A q) ∧ ∀ (n_t_windows : Int32) (n_t_washes : Int32) (n_t_damp : Int32) (n_t_heard : Int32) (n_t_lines : Int32) (n_t_hour : Int32) (n_t_strings : Int32) (n_t_cans : Nat → Int32) (n_t_washPairs : Nat → Int32) (n_t_washHours : Nat → Int32) (n_t_pairs : Nat → Int32) (n_t_knots : Nat → Int32) (H : Heap) (locs : List Loc) (pc : Nat) (ls : Array Slot), some (n_t_windows, n_t_washes, n_t_damp, n_t_heard, n_t_lines, n_t_hour, n_t_strings, n_t_cans, n_t_washPairs, n_t_washHours, n_t_pairs, n_t_knots) = some (o_t_windows, o_t_washes, o_t_damp, o_t_heard, o_t_lines, o_t_hour, o_t_strings, o_t_cans, o_t_washPairs, o_t_washHours, o_t_pairs, o_t_knots) → va_P G.1 vwCl [oX1 t_h t_a n_t_windows n_t_washes n_t_damp n_t_heard n_t_lines n_t_hour n_t_strings, arI G (t_a 7) 12 n_t_cans, arI G (t_a 8) 8 n_t_washPairs, arI G (t_a 9) 8 n_t_washHours, arI G (t_a 10) 21 n_t_pairs, arI G (t_a 11) 21 n_t_knots, oX1 p1_h p1_a p1_windows p1_washes p1_damp p1_heard p1_lines p1_hour p1_strings, arI G (p1_a 7) 12 p1_cans, arI G (p1_a 8) 8 p1_washPairs, arI G (p1_a 9) 8 p1_washHours, arI G (p1_a 10) 21 p1_pairs, arI G (p1_a 11) 21 p1_knots] H → va_S A s.heap H locs → decode cX1_takeFrom pc = .ok (.return_, 1) → W p l e ({ frames := 1, cells := 0, slots := 0, locals := 64 } : Room) s m args below meth c H locs 0 0 Q (F0 m pc ls [])) ⟨va_A [oX1 t_h t_a t_windows t_washes t_damp t_heard t_lines t_hour t_strings, arI G (t_a 7) 12 t_cans, arI G (t_a 8) 8 t_washPairs, arI G (t_a 9) 8 t_washHours, arI G (t_a 10) 21 t_pairs, arI G (t_a 11) 21 t_knots, oX1 p1_h p1_a p1_windows p1_washes p1_damp p1_heard p1_lines p1_hour p1_strings, arI G (p1_a 7) 12 p1_cans, arI G (p1_a 8) 8 p1_washPairs, arI G (p1_a 9) 8 p1_washHours, arI G (p1_a 10) 21 p1_pairs, arI G (p1_a 11) 21 p1_knots] s.heap.size, hD0.self (sz := s.heap.size), va_S.rf, fun q h => Or.inr h, ?_⟩ ?_
  · intro n_t_windows n_t_washes n_t_damp n_t_heard n_t_lines n_t_hour n_t_strings n_t_cans n_t_washPairs n_t_washHours n_t_pairs n_t_knots H locs pc ls h hP hS hd
    cases h
    exact retWV hx hb hr hlk hS hP hd
  rintro Q ⟨A, hD, hS, hA, hRet⟩
  change W p l e ({ frames := 1, cells := 0, slots := 0, locals := 64 } : Room) s m args below meth c _ _ 0 0 Q _
  unfold fX1_takeFrom at hf
  refine lv_aload_n hx hb dX1_takeFrom_0 rfl (lv_at hl 0 rfl) ?_
  refine lv_aload_n hx hb dX1_takeFrom_1 rfl (lv_at hl 1 rfl) ?_
  refine va_get (D := G.1) (ci := 1) (v := .int p1_windows) (C := RX1) (T := TX1) (N := 12) hx hb hw inW1 hown hK.1 hP 6 rfl rfl 0 (by decide) (hw _ kw_3_17) (fun _ h9 => h9) rfl dX1_takeFrom_2 ?_
  refine va_put (D := G.1) (ci := 1) (v := .int p1_windows) (ty := .int) (C := RX1) (T := TX1) (N := 12) hx hb hw inW1 tyX1 tyX1_ok nmX1 hown hK.1 hP hD hS 0 rfl rfl 0 (by decide) (hw _ kw_3_17) (fun _ h9 => h9) rfl (by decide +kernel) rfl rfl (Nat.le_of_ble_eq_true rfl) dX1_takeFrom_5 (fun H locs hP hD hS => ?_)
  have hP : va_P G.1 vwCl [oX1 t_h t_a p1_windows t_washes t_damp t_heard t_lines t_hour t_strings, arI G (t_a 7) 12 t_cans, arI G (t_a 8) 8 t_washPairs, arI G (t_a 9) 8 t_washHours, arI G (t_a 10) 21 t_pairs, arI G (t_a 11) 21 t_knots, oX1 p1_h p1_a p1_windows p1_washes p1_damp p1_heard p1_lines p1_hour p1_strings, arI G (p1_a 7) 12 p1_cans, arI G (p1_a 8) 8 p1_washPairs, arI G (p1_a 9) 8 p1_washHours, arI G (p1_a 10) 21 p1_pairs, arI G (p1_a 11) 21 p1_knots] H := hP
  have hD : va_D A [oX1 t_h t_a p1_windows t_washes t_damp t_heard t_lines t_hour t_strings, arI G (t_a 7) 12 t_cans, arI G (t_a 8) 8 t_washPairs, arI G (t_a 9) 8 t_washHours, arI G (t_a 10) 21 t_pairs, arI G (t_a 11) 21 t_knots, oX1 p1_h p1_a p1_windows p1_washes p1_damp p1_heard p1_lines p1_hour p1_strings, arI G (p1_a 7) 12 p1_cans, arI G (p1_a 8) 8 p1_washPairs, arI G (p1_a 9) 8 p1_washHours, arI G (p1_a 10) 21 p1_pairs, arI G (p1_a 11) 21 p1_knots] := hD
  refine lv_aload_n hx hb dX1_takeFrom_8 rfl (lv_at hl 0 rfl) ?_
  refine lv_aload_n hx hb dX1_takeFrom_9 rfl (lv_at hl 1 rfl) ?_
  refine va_get (D := G.1) (ci := 1) (v := .int p1_washes) (C := RX1) (T := TX1) (N := 12) hx hb hw inW1 hown hK.1 hP 6 rfl rfl 1 (by decide) (hw _ kw_3_18) (fun _ h9 => h9) rfl dX1_takeFrom_10 ?_
  refine va_put (D := G.1) (ci := 1) (v := .int p1_washes) (ty := .int) (C := RX1) (T := TX1) (N := 12) hx hb hw inW1 tyX1 tyX1_ok nmX1 hown hK.1 hP hD hS 0 rfl rfl 1 (by decide) (hw _ kw_3_18) (fun _ h9 => h9) rfl (by decide +kernel) rfl rfl (Nat.le_of_ble_eq_true rfl) dX1_takeFrom_13 (fun H locs hP hD hS => ?_)
  have hP : va_P G.1 vwCl [oX1 t_h t_a p1_windows p1_washes t_damp t_heard t_lines t_hour t_strings, arI G (t_a 7) 12 t_cans, arI G (t_a 8) 8 t_washPairs, arI G (t_a 9) 8 t_washHours, arI G (t_a 10) 21 t_pairs, arI G (t_a 11) 21 t_knots, oX1 p1_h p1_a p1_windows p1_washes p1_damp p1_heard p1_lines p1_hour p1_strings, arI G (p1_a 7) 12 p1_cans, arI G (p1_a 8) 8 p1_washPairs, arI G (p1_a 9) 8 p1_washHours, arI G (p1_a 10) 21 p1_pairs, arI G (p1_a 11) 21 p1_knots] H := hP
  have hD : va_D A [oX1 t_h t_a p1_windows p1_washes t_damp t_heard t_lines t_hour t_strings, arI G (t_a 7) 12 t_cans, arI G (t_a 8) 8 t_washPairs, arI G (t_a 9) 8 t_washHours, arI G (t_a 10) 21 t_pairs, arI G (t_a 11) 21 t_knots, oX1 p1_h p1_a p1_windows p1_washes p1_damp p1_heard p1_lines p1_hour p1_strings, arI G (p1_a 7) 12 p1_cans, arI G (p1_a 8) 8 p1_washPairs, arI G (p1_a 9) 8 p1_washHours, arI G (p1_a 10) 21 p1_pairs, arI G (p1_a 11) 21 p1_knots] := hD
  refine lv_aload_n hx hb dX1_takeFrom_16 rfl (lv_at hl 0 rfl) ?_
  refine lv_aload_n hx hb dX1_takeFrom_17 rfl (lv_at hl 1 rfl) ?_
  refine va_get (D := G.1) (ci := 1) (v := .int p1_damp) (C := RX1) (T := TX1) (N := 12) hx hb hw inW1 hown hK.1 hP 6 rfl rfl 2 (by decide) (hw _ kw_3_19) (fun _ h9 => h9) rfl dX1_takeFrom_18 ?_
  refine va_put (D := G.1) (ci := 1) (v := .int p1_damp) (ty := .int) (C := RX1) (T := TX1) (N := 12) hx hb hw inW1 tyX1 tyX1_ok nmX1 hown hK.1 hP hD hS 0 rfl rfl 2 (by decide) (hw _ kw_3_19) (fun _ h9 => h9) rfl (by decide +kernel) rfl rfl (Nat.le_of_ble_eq_true rfl) dX1_takeFrom_21 (fun H locs hP hD hS => ?_)
  have hP : va_P G.1 vwCl [oX1 t_h t_a p1_windows p1_washes p1_damp t_heard t_lines t_hour t_strings, arI G (t_a 7) 12 t_cans, arI G (t_a 8) 8 t_washPairs, arI G (t_a 9) 8 t_washHours, arI G (t_a 10) 21 t_pairs, arI G (t_a 11) 21 t_knots, oX1 p1_h p1_a p1_windows p1_washes p1_damp p1_heard p1_lines p1_hour p1_strings, arI G (p1_a 7) 12 p1_cans, arI G (p1_a 8) 8 p1_washPairs, arI G (p1_a 9) 8 p1_washHours, arI G (p1_a 10) 21 p1_pairs, arI G (p1_a 11) 21 p1_knots] H := hP
  have hD : va_D A [oX1 t_h t_a p1_windows p1_washes p1_damp t_heard t_lines t_hour t_strings, arI G (t_a 7) 12 t_cans, arI G (t_a 8) 8 t_washPairs, arI G (t_a 9) 8 t_washHours, arI G (t_a 10) 21 t_pairs, arI G (t_a 11) 21 t_knots, oX1 p1_h p1_a p1_windows p1_washes p1_damp p1_heard p1_lines p1_hour p1_strings, arI G (p1_a 7) 12 p1_cans, arI G (p1_a 8) 8 p1_washPairs, arI G (p1_a 9) 8 p1_washHours, arI G (p1_a 10) 21 p1_pairs, arI G (p1_a 11) 21 p1_knots] := hD
  refine lv_aload_n hx hb dX1_takeFrom_24 rfl (lv_at hl 0 rfl) ?_
  refine lv_aload_n hx hb dX1_takeFrom_25 rfl (lv_at hl 1 rfl) ?_
  refine va_get (D := G.1) (ci := 1) (v := .int p1_heard) (C := RX1) (T := TX1) (N := 12) hx hb hw inW1 hown hK.1 hP 6 rfl rfl 3 (by decide) (hw _ kw_3_20) (fun _ h9 => h9) rfl dX1_takeFrom_26 ?_
  refine va_put (D := G.1) (ci := 1) (v := .int p1_heard) (ty := .int) (C := RX1) (T := TX1) (N := 12) hx hb hw inW1 tyX1 tyX1_ok nmX1 hown hK.1 hP hD hS 0 rfl rfl 3 (by decide) (hw _ kw_3_20) (fun _ h9 => h9) rfl (by decide +kernel) rfl rfl (Nat.le_of_ble_eq_true rfl) dX1_takeFrom_29 (fun H locs hP hD hS => ?_)
  have hP : va_P G.1 vwCl [oX1 t_h t_a p1_windows p1_washes p1_damp p1_heard t_lines t_hour t_strings, arI G (t_a 7) 12 t_cans, arI G (t_a 8) 8 t_washPairs, arI G (t_a 9) 8 t_washHours, arI G (t_a 10) 21 t_pairs, arI G (t_a 11) 21 t_knots, oX1 p1_h p1_a p1_windows p1_washes p1_damp p1_heard p1_lines p1_hour p1_strings, arI G (p1_a 7) 12 p1_cans, arI G (p1_a 8) 8 p1_washPairs, arI G (p1_a 9) 8 p1_washHours, arI G (p1_a 10) 21 p1_pairs, arI G (p1_a 11) 21 p1_knots] H := hP
  have hD : va_D A [oX1 t_h t_a p1_windows p1_washes p1_damp p1_heard t_lines t_hour t_strings, arI G (t_a 7) 12 t_cans, arI G (t_a 8) 8 t_washPairs, arI G (t_a 9) 8 t_washHours, arI G (t_a 10) 21 t_pairs, arI G (t_a 11) 21 t_knots, oX1 p1_h p1_a p1_windows p1_washes p1_damp p1_heard p1_lines p1_hour p1_strings, arI G (p1_a 7) 12 p1_cans, arI G (p1_a 8) 8 p1_washPairs, arI G (p1_a 9) 8 p1_washHours, arI G (p1_a 10) 21 p1_pairs, arI G (p1_a 11) 21 p1_knots] := hD
  refine lv_aload_n hx hb dX1_takeFrom_32 rfl (lv_at hl 0 rfl) ?_
  refine lv_aload_n hx hb dX1_takeFrom_33 rfl (lv_at hl 1 rfl) ?_
  refine va_get (D := G.1) (ci := 1) (v := .int p1_lines) (C := RX1) (T := TX1) (N := 12) hx hb hw inW1 hown hK.1 hP 6 rfl rfl 4 (by decide) (hw _ kw_3_21) (fun _ h9 => h9) rfl dX1_takeFrom_34 ?_
  refine va_put (D := G.1) (ci := 1) (v := .int p1_lines) (ty := .int) (C := RX1) (T := TX1) (N := 12) hx hb hw inW1 tyX1 tyX1_ok nmX1 hown hK.1 hP hD hS 0 rfl rfl 4 (by decide) (hw _ kw_3_21) (fun _ h9 => h9) rfl (by decide +kernel) rfl rfl (Nat.le_of_ble_eq_true rfl) dX1_takeFrom_37 (fun H locs hP hD hS => ?_)
  have hP : va_P G.1 vwCl [oX1 t_h t_a p1_windows p1_washes p1_damp p1_heard p1_lines t_hour t_strings, arI G (t_a 7) 12 t_cans, arI G (t_a 8) 8 t_washPairs, arI G (t_a 9) 8 t_washHours, arI G (t_a 10) 21 t_pairs, arI G (t_a 11) 21 t_knots, oX1 p1_h p1_a p1_windows p1_washes p1_damp p1_heard p1_lines p1_hour p1_strings, arI G (p1_a 7) 12 p1_cans, arI G (p1_a 8) 8 p1_washPairs, arI G (p1_a 9) 8 p1_washHours, arI G (p1_a 10) 21 p1_pairs, arI G (p1_a 11) 21 p1_knots] H := hP
  have hD : va_D A [oX1 t_h t_a p1_windows p1_washes p1_damp p1_heard p1_lines t_hour t_strings, arI G (t_a 7) 12 t_cans, arI G (t_a 8) 8 t_washPairs, arI G (t_a 9) 8 t_washHours, arI G (t_a 10) 21 t_pairs, arI G (t_a 11) 21 t_knots, oX1 p1_h p1_a p1_windows p1_washes p1_damp p1_heard p1_lines p1_hour p1_strings, arI G (p1_a 7) 12 p1_cans, arI G (p1_a 8) 8 p1_washPairs, arI G (p1_a 9) 8 p1_washHours, arI G (p1_a 10) 21 p1_pairs, arI G (p1_a 11) 21 p1_knots] := hD
  refine lv_aload_n hx hb dX1_takeFrom_40 rfl (lv_at hl 0 rfl) ?_
  refine lv_aload_n hx hb dX1_takeFrom_41 rfl (lv_at hl 1 rfl) ?_
  refine va_get (D := G.1) (ci := 1) (v := .int p1_hour) (C := RX1) (T := TX1) (N := 12) hx hb hw inW1 hown hK.1 hP 6 rfl rfl 5 (by decide) (hw _ kw_3_22) (fun _ h9 => h9) rfl dX1_takeFrom_42 ?_
  refine va_put (D := G.1) (ci := 1) (v := .int p1_hour) (ty := .int) (C := RX1) (T := TX1) (N := 12) hx hb hw inW1 tyX1 tyX1_ok nmX1 hown hK.1 hP hD hS 0 rfl rfl 5 (by decide) (hw _ kw_3_22) (fun _ h9 => h9) rfl (by decide +kernel) rfl rfl (Nat.le_of_ble_eq_true rfl) dX1_takeFrom_45 (fun H locs hP hD hS => ?_)
  have hP : va_P G.1 vwCl [oX1 t_h t_a p1_windows p1_washes p1_damp p1_heard p1_lines p1_hour t_strings, arI G (t_a 7) 12 t_cans, arI G (t_a 8) 8 t_washPairs, arI G (t_a 9) 8 t_washHours, arI G (t_a 10) 21 t_pairs, arI G (t_a 11) 21 t_knots, oX1 p1_h p1_a p1_windows p1_washes p1_damp p1_heard p1_lines p1_hour p1_strings, arI G (p1_a 7) 12 p1_cans, arI G (p1_a 8) 8 p1_washPairs, arI G (p1_a 9) 8 p1_washHours, arI G (p1_a 10) 21 p1_pairs, arI G (p1_a 11) 21 p1_knots] H := hP
  have hD : va_D A [oX1 t_h t_a p1_windows p1_washes p1_damp p1_heard p1_lines p1_hour t_strings, arI G (t_a 7) 12 t_cans, arI G (t_a 8) 8 t_washPairs, arI G (t_a 9) 8 t_washHours, arI G (t_a 10) 21 t_pairs, arI G (t_a 11) 21 t_knots, oX1 p1_h p1_a p1_windows p1_washes p1_damp p1_heard p1_lines p1_hour p1_strings, arI G (p1_a 7) 12 p1_cans, arI G (p1_a 8) 8 p1_washPairs, arI G (p1_a 9) 8 p1_washHours, arI G (p1_a 10) 21 p1_pairs, arI G (p1_a 11) 21 p1_knots] := hD
  refine lv_aload_n hx hb dX1_takeFrom_48 rfl (lv_at hl 0 rfl) ?_
  refine lv_aload_n hx hb dX1_takeFrom_49 rfl (lv_at hl 1 rfl) ?_
  refine va_get (D := G.1) (ci := 1) (v := .int p1_strings) (C := RX1) (T := TX1) (N := 12) hx hb hw inW1 hown hK.1 hP 6 rfl rfl 6 (by decide) (hw _ kw_3_23) (fun _ h9 => h9) rfl dX1_takeFrom_50 ?_
  refine va_put (D := G.1) (ci := 1) (v := .int p1_strings) (ty := .int) (C := RX1) (T := TX1) (N := 12) hx hb hw inW1 tyX1 tyX1_ok nmX1 hown hK.1 hP hD hS 0 rfl rfl 6 (by decide) (hw _ kw_3_23) (fun _ h9 => h9) rfl (by decide +kernel) rfl rfl (Nat.le_of_ble_eq_true rfl) dX1_takeFrom_53 (fun H locs hP hD hS => ?_)
  have hP : va_P G.1 vwCl [oX1 t_h t_a p1_windows p1_washes p1_damp p1_heard p1_lines p1_hour p1_strings, arI G (t_a 7) 12 t_cans, arI G (t_a 8) 8 t_washPairs, arI G (t_a 9) 8 t_washHours, arI G (t_a 10) 21 t_pairs, arI G (t_a 11) 21 t_knots, oX1 p1_h p1_a p1_windows p1_washes p1_damp p1_heard p1_lines p1_hour p1_strings, arI G (p1_a 7) 12 p1_cans, arI G (p1_a 8) 8 p1_washPairs, arI G (p1_a 9) 8 p1_washHours, arI G (p1_a 10) 21 p1_pairs, arI G (p1_a 11) 21 p1_knots] H := hP
  have hD : va_D A [oX1 t_h t_a p1_windows p1_washes p1_damp p1_heard p1_lines p1_hour p1_strings, arI G (t_a 7) 12 t_cans, arI G (t_a 8) 8 t_washPairs, arI G (t_a 9) 8 t_washHours, arI G (t_a 10) 21 t_pairs, arI G (t_a 11) 21 t_knots, oX1 p1_h p1_a p1_windows p1_washes p1_damp p1_heard p1_lines p1_hour p1_strings, arI G (p1_a 7) 12 p1_cans, arI G (p1_a 8) 8 p1_washPairs, arI G (p1_a 9) 8 p1_washHours, arI G (p1_a 10) 21 p1_pairs, arI G (p1_a 11) 21 p1_knots] := hD
  refine lv_aload_n hx hb dX1_takeFrom_56 rfl (lv_at hl 1 rfl) ?_
  refine va_get (D := G.1) (ci := 1) (v := .ref (p1_a 7)) (C := RX1) (T := TX1) (N := 12) hx hb hw inW1 hown hK.1 hP 6 rfl rfl 7 (by decide) (hw _ kw_3_8) (fun _ h9 => h9) rfl dX1_takeFrom_57 ?_
  refine lv_iconst (v := 0) hx hb dX1_takeFrom_60 (by decide) ?_
  refine lv_aload_n hx hb dX1_takeFrom_61 rfl (lv_at hl 0 rfl) ?_
  refine va_get (D := G.1) (ci := 1) (v := .ref (t_a 7)) (C := RX1) (T := TX1) (N := 12) hx hb hw inW1 hown hK.1 hP 0 rfl rfl 7 (by decide) (hw _ kw_3_8) (fun _ h9 => h9) rfl dX1_takeFrom_62 ?_
  refine lv_iconst (v := 0) hx hb dX1_takeFrom_65 (by decide) ?_
  refine lv_bipush (v := 12) hx hb dX1_takeFrom_66 (by decide) ?_
  refine va_copyi hx hb (by rw [hml]; exact hl.1.symm) hown (hw _ kw_42_17) (hw _ kw_42_18) (hw _ kw_42_19) (hw _ kw_42_20) hK.1 hP hD hS 7 1 0 0 rfl rfl rfl rfl rfl (by decide) (by decide) (by decide) (by decide) (by decide) (fun _ _ => rfl) (Nat.le_of_ble_eq_true rfl) (Nat.le_of_ble_eq_true rfl) dX1_takeFrom_68 (fun H locs hP hD hS => ?_)
  obtain ⟨t_cans_1, et_cans_1⟩ : ∃ z, z = (va_cpy p1_cans t_cans (0 : Int32).toNatClampNeg (0 : Int32).toNatClampNeg (12 : Int32).toNatClampNeg) := ⟨_, rfl⟩
  have hf := bnd_all hf t_cans_1 et_cans_1
  rw [← et_cans_1] at hP hD
  have hP : va_P G.1 vwCl [oX1 t_h t_a p1_windows p1_washes p1_damp p1_heard p1_lines p1_hour p1_strings, arI G (t_a 7) 12 t_cans_1, arI G (t_a 8) 8 t_washPairs, arI G (t_a 9) 8 t_washHours, arI G (t_a 10) 21 t_pairs, arI G (t_a 11) 21 t_knots, oX1 p1_h p1_a p1_windows p1_washes p1_damp p1_heard p1_lines p1_hour p1_strings, arI G (p1_a 7) 12 p1_cans, arI G (p1_a 8) 8 p1_washPairs, arI G (p1_a 9) 8 p1_washHours, arI G (p1_a 10) 21 p1_pairs, arI G (p1_a 11) 21 p1_knots] H := hP
  have hD : va_D A [oX1 t_h t_a p1_windows p1_washes p1_damp p1_heard p1_lines p1_hour p1_strings, arI G (t_a 7) 12 t_cans_1, arI G (t_a 8) 8 t_washPairs, arI G (t_a 9) 8 t_washHours, arI G (t_a 10) 21 t_pairs, arI G (t_a 11) 21 t_knots, oX1 p1_h p1_a p1_windows p1_washes p1_damp p1_heard p1_lines p1_hour p1_strings, arI G (p1_a 7) 12 p1_cans, arI G (p1_a 8) 8 p1_washPairs, arI G (p1_a 9) 8 p1_washHours, arI G (p1_a 10) 21 p1_pairs, arI G (p1_a 11) 21 p1_knots] := hD
  refine lv_aload_n hx hb dX1_takeFrom_71 rfl (lv_at hl 1 rfl) ?_
  refine va_get (D := G.1) (ci := 1) (v := .ref (p1_a 8)) (C := RX1) (T := TX1) (N := 12) hx hb hw inW1 hown hK.1 hP 6 rfl rfl 8 (by decide) (hw _ kw_3_9) (fun _ h9 => h9) rfl dX1_takeFrom_72 ?_
  refine lv_iconst (v := 0) hx hb dX1_takeFrom_75 (by decide) ?_
  refine lv_aload_n hx hb dX1_takeFrom_76 rfl (lv_at hl 0 rfl) ?_
  refine va_get (D := G.1) (ci := 1) (v := .ref (t_a 8)) (C := RX1) (T := TX1) (N := 12) hx hb hw inW1 hown hK.1 hP 0 rfl rfl 8 (by decide) (hw _ kw_3_9) (fun _ h9 => h9) rfl dX1_takeFrom_77 ?_
  refine lv_iconst (v := 0) hx hb dX1_takeFrom_80 (by decide) ?_
  refine lv_bipush (v := 8) hx hb dX1_takeFrom_81 (by decide) ?_
  refine va_copyi hx hb (by rw [hml]; exact hl.1.symm) hown (hw _ kw_42_17) (hw _ kw_42_18) (hw _ kw_42_19) (hw _ kw_42_20) hK.1 hP hD hS 8 2 0 0 rfl rfl rfl rfl rfl (by decide) (by decide) (by decide) (by decide) (by decide) (fun _ _ => rfl) (Nat.le_of_ble_eq_true rfl) (Nat.le_of_ble_eq_true rfl) dX1_takeFrom_83 (fun H locs hP hD hS => ?_)
  obtain ⟨t_washPairs_2, et_washPairs_2⟩ : ∃ z, z = (va_cpy p1_washPairs t_washPairs (0 : Int32).toNatClampNeg (0 : Int32).toNatClampNeg (8 : Int32).toNatClampNeg) := ⟨_, rfl⟩
  have hf := bnd_all hf t_washPairs_2 et_washPairs_2
  rw [← et_washPairs_2] at hP hD
  have hP : va_P G.1 vwCl [oX1 t_h t_a p1_windows p1_washes p1_damp p1_heard p1_lines p1_hour p1_strings, arI G (t_a 7) 12 t_cans_1, arI G (t_a 8) 8 t_washPairs_2, arI G (t_a 9) 8 t_washHours, arI G (t_a 10) 21 t_pairs, arI G (t_a 11) 21 t_knots, oX1 p1_h p1_a p1_windows p1_washes p1_damp p1_heard p1_lines p1_hour p1_strings, arI G (p1_a 7) 12 p1_cans, arI G (p1_a 8) 8 p1_washPairs, arI G (p1_a 9) 8 p1_washHours, arI G (p1_a 10) 21 p1_pairs, arI G (p1_a 11) 21 p1_knots] H := hP
  have hD : va_D A [oX1 t_h t_a p1_windows p1_washes p1_damp p1_heard p1_lines p1_hour p1_strings, arI G (t_a 7) 12 t_cans_1, arI G (t_a 8) 8 t_washPairs_2, arI G (t_a 9) 8 t_washHours, arI G (t_a 10) 21 t_pairs, arI G (t_a 11) 21 t_knots, oX1 p1_h p1_a p1_windows p1_washes p1_damp p1_heard p1_lines p1_hour p1_strings, arI G (p1_a 7) 12 p1_cans, arI G (p1_a 8) 8 p1_washPairs, arI G (p1_a 9) 8 p1_washHours, arI G (p1_a 10) 21 p1_pairs, arI G (p1_a 11) 21 p1_knots] := hD
  refine lv_aload_n hx hb dX1_takeFrom_86 rfl (lv_at hl 1 rfl) ?_
  refine va_get (D := G.1) (ci := 1) (v := .ref (p1_a 9)) (C := RX1) (T := TX1) (N := 12) hx hb hw inW1 hown hK.1 hP 6 rfl rfl 9 (by decide) (hw _ kw_3_10) (fun _ h9 => h9) rfl dX1_takeFrom_87 ?_
  refine lv_iconst (v := 0) hx hb dX1_takeFrom_90 (by decide) ?_
  refine lv_aload_n hx hb dX1_takeFrom_91 rfl (lv_at hl 0 rfl) ?_
  refine va_get (D := G.1) (ci := 1) (v := .ref (t_a 9)) (C := RX1) (T := TX1) (N := 12) hx hb hw inW1 hown hK.1 hP 0 rfl rfl 9 (by decide) (hw _ kw_3_10) (fun _ h9 => h9) rfl dX1_takeFrom_92 ?_
  refine lv_iconst (v := 0) hx hb dX1_takeFrom_95 (by decide) ?_
  refine lv_bipush (v := 8) hx hb dX1_takeFrom_96 (by decide) ?_
  refine va_copyi hx hb (by rw [hml]; exact hl.1.symm) hown (hw _ kw_42_17) (hw _ kw_42_18) (hw _ kw_42_19) (hw _ kw_42_20) hK.1 hP hD hS 9 3 0 0 rfl rfl rfl rfl rfl (by decide) (by decide) (by decide) (by decide) (by decide) (fun _ _ => rfl) (Nat.le_of_ble_eq_true rfl) (Nat.le_of_ble_eq_true rfl) dX1_takeFrom_98 (fun H locs hP hD hS => ?_)
  obtain ⟨t_washHours_3, et_washHours_3⟩ : ∃ z, z = (va_cpy p1_washHours t_washHours (0 : Int32).toNatClampNeg (0 : Int32).toNatClampNeg (8 : Int32).toNatClampNeg) := ⟨_, rfl⟩
  have hf := bnd_all hf t_washHours_3 et_washHours_3
  rw [← et_washHours_3] at hP hD
  have hP : va_P G.1 vwCl [oX1 t_h t_a p1_windows p1_washes p1_damp p1_heard p1_lines p1_hour p1_strings, arI G (t_a 7) 12 t_cans_1, arI G (t_a 8) 8 t_washPairs_2, arI G (t_a 9) 8 t_washHours_3, arI G (t_a 10) 21 t_pairs, arI G (t_a 11) 21 t_knots, oX1 p1_h p1_a p1_windows p1_washes p1_damp p1_heard p1_lines p1_hour p1_strings, arI G (p1_a 7) 12 p1_cans, arI G (p1_a 8) 8 p1_washPairs, arI G (p1_a 9) 8 p1_washHours, arI G (p1_a 10) 21 p1_pairs, arI G (p1_a 11) 21 p1_knots] H := hP
  have hD : va_D A [oX1 t_h t_a p1_windows p1_washes p1_damp p1_heard p1_lines p1_hour p1_strings, arI G (t_a 7) 12 t_cans_1, arI G (t_a 8) 8 t_washPairs_2, arI G (t_a 9) 8 t_washHours_3, arI G (t_a 10) 21 t_pairs, arI G (t_a 11) 21 t_knots, oX1 p1_h p1_a p1_windows p1_washes p1_damp p1_heard p1_lines p1_hour p1_strings, arI G (p1_a 7) 12 p1_cans, arI G (p1_a 8) 8 p1_washPairs, arI G (p1_a 9) 8 p1_washHours, arI G (p1_a 10) 21 p1_pairs, arI G (p1_a 11) 21 p1_knots] := hD
  refine lv_aload_n hx hb dX1_takeFrom_101 rfl (lv_at hl 1 rfl) ?_
  refine va_get (D := G.1) (ci := 1) (v := .ref (p1_a 10)) (C := RX1) (T := TX1) (N := 12) hx hb hw inW1 hown hK.1 hP 6 rfl rfl 10 (by decide) (hw _ kw_3_11) (fun _ h9 => h9) rfl dX1_takeFrom_102 ?_
  refine lv_iconst (v := 0) hx hb dX1_takeFrom_105 (by decide) ?_
  refine lv_aload_n hx hb dX1_takeFrom_106 rfl (lv_at hl 0 rfl) ?_
  refine va_get (D := G.1) (ci := 1) (v := .ref (t_a 10)) (C := RX1) (T := TX1) (N := 12) hx hb hw inW1 hown hK.1 hP 0 rfl rfl 10 (by decide) (hw _ kw_3_11) (fun _ h9 => h9) rfl dX1_takeFrom_107 ?_
  refine lv_iconst (v := 0) hx hb dX1_takeFrom_110 (by decide) ?_
  refine lv_bipush (v := 21) hx hb dX1_takeFrom_111 (by decide) ?_
  refine va_copyi hx hb (by rw [hml]; exact hl.1.symm) hown (hw _ kw_42_17) (hw _ kw_42_18) (hw _ kw_42_19) (hw _ kw_42_20) hK.1 hP hD hS 10 4 0 0 rfl rfl rfl rfl rfl (by decide) (by decide) (by decide) (by decide) (by decide) (fun _ _ => rfl) (Nat.le_of_ble_eq_true rfl) (Nat.le_of_ble_eq_true rfl) dX1_takeFrom_113 (fun H locs hP hD hS => ?_)
  obtain ⟨t_pairs_4, et_pairs_4⟩ : ∃ z, z = (va_cpy p1_pairs t_pairs (0 : Int32).toNatClampNeg (0 : Int32).toNatClampNeg (21 : Int32).toNatClampNeg) := ⟨_, rfl⟩
  have hf := bnd_all hf t_pairs_4 et_pairs_4
  rw [← et_pairs_4] at hP hD
  have hP : va_P G.1 vwCl [oX1 t_h t_a p1_windows p1_washes p1_damp p1_heard p1_lines p1_hour p1_strings, arI G (t_a 7) 12 t_cans_1, arI G (t_a 8) 8 t_washPairs_2, arI G (t_a 9) 8 t_washHours_3, arI G (t_a 10) 21 t_pairs_4, arI G (t_a 11) 21 t_knots, oX1 p1_h p1_a p1_windows p1_washes p1_damp p1_heard p1_lines p1_hour p1_strings, arI G (p1_a 7) 12 p1_cans, arI G (p1_a 8) 8 p1_washPairs, arI G (p1_a 9) 8 p1_washHours, arI G (p1_a 10) 21 p1_pairs, arI G (p1_a 11) 21 p1_knots] H := hP
  have hD : va_D A [oX1 t_h t_a p1_windows p1_washes p1_damp p1_heard p1_lines p1_hour p1_strings, arI G (t_a 7) 12 t_cans_1, arI G (t_a 8) 8 t_washPairs_2, arI G (t_a 9) 8 t_washHours_3, arI G (t_a 10) 21 t_pairs_4, arI G (t_a 11) 21 t_knots, oX1 p1_h p1_a p1_windows p1_washes p1_damp p1_heard p1_lines p1_hour p1_strings, arI G (p1_a 7) 12 p1_cans, arI G (p1_a 8) 8 p1_washPairs, arI G (p1_a 9) 8 p1_washHours, arI G (p1_a 10) 21 p1_pairs, arI G (p1_a 11) 21 p1_knots] := hD
  refine lv_aload_n hx hb dX1_takeFrom_116 rfl (lv_at hl 1 rfl) ?_
  refine va_get (D := G.1) (ci := 1) (v := .ref (p1_a 11)) (C := RX1) (T := TX1) (N := 12) hx hb hw inW1 hown hK.1 hP 6 rfl rfl 11 (by decide) (hw _ kw_3_12) (fun _ h9 => h9) rfl dX1_takeFrom_117 ?_
  refine lv_iconst (v := 0) hx hb dX1_takeFrom_120 (by decide) ?_
  refine lv_aload_n hx hb dX1_takeFrom_121 rfl (lv_at hl 0 rfl) ?_
  refine va_get (D := G.1) (ci := 1) (v := .ref (t_a 11)) (C := RX1) (T := TX1) (N := 12) hx hb hw inW1 hown hK.1 hP 0 rfl rfl 11 (by decide) (hw _ kw_3_12) (fun _ h9 => h9) rfl dX1_takeFrom_122 ?_
  refine lv_iconst (v := 0) hx hb dX1_takeFrom_125 (by decide) ?_
  refine lv_bipush (v := 21) hx hb dX1_takeFrom_126 (by decide) ?_
  refine va_copyi hx hb (by rw [hml]; exact hl.1.symm) hown (hw _ kw_42_17) (hw _ kw_42_18) (hw _ kw_42_19) (hw _ kw_42_20) hK.1 hP hD hS 11 5 0 0 rfl rfl rfl rfl rfl (by decide) (by decide) (by decide) (by decide) (by decide) (fun _ _ => rfl) (Nat.le_of_ble_eq_true rfl) (Nat.le_of_ble_eq_true rfl) dX1_takeFrom_128 (fun H locs hP hD hS => ?_)
  obtain ⟨t_knots_5, et_knots_5⟩ : ∃ z, z = (va_cpy p1_knots t_knots (0 : Int32).toNatClampNeg (0 : Int32).toNatClampNeg (21 : Int32).toNatClampNeg) := ⟨_, rfl⟩
  have hf := bnd_all hf t_knots_5 et_knots_5
  rw [← et_knots_5] at hP hD
  have hP : va_P G.1 vwCl [oX1 t_h t_a p1_windows p1_washes p1_damp p1_heard p1_lines p1_hour p1_strings, arI G (t_a 7) 12 t_cans_1, arI G (t_a 8) 8 t_washPairs_2, arI G (t_a 9) 8 t_washHours_3, arI G (t_a 10) 21 t_pairs_4, arI G (t_a 11) 21 t_knots_5, oX1 p1_h p1_a p1_windows p1_washes p1_damp p1_heard p1_lines p1_hour p1_strings, arI G (p1_a 7) 12 p1_cans, arI G (p1_a 8) 8 p1_washPairs, arI G (p1_a 9) 8 p1_washHours, arI G (p1_a 10) 21 p1_pairs, arI G (p1_a 11) 21 p1_knots] H := hP
  have hD : va_D A [oX1 t_h t_a p1_windows p1_washes p1_damp p1_heard p1_lines p1_hour p1_strings, arI G (t_a 7) 12 t_cans_1, arI G (t_a 8) 8 t_washPairs_2, arI G (t_a 9) 8 t_washHours_3, arI G (t_a 10) 21 t_pairs_4, arI G (t_a 11) 21 t_knots_5, oX1 p1_h p1_a p1_windows p1_washes p1_damp p1_heard p1_lines p1_hour p1_strings, arI G (p1_a 7) 12 p1_cans, arI G (p1_a 8) 8 p1_washPairs, arI G (p1_a 9) 8 p1_washHours, arI G (p1_a 10) 21 p1_pairs, arI G (p1_a 11) 21 p1_knots] := hD
  exact hRet _ _ _ _ _ _ _ _ _ _ _ _ _ _ _ _ hf hP hS dX1_takeFrom_131
theorem calX5_layRoute : CalV yX5_layRoute cX5_layRoute 8 (some .int) 3 := ⟨⟨kw_43_19, kw_2_12, by decide +kernel⟩, kw_43_17, kw_43_18⟩
set_option maxHeartbeats 8000000 in
set_option maxRecDepth 100000 in
theorem ctX5_layRoute (l : Launch) (G : GT) (t_h : Nat) (t_a : Nat → Nat) (p1_h : Nat) (p1_a : Nat → Nat) (p2_h : Nat) (p2_a : Nat → Nat) (t_route : Nat → Int32) (t_placed : Int32) (t_ended : Int32) (t_waited : Int32) (p1_windows : Int32) (p1_washes : Int32) (p1_damp : Int32) (p1_heard : Int32) (p1_lines : Int32) (p1_hour : Int32) (p1_strings : Int32) (p1_pairs : Nat → Int32) (p2_windows : Int32) (p2_links : Nat → Int32) (p2_prices : Nat → Int32) (p2_rest : Nat → Int32) (p2_goal : Int32) (p2_otherFrom : Int32) (p2_otherTo : Int32) (p2_least : Int32) (v3 : Int32) (r : Int32) (o_t_route : Nat → Int32) (hf : fX5_layRoute t_route p1_strings p1_pairs p2_windows p2_links p2_prices p2_rest v3 = some (r, o_t_route)) : WrI l yX5_layRoute (Cond.code yX5_layRoute cX5_layRoute 8 (some .int)) { frames := 3, cells := 0, slots := 0, locals := 68 } G [.ref t_h, .ref p1_h, .ref p2_h, .int v3] [oX5 t_h t_a t_placed t_ended t_waited, arI G (t_a 2) 12 t_route, oX1 p1_h p1_a p1_windows p1_washes p1_damp p1_heard p1_lines p1_hour p1_strings, arI G (p1_a 10) 21 p1_pairs, oX6 p2_h p2_a p2_windows p2_goal p2_otherFrom p2_otherTo p2_least, arI G (p2_a 1) 12 p2_links, arI G (p2_a 2) 144 p2_prices, arI G (p2_a 3) 12 p2_rest] [oX5 t_h t_a t_placed t_ended t_waited, arI G (t_a 2) 12 o_t_route, oX1 p1_h p1_a p1_windows p1_washes p1_damp p1_heard p1_lines p1_hour p1_strings, arI G (p1_a 10) 21 p1_pairs, oX6 p2_h p2_a p2_windows p2_goal p2_otherFrom p2_otherTo p2_least, arI G (p2_a 1) 12 p2_links, arI G (p2_a 2) 144 p2_prices, arI G (p2_a 3) 12 p2_rest] r := by
  intro sz
  refine Met.ofW (cc := cX5_layRoute) (maxL := 8) (ret := (some .int)) (by decide) rfl ?_
  intro p e s m args below meth c s₁ B hml hv
  obtain ⟨hargs, hsz, hP, hD0, hK⟩ := hv
  subst hsz
  obtain ⟨hx, hb, hr, hw, hown, hlk⟩ := fwB B
  refine fw_enter hargs (Nat.le_of_ble_eq_true rfl) (fun ls hl => ?_)
  have hl : lv_has ls 8 [(0, .ref t_h), (1, .ref p1_h), (2, .ref p2_h), (3, .int v3)] := hl
  refine fw_Q (P := fun Q => ∃ A : Nat → Prop, va_D A [oX5 t_h t_a t_placed t_ended t_waited, arI G (t_a 2) 12 t_route, oX1 p1_h p1_a p1_windows p1_washes p1_damp p1_heard p1_lines p1_hour p1_strings, arI G (p1_a 10) 21 p1_pairs, oX6 p2_h p2_a p2_windows p2_goal p2_otherFrom p2_otherTo p2_least, arI G (p2_a 1) 12 p2_links, arI G (p2_a 2) 144 p2_prices, arI G (p2_a 3) 12 p2_rest] ∧ va_S A s.heap s.heap [] ∧ (∀ q, s.heap.size ≤ q → A q) ∧ ∀ (v : Int32) (n_t_route : Nat → Int32) (H : Heap) (locs : List Loc) (pc : Nat) (ls : Array Slot), some (v, n_t_route) = some (r, o_t_route) → va_P G.1 vwCl [oX5 t_h t_a t_placed t_ended t_waited, arI G (t_a 2) 12 n_t_route, oX1 p1_h p1_a p1_windows p1_washes p1_damp p1_heard p1_lines p1_hour p1_strings, arI G (p1_a 10) 21 p1_pairs, oX6 p2_h p2_a p2_windows p2_goal p2_otherFrom p2_otherTo p2_least, arI G (p2_a 1) 12 p2_links, arI G (p2_a 2) 144 p2_prices, arI G (p2_a 3) 12 p2_rest] H → va_S A s.heap H locs → decode cX5_layRoute pc = .ok (.ireturn, 1) → W p l e ({ frames := 3, cells := 0, slots := 0, locals := 68 } : Room) s m args below meth c H locs 0 0 Q (F0 m pc ls [.int v])) ⟨va_A [oX5 t_h t_a t_placed t_ended t_waited, arI G (t_a 2) 12 t_route, oX1 p1_h p1_a p1_windows p1_washes p1_damp p1_heard p1_lines p1_hour p1_strings, arI G (p1_a 10) 21 p1_pairs, oX6 p2_h p2_a p2_windows p2_goal p2_otherFrom p2_otherTo p2_least, arI G (p2_a 1) 12 p2_links, arI G (p2_a 2) 144 p2_prices, arI G (p2_a 3) 12 p2_rest] s.heap.size, hD0.self (sz := s.heap.size), va_S.rf, fun q h => Or.inr h, ?_⟩ ?_
  · intro v n_t_route H locs pc ls h hP hS hd
    cases h
    exact retWI hx hb hr hlk hS hP rfl hd
  rintro Q ⟨A, hD, hS, hA, hRet⟩
  change W p l e ({ frames := 3, cells := 0, slots := 0, locals := 68 } : Room) s m args below meth c _ _ 0 0 Q _
  have L15 : ∀ (l4 : Int32) (K : (Nat → Int32) → Option (Int32 × (Nat → Int32))) (n : Nat) (l5 : Int32) (t_route : Nat → Int32) (H : Heap) (locs : List Loc) (ls : Array Slot), va_P G.1 vwCl [oX5 t_h t_a t_placed t_ended t_waited, arI G (t_a 2) 12 t_route, oX1 p1_h p1_a p1_windows p1_washes p1_damp p1_heard p1_lines p1_hour p1_strings, arI G (p1_a 10) 21 p1_pairs, oX6 p2_h p2_a p2_windows p2_goal p2_otherFrom p2_otherTo p2_least, arI G (p2_a 1) 12 p2_links, arI G (p2_a 2) 144 p2_prices, arI G (p2_a 3) 12 p2_rest] H → va_D A [oX5 t_h t_a t_placed t_ended t_waited, arI G (t_a 2) 12 t_route, oX1 p1_h p1_a p1_windows p1_washes p1_damp p1_heard p1_lines p1_hour p1_strings, arI G (p1_a 10) 21 p1_pairs, oX6 p2_h p2_a p2_windows p2_goal p2_otherFrom p2_otherTo p2_least, arI G (p2_a 1) 12 p2_links, arI G (p2_a 2) 144 p2_prices, arI G (p2_a 3) 12 p2_rest] → va_S A s.heap H locs → lv_has ls 8 [(0, .ref t_h), (1, .ref p1_h), (2, .ref p2_h), (3, .int v3), (4, .int l4), (5, .int l5)] → fX5_layRoute_15 v3 l4 p1_strings p1_pairs p2_windows p2_links p2_prices p2_rest K n l5 t_route = some (r, o_t_route) → (∀ (kt_route : Nat → Int32) (H : Heap) (locs : List Loc) (ls : Array Slot), va_P G.1 vwCl [oX5 t_h t_a t_placed t_ended t_waited, arI G (t_a 2) 12 kt_route, oX1 p1_h p1_a p1_windows p1_washes p1_damp p1_heard p1_lines p1_hour p1_strings, arI G (p1_a 10) 21 p1_pairs, oX6 p2_h p2_a p2_windows p2_goal p2_otherFrom p2_otherTo p2_least, arI G (p2_a 1) 12 p2_links, arI G (p2_a 2) 144 p2_prices, arI G (p2_a 3) 12 p2_rest] H → va_D A [oX5 t_h t_a t_placed t_ended t_waited, arI G (t_a 2) 12 kt_route, oX1 p1_h p1_a p1_windows p1_washes p1_damp p1_heard p1_lines p1_hour p1_strings, arI G (p1_a 10) 21 p1_pairs, oX6 p2_h p2_a p2_windows p2_goal p2_otherFrom p2_otherTo p2_least, arI G (p2_a 1) 12 p2_links, arI G (p2_a 2) 144 p2_prices, arI G (p2_a 3) 12 p2_rest] → va_S A s.heap H locs → lv_has ls 8 [(4, .int l4)] → K kt_route = some (r, o_t_route) → W p l e ({ frames := 3, cells := 0, slots := 0, locals := 68 } : Room) s m args below meth c H locs 0 0 Q (F0 m 68 ls [])) → W p l e ({ frames := 3, cells := 0, slots := 0, locals := 68 } : Room) s m args below meth c H locs 0 0 Q (F0 m 15 ls []) := by
    intro l4 K n
    induction n with
    | zero => intro l5 t_route H locs ls hP hD hS hl hf; rw [fX5_layRoute_15] at hf; cases hf
    | succ n ih =>
      intro l5 t_route H locs ls hP hD hS hl hf hX
      rw [fX5_layRoute_15] at hf
      refine lv_iload hx hb dX5_layRoute_15 (lv_at hl 5 rfl) ?_
      refine lv_iload hx hb dX5_layRoute_17 (lv_at hl 4 rfl) ?_
      refine lv_icmp_ge (tgt := 68) hx hb dX5_layRoute_19 (by decide) (fun c_4 => ?_) (fun c_4 => ?_)
      · have hf := ip c_4 hf
        exact hX _ _ _ _ hP hD hS (lv_sub hl [4] rfl) hf
      · have hf := iq c_4 hf
        refine lv_aload_n hx hb dX5_layRoute_22 rfl (lv_at hl 2 rfl) ?_
        refine lv_iload_n hx hb dX5_layRoute_23 rfl (lv_at hl 3 rfl) ?_
        refine lv_iload hx hb dX5_layRoute_24 (lv_at hl 5 rfl) ?_
        obtain ⟨r_5, hc_6, hf⟩ := bd1_in hf
        refine rcI (va_runV (As := [.int v3, .int l5]) (rest := []) ⟨hx, hb, hml, hown, hw⟩ ((ctX6_windowOnWay l G p2_h p2_a p2_windows p2_links p2_prices p2_rest p2_goal p2_otherFrom p2_otherTo p2_least v3 l5 _ hc_6) _) (kV hw calX6_windowOnWay kw_43_22 rfl rfl ⟨Nat.le_of_ble_eq_true rfl, Nat.le_of_ble_eq_true rfl⟩) (rpV (hP.sub (ws' := [oX6 p2_h p2_a p2_windows p2_goal p2_otherFrom p2_otherTo p2_least, arI G (p2_a 1) 12 p2_links, arI G (p2_a 2) 144 p2_prices, arI G (p2_a 3) 12 p2_rest]) [4, 5, 6, 7] rfl) hK (ci := 6) (q0 := 0) rfl rfl) rfl rfl hl.1 rfl (lv_room (Nat.le_of_ble_eq_true rfl)) dX5_layRoute_26 ⟨Nat.zero_le _, Nat.zero_le _⟩) hS hA hP (fun H locs hP hS => ?_)
        refine lv_istore (lv' := [(6, .int r_5), (0, .ref t_h), (1, .ref p1_h), (2, .ref p2_h), (3, .int v3), (4, .int l4), (5, .int l5)]) hx hb dX5_layRoute_29 hl (by decide) rfl (fun ls hl => ?_)
        refine lv_aload_n hx hb dX5_layRoute_31 rfl (lv_at hl 3 rfl) ?_
        refine lv_iload_n hx hb dX5_layRoute_32 rfl (lv_at hl 4 rfl) ?_
        refine lv_iload hx hb dX5_layRoute_33 (lv_at hl 6 rfl) ?_
        refine lv_iconst (v := 1) hx hb dX5_layRoute_35 (by decide) ?_
        refine lv_iadd hx hb dX5_layRoute_36 ?_
        obtain ⟨r_7, hc_8, hf⟩ := bd1_in hf
        refine rcI (va_runV (As := [.int v3, .int (l5 + 1)]) (rest := []) ⟨hx, hb, hml, hown, hw⟩ ((ctX6_windowOnWay l G p2_h p2_a p2_windows p2_links p2_prices p2_rest p2_goal p2_otherFrom p2_otherTo p2_least v3 (l5 + 1) _ hc_8) _) (kV hw calX6_windowOnWay kw_43_22 rfl rfl ⟨Nat.le_of_ble_eq_true rfl, Nat.le_of_ble_eq_true rfl⟩) (rpV (hP.sub (ws' := [oX6 p2_h p2_a p2_windows p2_goal p2_otherFrom p2_otherTo p2_least, arI G (p2_a 1) 12 p2_links, arI G (p2_a 2) 144 p2_prices, arI G (p2_a 3) 12 p2_rest]) [4, 5, 6, 7] rfl) hK (ci := 6) (q0 := 0) rfl rfl) rfl rfl hl.1 rfl (lv_room (Nat.le_of_ble_eq_true rfl)) dX5_layRoute_37 ⟨Nat.zero_le _, Nat.zero_le _⟩) hS hA hP (fun H locs hP hS => ?_)
        refine lv_istore (lv' := [(7, .int r_7), (6, .int r_5), (0, .ref t_h), (1, .ref p1_h), (2, .ref p2_h), (3, .int v3), (4, .int l4), (5, .int l5)]) hx hb dX5_layRoute_40 hl (by decide) rfl (fun ls hl => ?_)
        refine lv_aload_n hx hb dX5_layRoute_42 rfl (lv_at hl 2 rfl) ?_
        refine va_get (D := G.1) (ci := 5) (v := .ref (t_a 2)) (C := RX5) (T := TX5) (N := 6) hx hb hw inW5 hown hK.1 hP 0 rfl rfl 2 (by decide) (hw _ kw_5_0) (fun _ h9 => h9) rfl dX5_layRoute_43 ?_
        refine lv_iload hx hb dX5_layRoute_46 (lv_at hl 7 rfl) ?_
        refine lv_iconst (v := 1) hx hb dX5_layRoute_48 (by decide) ?_
        refine lv_aload_n hx hb dX5_layRoute_49 rfl (lv_at hl 3 rfl) ?_
        refine lv_iload hx hb dX5_layRoute_50 (lv_at hl 1 rfl) ?_
        refine lv_iload hx hb dX5_layRoute_52 (lv_at hl 0 rfl) ?_
        obtain ⟨r_9, hc_10, hf⟩ := bd1_in hf
        refine rcI (va_runSN (As := [.int r_5, .int r_7]) (rest := [.ref p1_h, .int 1, .int l5, .ref (t_a 2)]) ⟨hx, hb, hml, hown, hw⟩ ((ctX7_pairOf l G r_5 r_7 _ hc_10) _) (kSN hw calX7_pairOf (nm_17 hK.2) rfl rfl ⟨Nat.le_of_ble_eq_true rfl, Nat.le_of_ble_eq_true rfl⟩) (rpS (hP.sub (ws' := []) [] rfl) hK) rfl rfl hl.1 rfl (lv_room (Nat.le_of_ble_eq_true rfl)) dX5_layRoute_54 ⟨Nat.zero_le _, Nat.zero_le _⟩) hS hA hP (fun H locs hP hS => ?_)
        obtain ⟨r_11, hc_12, hf⟩ := bd1_in hf
        refine rcI (va_runV (As := [.int r_9]) (rest := [.int 1, .int l5, .ref (t_a 2)]) ⟨hx, hb, hml, hown, hw⟩ ((ctX1_indexOf l G p1_h p1_a p1_windows p1_washes p1_damp p1_heard p1_lines p1_hour p1_strings p1_pairs r_9 _ hc_12) _) (kV hw calX1_indexOf kw_43_23 rfl rfl ⟨Nat.le_of_ble_eq_true rfl, Nat.le_of_ble_eq_true rfl⟩) (rpV (hP.sub (ws' := [oX1 p1_h p1_a p1_windows p1_washes p1_damp p1_heard p1_lines p1_hour p1_strings, arI G (p1_a 10) 21 p1_pairs]) [2, 3] rfl) hK (ci := 1) (q0 := 0) rfl rfl) rfl rfl hl.1 rfl (lv_room (Nat.le_of_ble_eq_true rfl)) dX5_layRoute_57 ⟨Nat.zero_le _, Nat.zero_le _⟩) hS hA hP (fun H locs hP hS => ?_)
        refine lv_ishl hx hb dX5_layRoute_60 ?_
        obtain ⟨hi_14, hf⟩ := wrI_in hf
        refine xiast hx hb hK.1 hP hD hS 1 0 rfl rfl hi_14 dX5_layRoute_61 (fun t_route_13 H locs et_route_13 hP hD hS => ?_)
        have hf := hf t_route_13 et_route_13
        have hP : va_P G.1 vwCl [oX5 t_h t_a t_placed t_ended t_waited, arI G (t_a 2) 12 t_route_13, oX1 p1_h p1_a p1_windows p1_washes p1_damp p1_heard p1_lines p1_hour p1_strings, arI G (p1_a 10) 21 p1_pairs, oX6 p2_h p2_a p2_windows p2_goal p2_otherFrom p2_otherTo p2_least, arI G (p2_a 1) 12 p2_links, arI G (p2_a 2) 144 p2_prices, arI G (p2_a 3) 12 p2_rest] H := hP
        have hD : va_D A [oX5 t_h t_a t_placed t_ended t_waited, arI G (t_a 2) 12 t_route_13, oX1 p1_h p1_a p1_windows p1_washes p1_damp p1_heard p1_lines p1_hour p1_strings, arI G (p1_a 10) 21 p1_pairs, oX6 p2_h p2_a p2_windows p2_goal p2_otherFrom p2_otherTo p2_least, arI G (p2_a 1) 12 p2_links, arI G (p2_a 2) 144 p2_prices, arI G (p2_a 3) 12 p2_rest] := hD
        refine lv_iinc (v := (l5 + 1)) (lv' := [(5, .int (l5 + 1)), (7, .int r_7), (6, .int r_5), (0, .ref t_h), (1, .ref p1_h), (2, .ref p2_h), (3, .int v3), (4, .int l4)]) hx hb dX5_layRoute_62 hl (k := 7) rfl (by rfl) (by decide) rfl (fun ls hl => ?_)
        refine lv_goto (tgt := 15) hx hb dX5_layRoute_65 (by decide) ?_
        exact ih _ _ _ _ _ hP hD hS (lv_sub hl [3, 4, 5, 6, 7, 0] rfl) hf hX
  unfold fX5_layRoute at hf
  refine lv_aload_n hx hb dX5_layRoute_0 rfl (lv_at hl 2 rfl) ?_
  refine lv_iload_n hx hb dX5_layRoute_1 rfl (lv_at hl 3 rfl) ?_
  obtain ⟨r_1, hc_2, hf⟩ := bd1_in hf
  refine rcI (va_runV (As := [.int v3]) (rest := []) ⟨hx, hb, hml, hown, hw⟩ ((ctX6_stringsFrom l G p2_h p2_a p2_windows p2_rest p2_goal p2_otherFrom p2_otherTo p2_least v3 _ hc_2) _) (kV hw calX6_stringsFrom kw_43_21 rfl rfl ⟨Nat.le_of_ble_eq_true rfl, Nat.le_of_ble_eq_true rfl⟩) (rpV (hP.sub (ws' := [oX6 p2_h p2_a p2_windows p2_goal p2_otherFrom p2_otherTo p2_least, arI G (p2_a 3) 12 p2_rest]) [4, 7] rfl) hK (ci := 6) (q0 := 0) rfl rfl) rfl rfl hl.1 rfl (lv_room (Nat.le_of_ble_eq_true rfl)) dX5_layRoute_2 ⟨Nat.zero_le _, Nat.zero_le _⟩) hS hA hP (fun H locs hP hS => ?_)
  refine lv_bipush (v := 12) hx hb dX5_layRoute_5 (by decide) ?_
  refine va_mmin hx hb (by rw [hml]; exact hl.1.symm) hown (hw _ kw_43_20) (hw _ kw_7_8) (hw _ kw_7_9) (hw _ kw_7_10) (by exact Nat.le_of_ble_eq_true rfl) (by exact Nat.le_of_ble_eq_true rfl) (Nat.zero_le _) (Nat.zero_le _) dX5_layRoute_7 ?_
  refine lv_topi (fun y_3 ey_3 => ?_)
  have hf := bnd_all hf y_3 ey_3
  refine lv_istore (lv' := [(4, .int y_3), (0, .ref t_h), (1, .ref p1_h), (2, .ref p2_h), (3, .int v3)]) hx hb dX5_layRoute_10 hl (by decide) rfl (fun ls hl => ?_)
  refine lv_iconst (v := 0) hx hb dX5_layRoute_12 (by decide) ?_
  refine lv_istore (lv' := [(5, .int 0), (4, .int y_3), (0, .ref t_h), (1, .ref p1_h), (2, .ref p2_h), (3, .int v3)]) hx hb dX5_layRoute_13 hl (by decide) rfl (fun ls hl => ?_)
  refine L15 _ _ _ _ _ _ _ _ hP hD hS (lv_sub hl [2, 3, 4, 5, 1, 0] rfl) hf (fun t_route_15 H locs ls hP hD hS hl hf => ?_)
  refine lv_iload hx hb dX5_layRoute_68 (lv_at hl 0 rfl) ?_
  exact hRet _ _ _ _ _ _ hf hP hS dX5_layRoute_70
theorem calX5_isFree : CalV yX5_isFree cX5_isFree 4 (some .boolean) 2 := ⟨⟨kw_44_8, kw_2_12, by decide +kernel⟩, kw_44_6, kw_44_7⟩
set_option maxHeartbeats 8000000 in
set_option maxRecDepth 100000 in
theorem ctX5_isFree (l : Launch) (G : GT) (t_h : Nat) (t_a : Nat → Nat) (t_taken : Nat → Int32) (t_route : Nat → Int32) (t_placed : Int32) (t_ended : Int32) (t_waited : Int32) (v1 : Int32) (v2 : Int32) (r : Int32) (hf : fX5_isFree t_taken t_route v1 v2 = some r) : RdI l yX5_isFree (Cond.code yX5_isFree cX5_isFree 4 (some .boolean)) { frames := 0, cells := 0, slots := 0, locals := 0 } G [.ref t_h, .int v1, .int v2] [oX5 t_h t_a t_placed t_ended t_waited, arI G (t_a 0) 492 t_taken, arI G (t_a 2) 12 t_route] r := by
  intro sz
  refine Met.ofW (cc := cX5_isFree) (maxL := 4) (ret := (some .boolean)) (by decide) rfl ?_
  intro p e s m args below meth c s₁ B hml hv
  obtain ⟨hargs, hsz, hP, hK⟩ := hv
  subst hsz
  obtain ⟨hx, hb, hr, hw, hown, hlk⟩ := fwB B
  refine fw_enter hargs (Nat.le_of_ble_eq_true rfl) (fun ls hl => ?_)
  have hl : lv_has ls 4 [(0, .ref t_h), (1, .int v1), (2, .int v2)] := hl
  refine fw_Q (P := fun Q => ∃ A : Nat → Prop, va_S A s.heap s.heap [] ∧ (∀ q, s.heap.size ≤ q → A q) ∧ ∀ (v : Int32) (H : Heap) (locs : List Loc) (pc : Nat) (ls : Array Slot), some v = some r → va_S A s.heap H locs → narrow .boolean (.int v) = .int v → decode cX5_isFree pc = .ok (.ireturn, 1) → W p l e ({ frames := 0, cells := 0, slots := 0, locals := 0 } : Room) s m args below meth c H locs 0 0 Q (F0 m pc ls [.int v])) ⟨fun q => s.heap.size ≤ q, va_S.rf, fun q h => h, fun v H locs pc ls h hS hn hd => retRZ hx hb hr hlk hS hn h hd⟩ ?_
  rintro Q ⟨A, hS, hA, hRet⟩
  change W p l e ({ frames := 0, cells := 0, slots := 0, locals := 0 } : Room) s m args below meth c _ _ 0 0 Q _
  have L2 : ∀  (K : Option Int32) (n : Nat) (l3 : Int32) (H : Heap) (locs : List Loc) (ls : Array Slot), va_P G.1 vwCl [oX5 t_h t_a t_placed t_ended t_waited, arI G (t_a 0) 492 t_taken, arI G (t_a 2) 12 t_route] H → va_S A s.heap H locs → lv_has ls 4 [(0, .ref t_h), (1, .int v1), (2, .int v2), (3, .int l3)] → fX5_isFree_2 v1 v2 t_taken t_route K n l3 = some r → (∀  (H : Heap) (locs : List Loc) (ls : Array Slot), va_P G.1 vwCl [oX5 t_h t_a t_placed t_ended t_waited, arI G (t_a 0) 492 t_taken, arI G (t_a 2) 12 t_route] H → va_S A s.heap H locs → lv_has ls 4 [] → K = some r → W p l e ({ frames := 0, cells := 0, slots := 0, locals := 0 } : Room) s m args below meth c H locs 0 0 Q (F0 m 33 ls [])) → W p l e ({ frames := 0, cells := 0, slots := 0, locals := 0 } : Room) s m args below meth c H locs 0 0 Q (F0 m 2 ls []) := by
    intro  K n
    induction n with
    | zero => intro l3 H locs ls hP hS hl hf; rw [fX5_isFree_2] at hf; cases hf
    | succ n ih =>
      intro l3 H locs ls hP hS hl hf hX
      rw [fX5_isFree_2] at hf
      refine lv_iload_n hx hb dX5_isFree_2 rfl (lv_at hl 3 rfl) ?_
      refine lv_iload_n hx hb dX5_isFree_3 rfl (lv_at hl 2 rfl) ?_
      refine lv_icmp_ge (tgt := 33) hx hb dX5_isFree_4 (by decide) (fun c_1 => ?_) (fun c_1 => ?_)
      · have hf := ip c_1 hf
        exact hX  _ _ _ hP hS (lv_sub hl [] rfl) hf
      · have hf := iq c_1 hf
        refine lv_aload_n hx hb dX5_isFree_7 rfl (lv_at hl 0 rfl) ?_
        refine va_get (D := G.1) (ci := 5) (v := .ref (t_a 0)) (C := RX5) (T := TX5) (N := 6) hx hb hw inW5 hown hK.1 hP 0 rfl rfl 0 (by decide) (hw _ kw_4_22) (fun _ h9 => h9) rfl dX5_isFree_8 ?_
        refine lv_iload_n hx hb dX5_isFree_11 rfl (lv_at hl 1 rfl) ?_
        refine lv_iload_n hx hb dX5_isFree_12 rfl (lv_at hl 3 rfl) ?_
        refine lv_iadd hx hb dX5_isFree_13 ?_
        obtain ⟨hi_3, hf⟩ := rdI_in hf
        refine va_iald hx hb hK.1 hP 1 0 rfl rfl hi_3 dX5_isFree_14 ?_
        refine lv_topi (fun x_2 ex_2 => ?_)
        have hf := hf x_2 ex_2
        refine lv_aload_n hx hb dX5_isFree_15 rfl (lv_at hl 0 rfl) ?_
        refine va_get (D := G.1) (ci := 5) (v := .ref (t_a 2)) (C := RX5) (T := TX5) (N := 6) hx hb hw inW5 hown hK.1 hP 0 rfl rfl 2 (by decide) (hw _ kw_5_0) (fun _ h9 => h9) rfl dX5_isFree_16 ?_
        refine lv_iload_n hx hb dX5_isFree_19 rfl (lv_at hl 3 rfl) ?_
        obtain ⟨hi_5, hf⟩ := rdI_in hf
        refine va_iald hx hb hK.1 hP 2 0 rfl rfl hi_5 dX5_isFree_20 ?_
        refine lv_topi (fun x_4 ex_4 => ?_)
        have hf := hf x_4 ex_4
        refine lv_iand hx hb dX5_isFree_21 ?_
        refine lv_if_eq (tgt := 27) hx hb dX5_isFree_22 (by decide) (fun c_6 => ?_) (fun c_6 => ?_)
        · have hf := ip c_6 hf
          refine lv_iinc (v := (l3 + 1)) (lv' := [(3, .int (l3 + 1)), (0, .ref t_h), (1, .int v1), (2, .int v2)]) hx hb dX5_isFree_27 hl (k := 3) rfl (by rfl) (by decide) rfl (fun ls hl => ?_)
          refine lv_goto (tgt := 2) hx hb dX5_isFree_30 (by decide) ?_
          exact ih _ _ _ _ hP hS (lv_sub hl [1, 2, 3, 0] rfl) hf hX
        · have hf := iq c_6 hf
          refine lv_iconst (v := 0) hx hb dX5_isFree_25 (by decide) ?_
          exact hRet _ _ _ _ _ hf hS (by decide +kernel) dX5_isFree_26
  unfold fX5_isFree at hf
  refine lv_iconst (v := 0) hx hb dX5_isFree_0 (by decide) ?_
  refine lv_istore_n (lv' := [(3, .int 0), (0, .ref t_h), (1, .int v1), (2, .int v2)]) hx hb dX5_isFree_1 rfl hl (by decide) rfl (fun ls hl => ?_)
  refine L2  _ _ _ _ _ _ hP hS (lv_sub hl [1, 2, 3, 0] rfl) hf (fun  H locs ls hP hS hl hf => ?_)
  refine lv_iconst (v := 1) hx hb dX5_isFree_33 (by decide) ?_
  exact hRet _ _ _ _ _ hf hS (by decide +kernel) dX5_isFree_34
theorem calX5_placeCall : CalV yX5_placeCall cX5_placeCall 4 (some .int) 1 := ⟨⟨kw_44_3, kw_2_12, by decide +kernel⟩, kw_44_1, kw_44_2⟩
set_option maxHeartbeats 8000000 in
set_option maxRecDepth 100000 in
theorem ctX5_placeCall (l : Launch) (G : GT) (t_h : Nat) (t_a : Nat → Nat) (t_taken : Nat → Int32) (t_route : Nat → Int32) (t_placed : Int32) (t_ended : Int32) (t_waited : Int32) (v1 : Int32) (r : Int32) (o_t_taken : Nat → Int32) (o_t_placed : Int32) (o_t_ended : Int32) (o_t_waited : Int32) (hf : fX5_placeCall t_taken t_route t_placed t_ended t_waited v1 = some (r, o_t_taken, o_t_placed, o_t_ended, o_t_waited)) : WrI l yX5_placeCall (Cond.code yX5_placeCall cX5_placeCall 4 (some .int)) { frames := 1, cells := 0, slots := 0, locals := 32 } G [.ref t_h, .int v1] [oX5 t_h t_a t_placed t_ended t_waited, arI G (t_a 0) 492 t_taken, arI G (t_a 2) 12 t_route] [oX5 t_h t_a o_t_placed o_t_ended o_t_waited, arI G (t_a 0) 492 o_t_taken, arI G (t_a 2) 12 t_route] r := by
  intro sz
  refine Met.ofW (cc := cX5_placeCall) (maxL := 4) (ret := (some .int)) (by decide) rfl ?_
  intro p e s m args below meth c s₁ B hml hv
  obtain ⟨hargs, hsz, hP, hD0, hK⟩ := hv
  subst hsz
  obtain ⟨hx, hb, hr, hw, hown, hlk⟩ := fwB B
  refine fw_enter hargs (Nat.le_of_ble_eq_true rfl) (fun ls hl => ?_)
  have hl : lv_has ls 4 [(0, .ref t_h), (1, .int v1)] := hl
  refine fw_Q (P := fun Q => ∃ A : Nat → Prop, va_D A [oX5 t_h t_a t_placed t_ended t_waited, arI G (t_a 0) 492 t_taken, arI G (t_a 2) 12 t_route] ∧ va_S A s.heap s.heap [] ∧ (∀ q, s.heap.size ≤ q → A q) ∧ ∀ (v : Int32) (n_t_taken : Nat → Int32) (n_t_placed : Int32) (n_t_ended : Int32) (n_t_waited : Int32) (H : Heap) (locs : List Loc) (pc : Nat) (ls : Array Slot), some (v, n_t_taken, n_t_placed, n_t_ended, n_t_waited) = some (r, o_t_taken, o_t_placed, o_t_ended, o_t_waited) → va_P G.1 vwCl [oX5 t_h t_a n_t_placed n_t_ended n_t_waited, arI G (t_a 0) 492 n_t_taken, arI G (t_a 2) 12 t_route] H → va_S A s.heap H locs → decode cX5_placeCall pc = .ok (.ireturn, 1) → W p l e ({ frames := 1, cells := 0, slots := 0, locals := 32 } : Room) s m args below meth c H locs 0 0 Q (F0 m pc ls [.int v])) ⟨va_A [oX5 t_h t_a t_placed t_ended t_waited, arI G (t_a 0) 492 t_taken, arI G (t_a 2) 12 t_route] s.heap.size, hD0.self (sz := s.heap.size), va_S.rf, fun q h => Or.inr h, ?_⟩ ?_
  · intro v n_t_taken n_t_placed n_t_ended n_t_waited H locs pc ls h hP hS hd
    cases h
    exact retWI hx hb hr hlk hS hP rfl hd
  rintro Q ⟨A, hD, hS, hA, hRet⟩
  change W p l e ({ frames := 1, cells := 0, slots := 0, locals := 32 } : Room) s m args below meth c _ _ 0 0 Q _
  have L22 : ∀ (l2 : Int32) (t_placed : Int32) (t_ended : Int32) (t_waited : Int32) (K : (Nat → Int32) → Option (Int32 × (Nat → Int32) × Int32 × Int32 × Int32)) (n : Nat) (l3 : Int32) (t_taken : Nat → Int32) (H : Heap) (locs : List Loc) (ls : Array Slot), va_P G.1 vwCl [oX5 t_h t_a t_placed t_ended t_waited, arI G (t_a 0) 492 t_taken, arI G (t_a 2) 12 t_route] H → va_D A [oX5 t_h t_a t_placed t_ended t_waited, arI G (t_a 0) 492 t_taken, arI G (t_a 2) 12 t_route] → va_S A s.heap H locs → lv_has ls 4 [(0, .ref t_h), (1, .int v1), (2, .int l2), (3, .int l3)] → fX5_placeCall_22 v1 l2 t_route K n l3 t_taken = some (r, o_t_taken, o_t_placed, o_t_ended, o_t_waited) → (∀ (kt_taken : Nat → Int32) (H : Heap) (locs : List Loc) (ls : Array Slot), va_P G.1 vwCl [oX5 t_h t_a t_placed t_ended t_waited, arI G (t_a 0) 492 kt_taken, arI G (t_a 2) 12 t_route] H → va_D A [oX5 t_h t_a t_placed t_ended t_waited, arI G (t_a 0) 492 kt_taken, arI G (t_a 2) 12 t_route] → va_S A s.heap H locs → lv_has ls 4 [(0, .ref t_h), (1, .int v1), (2, .int l2)] → K kt_taken = some (r, o_t_taken, o_t_placed, o_t_ended, o_t_waited) → W p l e ({ frames := 1, cells := 0, slots := 0, locals := 32 } : Room) s m args below meth c H locs 0 0 Q (F0 m 50 ls [])) → W p l e ({ frames := 1, cells := 0, slots := 0, locals := 32 } : Room) s m args below meth c H locs 0 0 Q (F0 m 22 ls []) := by
    intro l2 t_placed t_ended t_waited K n
    induction n with
    | zero => intro l3 t_taken H locs ls hP hD hS hl hf; rw [fX5_placeCall_22] at hf; cases hf
    | succ n ih =>
      intro l3 t_taken H locs ls hP hD hS hl hf hX
      rw [fX5_placeCall_22] at hf
      refine lv_iload_n hx hb dX5_placeCall_22 rfl (lv_at hl 3 rfl) ?_
      refine lv_iload_n hx hb dX5_placeCall_23 rfl (lv_at hl 1 rfl) ?_
      refine lv_icmp_ge (tgt := 50) hx hb dX5_placeCall_24 (by decide) (fun c_5 => ?_) (fun c_5 => ?_)
      · have hf := ip c_5 hf
        exact hX _ _ _ _ hP hD hS (lv_sub hl [0, 1, 2] rfl) hf
      · have hf := iq c_5 hf
        refine lv_aload_n hx hb dX5_placeCall_27 rfl (lv_at hl 0 rfl) ?_
        refine va_get (D := G.1) (ci := 5) (v := .ref (t_a 0)) (C := RX5) (T := TX5) (N := 6) hx hb hw inW5 hown hK.1 hP 0 rfl rfl 0 (by decide) (hw _ kw_4_22) (fun _ h9 => h9) rfl dX5_placeCall_28 ?_
        refine lv_iload_n hx hb dX5_placeCall_31 rfl (lv_at hl 2 rfl) ?_
        refine lv_iload_n hx hb dX5_placeCall_32 rfl (lv_at hl 3 rfl) ?_
        refine lv_iadd hx hb dX5_placeCall_33 ?_
        refine lv_dup2_11 hx hb dX5_placeCall_34 rfl rfl ?_
        obtain ⟨hi_7, hf⟩ := rdI_in hf
        refine va_iald hx hb hK.1 hP 1 0 rfl rfl hi_7 dX5_placeCall_35 ?_
        refine lv_topi (fun x_6 ex_6 => ?_)
        have hf := hf x_6 ex_6
        refine lv_aload_n hx hb dX5_placeCall_36 rfl (lv_at hl 0 rfl) ?_
        refine va_get (D := G.1) (ci := 5) (v := .ref (t_a 2)) (C := RX5) (T := TX5) (N := 6) hx hb hw inW5 hown hK.1 hP 0 rfl rfl 2 (by decide) (hw _ kw_5_0) (fun _ h9 => h9) rfl dX5_placeCall_37 ?_
        refine lv_iload_n hx hb dX5_placeCall_40 rfl (lv_at hl 3 rfl) ?_
        obtain ⟨hi_9, hf⟩ := rdI_in hf
        refine va_iald hx hb hK.1 hP 2 0 rfl rfl hi_9 dX5_placeCall_41 ?_
        refine lv_topi (fun x_8 ex_8 => ?_)
        have hf := hf x_8 ex_8
        refine lv_ior hx hb dX5_placeCall_42 ?_
        obtain ⟨hi_11, hf⟩ := wrI_in hf
        refine xiast hx hb hK.1 hP hD hS 1 0 rfl rfl hi_11 dX5_placeCall_43 (fun t_taken_10 H locs et_taken_10 hP hD hS => ?_)
        have hf := hf t_taken_10 et_taken_10
        have hP : va_P G.1 vwCl [oX5 t_h t_a t_placed t_ended t_waited, arI G (t_a 0) 492 t_taken_10, arI G (t_a 2) 12 t_route] H := hP
        have hD : va_D A [oX5 t_h t_a t_placed t_ended t_waited, arI G (t_a 0) 492 t_taken_10, arI G (t_a 2) 12 t_route] := hD
        refine lv_iinc (v := (l3 + 1)) (lv' := [(3, .int (l3 + 1)), (0, .ref t_h), (1, .int v1), (2, .int l2)]) hx hb dX5_placeCall_44 hl (k := 3) rfl (by rfl) (by decide) rfl (fun ls hl => ?_)
        refine lv_goto (tgt := 22) hx hb dX5_placeCall_47 (by decide) ?_
        exact ih _ _ _ _ _ hP hD hS (lv_sub hl [1, 2, 3, 0] rfl) hf hX
  have L2 : ∀ (t_taken : Nat → Int32) (t_placed : Int32) (t_ended : Int32) (t_waited : Int32) (K : Option (Int32 × (Nat → Int32) × Int32 × Int32 × Int32)) (n : Nat) (l2 : Int32) (H : Heap) (locs : List Loc) (ls : Array Slot), va_P G.1 vwCl [oX5 t_h t_a t_placed t_ended t_waited, arI G (t_a 0) 492 t_taken, arI G (t_a 2) 12 t_route] H → va_D A [oX5 t_h t_a t_placed t_ended t_waited, arI G (t_a 0) 492 t_taken, arI G (t_a 2) 12 t_route] → va_S A s.heap H locs → lv_has ls 4 [(0, .ref t_h), (1, .int v1), (2, .int l2)] → fX5_placeCall_2 v1 t_taken t_route t_placed t_ended t_waited K n l2 = some (r, o_t_taken, o_t_placed, o_t_ended, o_t_waited) → (∀  (H : Heap) (locs : List Loc) (ls : Array Slot), va_P G.1 vwCl [oX5 t_h t_a t_placed t_ended t_waited, arI G (t_a 0) 492 t_taken, arI G (t_a 2) 12 t_route] H → va_D A [oX5 t_h t_a t_placed t_ended t_waited, arI G (t_a 0) 492 t_taken, arI G (t_a 2) 12 t_route] → va_S A s.heap H locs → lv_has ls 4 [] → K = some (r, o_t_taken, o_t_placed, o_t_ended, o_t_waited) → W p l e ({ frames := 1, cells := 0, slots := 0, locals := 32 } : Room) s m args below meth c H locs 0 0 Q (F0 m 92 ls [])) → W p l e ({ frames := 1, cells := 0, slots := 0, locals := 32 } : Room) s m args below meth c H locs 0 0 Q (F0 m 2 ls []) := by
    intro t_taken t_placed t_ended t_waited K n
    induction n with
    | zero => intro l2 H locs ls hP hD hS hl hf; rw [fX5_placeCall_2] at hf; cases hf
    | succ n ih =>
      intro l2 H locs ls hP hD hS hl hf hX
      rw [fX5_placeCall_2] at hf
      refine lv_iload_n hx hb dX5_placeCall_2 rfl (lv_at hl 2 rfl) ?_
      refine lv_iload_n hx hb dX5_placeCall_3 rfl (lv_at hl 1 rfl) ?_
      refine lv_iadd hx hb dX5_placeCall_4 ?_
      refine lv_sipush (v := 492) hx hb dX5_placeCall_5 (by decide) ?_
      refine lv_icmp_gt (tgt := 92) hx hb dX5_placeCall_8 (by decide) (fun c_1 => ?_) (fun c_1 => ?_)
      · have hf := ip c_1 hf
        exact hX  _ _ _ hP hD hS (lv_sub hl [] rfl) hf
      · have hf := iq c_1 hf
        refine lv_aload_n hx hb dX5_placeCall_11 rfl (lv_at hl 0 rfl) ?_
        refine lv_iload_n hx hb dX5_placeCall_12 rfl (lv_at hl 2 rfl) ?_
        refine lv_iload_n hx hb dX5_placeCall_13 rfl (lv_at hl 1 rfl) ?_
        obtain ⟨r_2, hc_3, hf⟩ := bd1_in hf
        refine rcI (va_runV (As := [.int l2, .int v1]) (rest := []) ⟨hx, hb, hml, hown, hw⟩ ((ctX5_isFree l G t_h t_a t_taken t_route t_placed t_ended t_waited l2 v1 _ hc_3) _) (kV hw calX5_isFree kw_44_5 rfl rfl ⟨Nat.le_of_ble_eq_true rfl, Nat.le_of_ble_eq_true rfl⟩) (rpV (hP.sub (ws' := [oX5 t_h t_a t_placed t_ended t_waited, arI G (t_a 0) 492 t_taken, arI G (t_a 2) 12 t_route]) [0, 1, 2] rfl) hK (ci := 5) (q0 := 0) rfl rfl) rfl rfl hl.1 rfl (lv_room (Nat.le_of_ble_eq_true rfl)) dX5_placeCall_14 ⟨Nat.zero_le _, Nat.zero_le _⟩) hS hA hP (fun H locs hP hS => ?_)
        refine lv_if_eq (tgt := 86) hx hb dX5_placeCall_17 (by decide) (fun c_4 => ?_) (fun c_4 => ?_)
        · have hf := ip c_4 hf
          refine lv_iinc (v := (l2 + 1)) (lv' := [(2, .int (l2 + 1)), (0, .ref t_h), (1, .int v1)]) hx hb dX5_placeCall_86 hl (k := 2) rfl (by rfl) (by decide) rfl (fun ls hl => ?_)
          refine lv_goto (tgt := 2) hx hb dX5_placeCall_89 (by decide) ?_
          exact ih _ _ _ _ hP hD hS (lv_sub hl [1, 2, 0] rfl) hf hX
        · have hf := iq c_4 hf
          refine lv_iconst (v := 0) hx hb dX5_placeCall_20 (by decide) ?_
          refine lv_istore_n (lv' := [(3, .int 0), (0, .ref t_h), (1, .int v1), (2, .int l2)]) hx hb dX5_placeCall_21 rfl hl (by decide) rfl (fun ls hl => ?_)
          refine L22 _ _ _ _ _ _ _ _ _ _ _ hP hD hS (lv_sub hl [1, 2, 3, 0] rfl) hf (fun t_taken_12 H locs ls hP hD hS hl hf => ?_)
          refine lv_aload_n hx hb dX5_placeCall_50 rfl (lv_at hl 0 rfl) ?_
          refine lv_dup hx hb dX5_placeCall_51 rfl ?_
          refine va_get (D := G.1) (ci := 5) (v := .int t_placed) (C := RX5) (T := TX5) (N := 6) hx hb hw inW5 hown hK.1 hP 0 rfl rfl 3 (by decide) (hw _ kw_43_9) (fun _ h9 => h9) rfl dX5_placeCall_52 ?_
          refine lv_iconst (v := 1) hx hb dX5_placeCall_55 (by decide) ?_
          refine lv_iadd hx hb dX5_placeCall_56 ?_
          refine lv_topi (fun y_13 ey_13 => ?_)
          have hf := bnd_all hf y_13 ey_13
          refine va_put (D := G.1) (ci := 5) (v := .int y_13) (ty := .int) (C := RX5) (T := TX5) (N := 6) hx hb hw inW5 tyX5 tyX5_ok nmX5 hown hK.1 hP hD hS 0 rfl rfl 3 (by decide) (hw _ kw_43_9) (fun _ h9 => h9) rfl (by decide +kernel) rfl rfl (Nat.le_of_ble_eq_true rfl) dX5_placeCall_57 (fun H locs hP hD hS => ?_)
          have hP : va_P G.1 vwCl [oX5 t_h t_a y_13 t_ended t_waited, arI G (t_a 0) 492 t_taken_12, arI G (t_a 2) 12 t_route] H := hP
          have hD : va_D A [oX5 t_h t_a y_13 t_ended t_waited, arI G (t_a 0) 492 t_taken_12, arI G (t_a 2) 12 t_route] := hD
          refine lv_aload_n hx hb dX5_placeCall_60 rfl (lv_at hl 0 rfl) ?_
          refine lv_dup hx hb dX5_placeCall_61 rfl ?_
          refine va_get (D := G.1) (ci := 5) (v := .int t_waited) (C := RX5) (T := TX5) (N := 6) hx hb hw inW5 hown hK.1 hP 0 rfl rfl 5 (by decide) (hw _ kw_43_11) (fun _ h9 => h9) rfl dX5_placeCall_62 ?_
          refine lv_iload_n hx hb dX5_placeCall_65 rfl (lv_at hl 2 rfl) ?_
          refine lv_iadd hx hb dX5_placeCall_66 ?_
          refine lv_topi (fun y_14 ey_14 => ?_)
          have hf := bnd_all hf y_14 ey_14
          refine va_put (D := G.1) (ci := 5) (v := .int y_14) (ty := .int) (C := RX5) (T := TX5) (N := 6) hx hb hw inW5 tyX5 tyX5_ok nmX5 hown hK.1 hP hD hS 0 rfl rfl 5 (by decide) (hw _ kw_43_11) (fun _ h9 => h9) rfl (by decide +kernel) rfl rfl (Nat.le_of_ble_eq_true rfl) dX5_placeCall_67 (fun H locs hP hD hS => ?_)
          have hP : va_P G.1 vwCl [oX5 t_h t_a y_13 t_ended y_14, arI G (t_a 0) 492 t_taken_12, arI G (t_a 2) 12 t_route] H := hP
          have hD : va_D A [oX5 t_h t_a y_13 t_ended y_14, arI G (t_a 0) 492 t_taken_12, arI G (t_a 2) 12 t_route] := hD
          refine lv_aload_n hx hb dX5_placeCall_70 rfl (lv_at hl 0 rfl) ?_
          refine lv_aload_n hx hb dX5_placeCall_71 rfl (lv_at hl 0 rfl) ?_
          refine va_get (D := G.1) (ci := 5) (v := .int t_ended) (C := RX5) (T := TX5) (N := 6) hx hb hw inW5 hown hK.1 hP 0 rfl rfl 4 (by decide) (hw _ kw_43_10) (fun _ h9 => h9) rfl dX5_placeCall_72 ?_
          refine lv_iload_n hx hb dX5_placeCall_75 rfl (lv_at hl 2 rfl) ?_
          refine lv_iload_n hx hb dX5_placeCall_76 rfl (lv_at hl 1 rfl) ?_
          refine lv_iadd hx hb dX5_placeCall_77 ?_
          refine va_mmax hx hb (by rw [hml]; exact hl.1.symm) hown (hw _ kw_44_4) (hw _ kw_12_5) (hw _ kw_7_9) (hw _ kw_12_6) (by exact Nat.le_of_ble_eq_true rfl) (by exact Nat.le_of_ble_eq_true rfl) (Nat.zero_le _) (Nat.zero_le _) dX5_placeCall_78 ?_
          refine lv_topi (fun y_15 ey_15 => ?_)
          have hf := bnd_all hf y_15 ey_15
          refine va_put (D := G.1) (ci := 5) (v := .int y_15) (ty := .int) (C := RX5) (T := TX5) (N := 6) hx hb hw inW5 tyX5 tyX5_ok nmX5 hown hK.1 hP hD hS 0 rfl rfl 4 (by decide) (hw _ kw_43_10) (fun _ h9 => h9) rfl (by decide +kernel) rfl rfl (Nat.le_of_ble_eq_true rfl) dX5_placeCall_81 (fun H locs hP hD hS => ?_)
          have hP : va_P G.1 vwCl [oX5 t_h t_a y_13 y_15 y_14, arI G (t_a 0) 492 t_taken_12, arI G (t_a 2) 12 t_route] H := hP
          have hD : va_D A [oX5 t_h t_a y_13 y_15 y_14, arI G (t_a 0) 492 t_taken_12, arI G (t_a 2) 12 t_route] := hD
          refine lv_iload_n hx hb dX5_placeCall_84 rfl (lv_at hl 2 rfl) ?_
          exact hRet _ _ _ _ _ _ _ _ _ hf hP hS dX5_placeCall_85
  unfold fX5_placeCall at hf
  refine lv_iconst (v := 0) hx hb dX5_placeCall_0 (by decide) ?_
  refine lv_istore_n (lv' := [(2, .int 0), (0, .ref t_h), (1, .int v1)]) hx hb dX5_placeCall_1 rfl hl (by decide) rfl (fun ls hl => ?_)
  refine L2 _ _ _ _ _ _ _ _ _ _ hP hD hS (lv_sub hl [1, 2, 0] rfl) hf (fun  H locs ls hP hD hS hl hf => ?_)
  refine lv_iconst (v := (-1)) hx hb dX5_placeCall_92 (by decide) ?_
  exact hRet _ _ _ _ _ _ _ _ _ hf hP hS dX5_placeCall_93
theorem calX5_placeCalls : CalV yX5_placeCalls cX5_placeCalls 6 none 3 := ⟨⟨kw_43_8, kw_2_12, by decide +kernel⟩, kw_43_6, kw_43_7⟩
set_option maxHeartbeats 8000000 in
set_option maxRecDepth 100000 in
theorem ctX5_placeCalls (l : Launch) (G : GT) (t_h : Nat) (t_a : Nat → Nat) (p1_h : Nat) (p1_a : Nat → Nat) (p2_h : Nat) (p2_a : Nat → Nat) (p3_h : Nat) (p3_a : Nat → Nat) (t_taken : Nat → Int32) (t_begins : Nat → Int32) (t_route : Nat → Int32) (t_placed : Int32) (t_ended : Int32) (t_waited : Int32) (p1_windows : Int32) (p1_washes : Int32) (p1_damp : Int32) (p1_heard : Int32) (p1_lines : Int32) (p1_hour : Int32) (p1_strings : Int32) (p1_pairs : Nat → Int32) (p2_windows : Int32) (p2_links : Nat → Int32) (p2_prices : Nat → Int32) (p2_rest : Nat → Int32) (p2_goal : Int32) (p2_otherFrom : Int32) (p2_otherTo : Int32) (p2_least : Int32) (p3_values : Nat → Int64) (p3_sort : Int32) (p3_size : Int32) (o_t_taken : Nat → Int32) (o_t_begins : Nat → Int32) (o_t_route : Nat → Int32) (o_t_placed : Int32) (o_t_ended : Int32) (o_t_waited : Int32) (o_p2_rest : Nat → Int32) (hf : fX5_placeCalls t_taken t_begins t_route t_placed t_ended t_waited p1_heard p1_strings p1_pairs p2_windows p2_links p2_prices p2_rest p3_values p3_size = some (o_t_taken, o_t_begins, o_t_route, o_t_placed, o_t_ended, o_t_waited, o_p2_rest)) : WrV l yX5_placeCalls (Cond.code yX5_placeCalls cX5_placeCalls 6 none) { frames := 4, cells := 0, slots := 0, locals := 95 } G [.ref t_h, .ref p1_h, .ref p2_h, .ref p3_h] [oX5 t_h t_a t_placed t_ended t_waited, arI G (t_a 0) 492 t_taken, arI G (t_a 1) 40 t_begins, arI G (t_a 2) 12 t_route, oX1 p1_h p1_a p1_windows p1_washes p1_damp p1_heard p1_lines p1_hour p1_strings, arI G (p1_a 10) 21 p1_pairs, oX6 p2_h p2_a p2_windows p2_goal p2_otherFrom p2_otherTo p2_least, arI G (p2_a 1) 12 p2_links, arI G (p2_a 2) 144 p2_prices, arI G (p2_a 3) 12 p2_rest, oX4 p3_h p3_a p3_sort p3_size, arJ G (p3_a 0) 40 p3_values] [oX5 t_h t_a o_t_placed o_t_ended o_t_waited, arI G (t_a 0) 492 o_t_taken, arI G (t_a 1) 40 o_t_begins, arI G (t_a 2) 12 o_t_route, oX1 p1_h p1_a p1_windows p1_washes p1_damp p1_heard p1_lines p1_hour p1_strings, arI G (p1_a 10) 21 p1_pairs, oX6 p2_h p2_a p2_windows p2_goal p2_otherFrom p2_otherTo p2_least, arI G (p2_a 1) 12 p2_links, arI G (p2_a 2) 144 p2_prices, arI G (p2_a 3) 12 o_p2_rest, oX4 p3_h p3_a p3_sort p3_size, arJ G (p3_a 0) 40 p3_values] := by
  intro sz
  refine Met.ofW (cc := cX5_placeCalls) (maxL := 6) (ret := none) (by decide) rfl ?_
  intro p e s m args below meth c s₁ B hml hv
  obtain ⟨hargs, hsz, hP, hD0, hK⟩ := hv
  subst hsz
  obtain ⟨hx, hb, hr, hw, hown, hlk⟩ := fwB B
  refine fw_enter hargs (Nat.le_of_ble_eq_true rfl) (fun ls hl => ?_)
  have hl : lv_has ls 6 [(0, .ref t_h), (1, .ref p1_h), (2, .ref p2_h), (3, .ref p3_h)] := hl
  refine fw_Q (P := fun Q => ∃ A : Nat → Prop, va_D A [oX5 t_h t_a t_placed t_ended t_waited, arI G (t_a 0) 492 t_taken, arI G (t_a 1) 40 t_begins, arI G (t_a 2) 12 t_route, oX1 p1_h p1_a p1_windows p1_washes p1_damp p1_heard p1_lines p1_hour p1_strings, arI G (p1_a 10) 21 p1_pairs, oX6 p2_h p2_a p2_windows p2_goal p2_otherFrom p2_otherTo p2_least, arI G (p2_a 1) 12 p2_links, arI G (p2_a 2) 144 p2_prices, arI G (p2_a 3) 12 p2_rest, oX4 p3_h p3_a p3_sort p3_size, arJ G (p3_a 0) 40 p3_values] ∧ va_S A s.heap s.heap [] ∧ (∀ q, s.heap.size ≤ q → A q) ∧ ∀ (n_t_taken : Nat → Int32) (n_t_begins : Nat → Int32) (n_t_route : Nat → Int32) (n_t_placed : Int32) (n_t_ended : Int32) (n_t_waited : Int32) (n_p2_rest : Nat → Int32) (H : Heap) (locs : List Loc) (pc : Nat) (ls : Array Slot), some (n_t_taken, n_t_begins, n_t_route, n_t_placed, n_t_ended, n_t_waited, n_p2_rest) = some (o_t_taken, o_t_begins, o_t_route, o_t_placed, o_t_ended, o_t_waited, o_p2_rest) → va_P G.1 vwCl [oX5 t_h t_a n_t_placed n_t_ended n_t_waited, arI G (t_a 0) 492 n_t_taken, arI G (t_a 1) 40 n_t_begins, arI G (t_a 2) 12 n_t_route, oX1 p1_h p1_a p1_windows p1_washes p1_damp p1_heard p1_lines p1_hour p1_strings, arI G (p1_a 10) 21 p1_pairs, oX6 p2_h p2_a p2_windows p2_goal p2_otherFrom p2_otherTo p2_least, arI G (p2_a 1) 12 p2_links, arI G (p2_a 2) 144 p2_prices, arI G (p2_a 3) 12 n_p2_rest, oX4 p3_h p3_a p3_sort p3_size, arJ G (p3_a 0) 40 p3_values] H → va_S A s.heap H locs → decode cX5_placeCalls pc = .ok (.return_, 1) → W p l e ({ frames := 4, cells := 0, slots := 0, locals := 95 } : Room) s m args below meth c H locs 0 0 Q (F0 m pc ls [])) ⟨va_A [oX5 t_h t_a t_placed t_ended t_waited, arI G (t_a 0) 492 t_taken, arI G (t_a 1) 40 t_begins, arI G (t_a 2) 12 t_route, oX1 p1_h p1_a p1_windows p1_washes p1_damp p1_heard p1_lines p1_hour p1_strings, arI G (p1_a 10) 21 p1_pairs, oX6 p2_h p2_a p2_windows p2_goal p2_otherFrom p2_otherTo p2_least, arI G (p2_a 1) 12 p2_links, arI G (p2_a 2) 144 p2_prices, arI G (p2_a 3) 12 p2_rest, oX4 p3_h p3_a p3_sort p3_size, arJ G (p3_a 0) 40 p3_values] s.heap.size, hD0.self (sz := s.heap.size), va_S.rf, fun q h => Or.inr h, ?_⟩ ?_
  · intro n_t_taken n_t_begins n_t_route n_t_placed n_t_ended n_t_waited n_p2_rest H locs pc ls h hP hS hd
    cases h
    exact retWV hx hb hr hlk hS hP hd
  rintro Q ⟨A, hD, hS, hA, hRet⟩
  change W p l e ({ frames := 4, cells := 0, slots := 0, locals := 95 } : Room) s m args below meth c _ _ 0 0 Q _
  have L34 : ∀  (K : (Nat → Int32) → (Nat → Int32) → (Nat → Int32) → Int32 → Int32 → Int32 → (Nat → Int32) → Option ((Nat → Int32) × (Nat → Int32) × (Nat → Int32) × Int32 × Int32 × Int32 × (Nat → Int32))) (n : Nat) (l4 : Int32) (t_taken : Nat → Int32) (t_begins : Nat → Int32) (t_route : Nat → Int32) (t_placed : Int32) (t_ended : Int32) (t_waited : Int32) (p2_rest : Nat → Int32) (H : Heap) (locs : List Loc) (ls : Array Slot), va_P G.1 vwCl [oX5 t_h t_a t_placed t_ended t_waited, arI G (t_a 0) 492 t_taken, arI G (t_a 1) 40 t_begins, arI G (t_a 2) 12 t_route, oX1 p1_h p1_a p1_windows p1_washes p1_damp p1_heard p1_lines p1_hour p1_strings, arI G (p1_a 10) 21 p1_pairs, oX6 p2_h p2_a p2_windows p2_goal p2_otherFrom p2_otherTo p2_least, arI G (p2_a 1) 12 p2_links, arI G (p2_a 2) 144 p2_prices, arI G (p2_a 3) 12 p2_rest, oX4 p3_h p3_a p3_sort p3_size, arJ G (p3_a 0) 40 p3_values] H → va_D A [oX5 t_h t_a t_placed t_ended t_waited, arI G (t_a 0) 492 t_taken, arI G (t_a 1) 40 t_begins, arI G (t_a 2) 12 t_route, oX1 p1_h p1_a p1_windows p1_washes p1_damp p1_heard p1_lines p1_hour p1_strings, arI G (p1_a 10) 21 p1_pairs, oX6 p2_h p2_a p2_windows p2_goal p2_otherFrom p2_otherTo p2_least, arI G (p2_a 1) 12 p2_links, arI G (p2_a 2) 144 p2_prices, arI G (p2_a 3) 12 p2_rest, oX4 p3_h p3_a p3_sort p3_size, arJ G (p3_a 0) 40 p3_values] → va_S A s.heap H locs → lv_has ls 6 [(0, .ref t_h), (1, .ref p1_h), (2, .ref p2_h), (3, .ref p3_h), (4, .int l4)] → fX5_placeCalls_34 p1_heard p1_strings p1_pairs p2_windows p2_links p2_prices p3_values p3_size K n l4 t_taken t_begins t_route t_placed t_ended t_waited p2_rest = some (o_t_taken, o_t_begins, o_t_route, o_t_placed, o_t_ended, o_t_waited, o_p2_rest) → (∀ (kt_taken : Nat → Int32) (kt_begins : Nat → Int32) (kt_route : Nat → Int32) (kt_placed : Int32) (kt_ended : Int32) (kt_waited : Int32) (kp2_rest : Nat → Int32) (H : Heap) (locs : List Loc) (ls : Array Slot), va_P G.1 vwCl [oX5 t_h t_a kt_placed kt_ended kt_waited, arI G (t_a 0) 492 kt_taken, arI G (t_a 1) 40 kt_begins, arI G (t_a 2) 12 kt_route, oX1 p1_h p1_a p1_windows p1_washes p1_damp p1_heard p1_lines p1_hour p1_strings, arI G (p1_a 10) 21 p1_pairs, oX6 p2_h p2_a p2_windows p2_goal p2_otherFrom p2_otherTo p2_least, arI G (p2_a 1) 12 p2_links, arI G (p2_a 2) 144 p2_prices, arI G (p2_a 3) 12 kp2_rest, oX4 p3_h p3_a p3_sort p3_size, arJ G (p3_a 0) 40 p3_values] H → va_D A [oX5 t_h t_a kt_placed kt_ended kt_waited, arI G (t_a 0) 492 kt_taken, arI G (t_a 1) 40 kt_begins, arI G (t_a 2) 12 kt_route, oX1 p1_h p1_a p1_windows p1_washes p1_damp p1_heard p1_lines p1_hour p1_strings, arI G (p1_a 10) 21 p1_pairs, oX6 p2_h p2_a p2_windows p2_goal p2_otherFrom p2_otherTo p2_least, arI G (p2_a 1) 12 p2_links, arI G (p2_a 2) 144 p2_prices, arI G (p2_a 3) 12 kp2_rest, oX4 p3_h p3_a p3_sort p3_size, arJ G (p3_a 0) 40 p3_values] → va_S A s.heap H locs → lv_has ls 6 [] → K kt_taken kt_begins kt_route kt_placed kt_ended kt_waited kp2_rest = some (o_t_taken, o_t_begins, o_t_route, o_t_placed, o_t_ended, o_t_waited, o_p2_rest) → W p l e ({ frames := 4, cells := 0, slots := 0, locals := 95 } : Room) s m args below meth c H locs 0 0 Q (F0 m 106 ls [])) → W p l e ({ frames := 4, cells := 0, slots := 0, locals := 95 } : Room) s m args below meth c H locs 0 0 Q (F0 m 34 ls []) := by
    intro  K n
    induction n with
    | zero => intro l4 t_taken t_begins t_route t_placed t_ended t_waited p2_rest H locs ls hP hD hS hl hf; rw [fX5_placeCalls_34] at hf; cases hf
    | succ n ih =>
      intro l4 t_taken t_begins t_route t_placed t_ended t_waited p2_rest H locs ls hP hD hS hl hf hX
      rw [fX5_placeCalls_34] at hf
      refine lv_iload hx hb dX5_placeCalls_34 (lv_at hl 4 rfl) ?_
      refine lv_aload_n hx hb dX5_placeCalls_36 rfl (lv_at hl 3 rfl) ?_
      refine va_getN (D := G.1) (ci := 4) (v := .int p3_size) (C := RX4) (T := TX4) (N := 3) hx hb hw inW4 hown hK.1 hP 10 rfl rfl 2 (by decide) ((nf_38 hK.2).use rfl) (fun _ h9 => h9) rfl dX5_placeCalls_37 ?_
      refine lv_icmp_ge (tgt := 106) hx hb dX5_placeCalls_40 (by decide) (fun c_5 => ?_) (fun c_5 => ?_)
      · have hf := ip c_5 hf
        exact hX _ _ _ _ _ _ _ _ _ _ hP hD hS (lv_sub hl [] rfl) hf
      · have hf := iq c_5 hf
        refine lv_aload_n hx hb dX5_placeCalls_43 rfl (lv_at hl 3 rfl) ?_
        refine lv_iload hx hb dX5_placeCalls_44 (lv_at hl 4 rfl) ?_
        obtain ⟨r_6, hc_7, hf⟩ := bd1_in hf
        refine rcL (va_runV (As := [.int l4]) (rest := []) ⟨hx, hb, hml, hown, hw⟩ ((ctX4_numberAt l G p3_h p3_a p3_values p3_sort p3_size l4 _ hc_7) _) (kV hw calX4_numberAt kw_43_13 rfl rfl ⟨Nat.le_of_ble_eq_true rfl, Nat.le_of_ble_eq_true rfl⟩) (rpV (hP.sub (ws' := [oX4 p3_h p3_a p3_sort p3_size, arJ G (p3_a 0) 40 p3_values]) [10, 11] rfl) hK (ci := 4) (q0 := 0) rfl rfl) rfl rfl hl.1 rfl (lv_room (Nat.le_of_ble_eq_true rfl)) dX5_placeCalls_46 ⟨Nat.zero_le _, Nat.zero_le _⟩) hS hA hP (fun H locs hP hS => ?_)
        refine lv_l2i hx hb dX5_placeCalls_49 rfl ?_
        refine lv_topi (fun y_8 ey_8 => ?_)
        have hf := bnd_all hf y_8 ey_8
        refine lv_istore (lv' := [(5, .int y_8), (0, .ref t_h), (1, .ref p1_h), (2, .ref p2_h), (3, .ref p3_h), (4, .int l4)]) hx hb dX5_placeCalls_50 hl (by decide) rfl (fun ls hl => ?_)
        refine lv_aload_n hx hb dX5_placeCalls_52 rfl (lv_at hl 3 rfl) ?_
        refine lv_iload hx hb dX5_placeCalls_53 (lv_at hl 0 rfl) ?_
        obtain ⟨r_9, hc_10, hf⟩ := bd1_in hf
        refine rcI (va_runSN (As := [.int y_8]) (rest := [.ref p2_h]) ⟨hx, hb, hml, hown, hw⟩ ((ctX7_greater l G y_8 _ hc_10) _) (kSN hw calX7_greater (nm_15 hK.2) rfl rfl ⟨Nat.le_of_ble_eq_true rfl, Nat.le_of_ble_eq_true rfl⟩) (rpS (hP.sub (ws' := []) [] rfl) hK) rfl rfl hl.1 rfl (lv_room (Nat.le_of_ble_eq_true rfl)) dX5_placeCalls_55 ⟨Nat.zero_le _, Nat.zero_le _⟩) hS hA hP (fun H locs hP hS => ?_)
        refine lv_iconst (v := 0) hx hb dX5_placeCalls_58 (by decide) ?_
        obtain ⟨p2_rest_11, hc_12, hf⟩ := bd1_in hf
        refine wcV (w1 := [oX6 p2_h p2_a p2_windows p2_goal p2_otherFrom p2_otherTo p2_least, arI G (p2_a 1) 12 p2_links, arI G (p2_a 2) 144 p2_prices, arI G (p2_a 3) 12 p2_rest_11]) (va_runV (As := [.int r_9, .int 0]) (rest := []) ⟨hx, hb, hml, hown, hw⟩ ((ctX6_measure l G p2_h p2_a p2_windows p2_links p2_prices p2_rest p2_goal p2_otherFrom p2_otherTo p2_least r_9 0 _ hc_12) _) (kV hw calX6_measure kw_43_14 rfl rfl ⟨Nat.le_of_ble_eq_true rfl, Nat.le_of_ble_eq_true rfl⟩) (wpV (hP.sub (ws' := [oX6 p2_h p2_a p2_windows p2_goal p2_otherFrom p2_otherTo p2_least, arI G (p2_a 1) 12 p2_links, arI G (p2_a 2) 144 p2_prices, arI G (p2_a 3) 12 p2_rest]) [6, 7, 8, 9] rfl) (hD.sub (ws' := [oX6 p2_h p2_a p2_windows p2_goal p2_otherFrom p2_otherTo p2_least, arI G (p2_a 1) 12 p2_links, arI G (p2_a 2) 144 p2_prices, arI G (p2_a 3) 12 p2_rest]) [6, 7, 8, 9] (by decide) rfl) hK (ci := 6) (q0 := 0) rfl rfl) rfl rfl hl.1 rfl (lv_room (Nat.le_of_ble_eq_true rfl)) dX5_placeCalls_59 ⟨Nat.zero_le _, Nat.zero_le _⟩) hS hA hP hD [6, 7, 8, 9] rfl rfl (fun H locs hP hD hS => ?_)
        have hP : va_P G.1 vwCl [oX5 t_h t_a t_placed t_ended t_waited, arI G (t_a 0) 492 t_taken, arI G (t_a 1) 40 t_begins, arI G (t_a 2) 12 t_route, oX1 p1_h p1_a p1_windows p1_washes p1_damp p1_heard p1_lines p1_hour p1_strings, arI G (p1_a 10) 21 p1_pairs, oX6 p2_h p2_a p2_windows p2_goal p2_otherFrom p2_otherTo p2_least, arI G (p2_a 1) 12 p2_links, arI G (p2_a 2) 144 p2_prices, arI G (p2_a 3) 12 p2_rest_11, oX4 p3_h p3_a p3_sort p3_size, arJ G (p3_a 0) 40 p3_values] H := hP
        have hD : va_D A [oX5 t_h t_a t_placed t_ended t_waited, arI G (t_a 0) 492 t_taken, arI G (t_a 1) 40 t_begins, arI G (t_a 2) 12 t_route, oX1 p1_h p1_a p1_windows p1_washes p1_damp p1_heard p1_lines p1_hour p1_strings, arI G (p1_a 10) 21 p1_pairs, oX6 p2_h p2_a p2_windows p2_goal p2_otherFrom p2_otherTo p2_least, arI G (p2_a 1) 12 p2_links, arI G (p2_a 2) 144 p2_prices, arI G (p2_a 3) 12 p2_rest_11, oX4 p3_h p3_a p3_sort p3_size, arJ G (p3_a 0) 40 p3_values] := hD
        refine lv_aload_n hx hb dX5_placeCalls_62 rfl (lv_at hl 3 rfl) ?_
        refine lv_iload hx hb dX5_placeCalls_63 (lv_at hl 0 rfl) ?_
        obtain ⟨r_13, hc_14, hf⟩ := bd1_in hf
        refine rcI (va_runSN (As := [.int y_8]) (rest := [.ref p2_h]) ⟨hx, hb, hml, hown, hw⟩ ((ctX7_lesser l G y_8 _ hc_14) _) (kSN hw calX7_lesser (nm_16 hK.2) rfl rfl ⟨Nat.le_of_ble_eq_true rfl, Nat.le_of_ble_eq_true rfl⟩) (rpS (hP.sub (ws' := []) [] rfl) hK) rfl rfl hl.1 rfl (lv_room (Nat.le_of_ble_eq_true rfl)) dX5_placeCalls_65 ⟨Nat.zero_le _, Nat.zero_le _⟩) hS hA hP (fun H locs hP hS => ?_)
        refine lv_aload_n hx hb dX5_placeCalls_68 rfl (lv_at hl 2 rfl) ?_
        refine va_getN (D := G.1) (ci := 1) (v := .int p1_heard) (C := RX1) (T := TX1) (N := 12) hx hb hw inW1 hown hK.1 hP 4 rfl rfl 3 (by decide) ((nf_11 hK.2).use rfl) (fun _ h9 => h9) rfl dX5_placeCalls_69 ?_
        obtain ⟨r_15, hc_16, hf⟩ := bd1_in hf
        refine rcI (va_runV (As := [.int r_13, .int p1_heard]) (rest := []) ⟨hx, hb, hml, hown, hw⟩ ((ctX6_isHeardFrom l G p2_h p2_a p2_windows p2_rest_11 p2_goal p2_otherFrom p2_otherTo p2_least r_13 p1_heard _ hc_16) _) (kV hw calX6_isHeardFrom kw_43_15 rfl rfl ⟨Nat.le_of_ble_eq_true rfl, Nat.le_of_ble_eq_true rfl⟩) (rpV (hP.sub (ws' := [oX6 p2_h p2_a p2_windows p2_goal p2_otherFrom p2_otherTo p2_least, arI G (p2_a 3) 12 p2_rest_11]) [6, 9] rfl) hK (ci := 6) (q0 := 0) rfl rfl) rfl rfl hl.1 rfl (lv_room (Nat.le_of_ble_eq_true rfl)) dX5_placeCalls_72 ⟨Nat.zero_le _, Nat.zero_le _⟩) hS hA hP (fun H locs hP hS => ?_)
        refine lv_if_eq (tgt := 100) hx hb dX5_placeCalls_75 (by decide) (fun c_17 => ?_) (fun c_17 => ?_)
        · have hf := ip c_17 hf
          refine lv_iinc (v := (l4 + 1)) (lv' := [(4, .int (l4 + 1)), (5, .int y_8), (0, .ref t_h), (1, .ref p1_h), (2, .ref p2_h), (3, .ref p3_h)]) hx hb dX5_placeCalls_100 hl (k := 5) rfl (by rfl) (by decide) rfl (fun ls hl => ?_)
          refine lv_goto (tgt := 34) hx hb dX5_placeCalls_103 (by decide) ?_
          exact ih _ _ _ _ _ _ _ _ _ _ _ hP hD hS (lv_sub hl [2, 3, 4, 5, 0] rfl) hf hX
        · have hf := iq c_17 hf
          refine lv_aload_n hx hb dX5_placeCalls_78 rfl (lv_at hl 1 rfl) ?_
          refine va_get (D := G.1) (ci := 5) (v := .ref (t_a 1)) (C := RX5) (T := TX5) (N := 6) hx hb hw inW5 hown hK.1 hP 0 rfl rfl 1 (by decide) (hw _ kw_4_23) (fun _ h9 => h9) rfl dX5_placeCalls_79 ?_
          refine lv_iload hx hb dX5_placeCalls_82 (lv_at hl 5 rfl) ?_
          refine lv_aload_n hx hb dX5_placeCalls_84 rfl (lv_at hl 1 rfl) ?_
          refine lv_aload_n hx hb dX5_placeCalls_85 rfl (lv_at hl 1 rfl) ?_
          refine lv_aload_n hx hb dX5_placeCalls_86 rfl (lv_at hl 2 rfl) ?_
          refine lv_aload_n hx hb dX5_placeCalls_87 rfl (lv_at hl 3 rfl) ?_
          refine lv_iload hx hb dX5_placeCalls_88 (lv_at hl 0 rfl) ?_
          obtain ⟨r_18, hc_19, hf⟩ := bd1_in hf
          refine rcI (va_runSN (As := [.int y_8]) (rest := [.ref p2_h, .ref p1_h, .ref t_h, .ref t_h, .int l4, .ref (t_a 1)]) ⟨hx, hb, hml, hown, hw⟩ ((ctX7_lesser l G y_8 _ hc_19) _) (kSN hw calX7_lesser (nm_16 hK.2) rfl rfl ⟨Nat.le_of_ble_eq_true rfl, Nat.le_of_ble_eq_true rfl⟩) (rpS (hP.sub (ws' := []) [] rfl) hK) rfl rfl hl.1 rfl (lv_room (Nat.le_of_ble_eq_true rfl)) dX5_placeCalls_90 ⟨Nat.zero_le _, Nat.zero_le _⟩) hS hA hP (fun H locs hP hS => ?_)
          obtain ⟨r_21, t_route_20, hc_22, hf⟩ := bd2_in hf
          refine wcI (w1 := [oX5 t_h t_a t_placed t_ended t_waited, arI G (t_a 2) 12 t_route_20, oX1 p1_h p1_a p1_windows p1_washes p1_damp p1_heard p1_lines p1_hour p1_strings, arI G (p1_a 10) 21 p1_pairs, oX6 p2_h p2_a p2_windows p2_goal p2_otherFrom p2_otherTo p2_least, arI G (p2_a 1) 12 p2_links, arI G (p2_a 2) 144 p2_prices, arI G (p2_a 3) 12 p2_rest_11]) (va_runV (As := [.ref p1_h, .ref p2_h, .int r_18]) (rest := [.ref t_h, .int l4, .ref (t_a 1)]) ⟨hx, hb, hml, hown, hw⟩ ((ctX5_layRoute l G t_h t_a p1_h p1_a p2_h p2_a t_route t_placed t_ended t_waited p1_windows p1_washes p1_damp p1_heard p1_lines p1_hour p1_strings p1_pairs p2_windows p2_links p2_prices p2_rest_11 p2_goal p2_otherFrom p2_otherTo p2_least r_18 _ _ hc_22) _) (kV hw calX5_layRoute kw_43_16 rfl rfl ⟨Nat.le_of_ble_eq_true rfl, Nat.le_of_ble_eq_true rfl⟩) (wpV (hP.sub (ws' := [oX5 t_h t_a t_placed t_ended t_waited, arI G (t_a 2) 12 t_route, oX1 p1_h p1_a p1_windows p1_washes p1_damp p1_heard p1_lines p1_hour p1_strings, arI G (p1_a 10) 21 p1_pairs, oX6 p2_h p2_a p2_windows p2_goal p2_otherFrom p2_otherTo p2_least, arI G (p2_a 1) 12 p2_links, arI G (p2_a 2) 144 p2_prices, arI G (p2_a 3) 12 p2_rest_11]) [0, 3, 4, 5, 6, 7, 8, 9] rfl) (hD.sub (ws' := [oX5 t_h t_a t_placed t_ended t_waited, arI G (t_a 2) 12 t_route, oX1 p1_h p1_a p1_windows p1_washes p1_damp p1_heard p1_lines p1_hour p1_strings, arI G (p1_a 10) 21 p1_pairs, oX6 p2_h p2_a p2_windows p2_goal p2_otherFrom p2_otherTo p2_least, arI G (p2_a 1) 12 p2_links, arI G (p2_a 2) 144 p2_prices, arI G (p2_a 3) 12 p2_rest_11]) [0, 3, 4, 5, 6, 7, 8, 9] (by decide) rfl) hK (ci := 5) (q0 := 0) rfl rfl) rfl rfl hl.1 rfl (lv_room (Nat.le_of_ble_eq_true rfl)) dX5_placeCalls_93 ⟨Nat.zero_le _, Nat.zero_le _⟩) hS hA hP hD [0, 3, 4, 5, 6, 7, 8, 9] rfl rfl (fun H locs hP hD hS => ?_)
          have hP : va_P G.1 vwCl [oX5 t_h t_a t_placed t_ended t_waited, arI G (t_a 0) 492 t_taken, arI G (t_a 1) 40 t_begins, arI G (t_a 2) 12 t_route_20, oX1 p1_h p1_a p1_windows p1_washes p1_damp p1_heard p1_lines p1_hour p1_strings, arI G (p1_a 10) 21 p1_pairs, oX6 p2_h p2_a p2_windows p2_goal p2_otherFrom p2_otherTo p2_least, arI G (p2_a 1) 12 p2_links, arI G (p2_a 2) 144 p2_prices, arI G (p2_a 3) 12 p2_rest_11, oX4 p3_h p3_a p3_sort p3_size, arJ G (p3_a 0) 40 p3_values] H := hP
          have hD : va_D A [oX5 t_h t_a t_placed t_ended t_waited, arI G (t_a 0) 492 t_taken, arI G (t_a 1) 40 t_begins, arI G (t_a 2) 12 t_route_20, oX1 p1_h p1_a p1_windows p1_washes p1_damp p1_heard p1_lines p1_hour p1_strings, arI G (p1_a 10) 21 p1_pairs, oX6 p2_h p2_a p2_windows p2_goal p2_otherFrom p2_otherTo p2_least, arI G (p2_a 1) 12 p2_links, arI G (p2_a 2) 144 p2_prices, arI G (p2_a 3) 12 p2_rest_11, oX4 p3_h p3_a p3_sort p3_size, arJ G (p3_a 0) 40 p3_values] := hD
          obtain ⟨r_27, t_taken_23, t_placed_24, t_ended_25, t_waited_26, hc_28, hf⟩ := bd5_in hf
          refine wcI (w1 := [oX5 t_h t_a t_placed_24 t_ended_25 t_waited_26, arI G (t_a 0) 492 t_taken_23, arI G (t_a 2) 12 t_route_20]) (va_runV (As := [.int r_21]) (rest := [.int l4, .ref (t_a 1)]) ⟨hx, hb, hml, hown, hw⟩ ((ctX5_placeCall l G t_h t_a t_taken t_route_20 t_placed t_ended t_waited r_21 _ _ _ _ _ hc_28) _) (kV hw calX5_placeCall kw_44_0 rfl rfl ⟨Nat.le_of_ble_eq_true rfl, Nat.le_of_ble_eq_true rfl⟩) (wpV (hP.sub (ws' := [oX5 t_h t_a t_placed t_ended t_waited, arI G (t_a 0) 492 t_taken, arI G (t_a 2) 12 t_route_20]) [0, 1, 3] rfl) (hD.sub (ws' := [oX5 t_h t_a t_placed t_ended t_waited, arI G (t_a 0) 492 t_taken, arI G (t_a 2) 12 t_route_20]) [0, 1, 3] (by decide) rfl) hK (ci := 5) (q0 := 0) rfl rfl) rfl rfl hl.1 rfl (lv_room (Nat.le_of_ble_eq_true rfl)) dX5_placeCalls_96 ⟨Nat.zero_le _, Nat.zero_le _⟩) hS hA hP hD [0, 1, 3] rfl rfl (fun H locs hP hD hS => ?_)
          have hP : va_P G.1 vwCl [oX5 t_h t_a t_placed_24 t_ended_25 t_waited_26, arI G (t_a 0) 492 t_taken_23, arI G (t_a 1) 40 t_begins, arI G (t_a 2) 12 t_route_20, oX1 p1_h p1_a p1_windows p1_washes p1_damp p1_heard p1_lines p1_hour p1_strings, arI G (p1_a 10) 21 p1_pairs, oX6 p2_h p2_a p2_windows p2_goal p2_otherFrom p2_otherTo p2_least, arI G (p2_a 1) 12 p2_links, arI G (p2_a 2) 144 p2_prices, arI G (p2_a 3) 12 p2_rest_11, oX4 p3_h p3_a p3_sort p3_size, arJ G (p3_a 0) 40 p3_values] H := hP
          have hD : va_D A [oX5 t_h t_a t_placed_24 t_ended_25 t_waited_26, arI G (t_a 0) 492 t_taken_23, arI G (t_a 1) 40 t_begins, arI G (t_a 2) 12 t_route_20, oX1 p1_h p1_a p1_windows p1_washes p1_damp p1_heard p1_lines p1_hour p1_strings, arI G (p1_a 10) 21 p1_pairs, oX6 p2_h p2_a p2_windows p2_goal p2_otherFrom p2_otherTo p2_least, arI G (p2_a 1) 12 p2_links, arI G (p2_a 2) 144 p2_prices, arI G (p2_a 3) 12 p2_rest_11, oX4 p3_h p3_a p3_sort p3_size, arJ G (p3_a 0) 40 p3_values] := hD
          obtain ⟨hi_30, hf⟩ := wrI_in hf
          refine xiast hx hb hK.1 hP hD hS 2 0 rfl rfl hi_30 dX5_placeCalls_99 (fun t_begins_29 H locs et_begins_29 hP hD hS => ?_)
          have hf := hf t_begins_29 et_begins_29
          have hP : va_P G.1 vwCl [oX5 t_h t_a t_placed_24 t_ended_25 t_waited_26, arI G (t_a 0) 492 t_taken_23, arI G (t_a 1) 40 t_begins_29, arI G (t_a 2) 12 t_route_20, oX1 p1_h p1_a p1_windows p1_washes p1_damp p1_heard p1_lines p1_hour p1_strings, arI G (p1_a 10) 21 p1_pairs, oX6 p2_h p2_a p2_windows p2_goal p2_otherFrom p2_otherTo p2_least, arI G (p2_a 1) 12 p2_links, arI G (p2_a 2) 144 p2_prices, arI G (p2_a 3) 12 p2_rest_11, oX4 p3_h p3_a p3_sort p3_size, arJ G (p3_a 0) 40 p3_values] H := hP
          have hD : va_D A [oX5 t_h t_a t_placed_24 t_ended_25 t_waited_26, arI G (t_a 0) 492 t_taken_23, arI G (t_a 1) 40 t_begins_29, arI G (t_a 2) 12 t_route_20, oX1 p1_h p1_a p1_windows p1_washes p1_damp p1_heard p1_lines p1_hour p1_strings, arI G (p1_a 10) 21 p1_pairs, oX6 p2_h p2_a p2_windows p2_goal p2_otherFrom p2_otherTo p2_least, arI G (p2_a 1) 12 p2_links, arI G (p2_a 2) 144 p2_prices, arI G (p2_a 3) 12 p2_rest_11, oX4 p3_h p3_a p3_sort p3_size, arJ G (p3_a 0) 40 p3_values] := hD
          refine lv_iinc (v := (l4 + 1)) (lv' := [(4, .int (l4 + 1)), (5, .int y_8), (0, .ref t_h), (1, .ref p1_h), (2, .ref p2_h), (3, .ref p3_h)]) hx hb dX5_placeCalls_100 hl (k := 5) rfl (by rfl) (by decide) rfl (fun ls hl => ?_)
          refine lv_goto (tgt := 34) hx hb dX5_placeCalls_103 (by decide) ?_
          exact ih _ _ _ _ _ _ _ _ _ _ _ hP hD hS (lv_sub hl [2, 3, 4, 5, 0] rfl) hf hX
  unfold fX5_placeCalls at hf
  refine lv_aload_n hx hb dX5_placeCalls_0 rfl (lv_at hl 0 rfl) ?_
  refine va_get (D := G.1) (ci := 5) (v := .ref (t_a 0)) (C := RX5) (T := TX5) (N := 6) hx hb hw inW5 hown hK.1 hP 0 rfl rfl 0 (by decide) (hw _ kw_4_22) (fun _ h9 => h9) rfl dX5_placeCalls_1 ?_
  refine lv_iconst (v := 0) hx hb dX5_placeCalls_4 (by decide) ?_
  obtain ⟨t_taken_1, hc_2, hf⟩ := bd1_in hf
  refine wcV (w1 := [arI G (t_a 0) 492 t_taken_1]) (va_runS (As := [.ref (t_a 0), .int 0]) (rest := []) ⟨hx, hb, hml, hown, hw⟩ ((ctJ7_fill_53178 l G 492 (t_a 0) t_taken 0 _ hc_2) _) (kS hw calJ7_fill_53178 kw_43_12 rfl rfl ⟨Nat.le_of_ble_eq_true rfl, Nat.le_of_ble_eq_true rfl⟩) (wpS (hP.sub (ws' := [arI G (t_a 0) 492 t_taken]) [1] rfl) (hD.sub (ws' := [arI G (t_a 0) 492 t_taken]) [1] (by decide) rfl) hK) rfl rfl hl.1 rfl (lv_room (Nat.le_of_ble_eq_true rfl)) dX5_placeCalls_5 ⟨Nat.zero_le _, Nat.zero_le _⟩) hS hA hP hD [1] rfl rfl (fun H locs hP hD hS => ?_)
  have hP : va_P G.1 vwCl [oX5 t_h t_a t_placed t_ended t_waited, arI G (t_a 0) 492 t_taken_1, arI G (t_a 1) 40 t_begins, arI G (t_a 2) 12 t_route, oX1 p1_h p1_a p1_windows p1_washes p1_damp p1_heard p1_lines p1_hour p1_strings, arI G (p1_a 10) 21 p1_pairs, oX6 p2_h p2_a p2_windows p2_goal p2_otherFrom p2_otherTo p2_least, arI G (p2_a 1) 12 p2_links, arI G (p2_a 2) 144 p2_prices, arI G (p2_a 3) 12 p2_rest, oX4 p3_h p3_a p3_sort p3_size, arJ G (p3_a 0) 40 p3_values] H := hP
  have hD : va_D A [oX5 t_h t_a t_placed t_ended t_waited, arI G (t_a 0) 492 t_taken_1, arI G (t_a 1) 40 t_begins, arI G (t_a 2) 12 t_route, oX1 p1_h p1_a p1_windows p1_washes p1_damp p1_heard p1_lines p1_hour p1_strings, arI G (p1_a 10) 21 p1_pairs, oX6 p2_h p2_a p2_windows p2_goal p2_otherFrom p2_otherTo p2_least, arI G (p2_a 1) 12 p2_links, arI G (p2_a 2) 144 p2_prices, arI G (p2_a 3) 12 p2_rest, oX4 p3_h p3_a p3_sort p3_size, arJ G (p3_a 0) 40 p3_values] := hD
  refine lv_aload_n hx hb dX5_placeCalls_8 rfl (lv_at hl 0 rfl) ?_
  refine va_get (D := G.1) (ci := 5) (v := .ref (t_a 1)) (C := RX5) (T := TX5) (N := 6) hx hb hw inW5 hown hK.1 hP 0 rfl rfl 1 (by decide) (hw _ kw_4_23) (fun _ h9 => h9) rfl dX5_placeCalls_9 ?_
  refine lv_iconst (v := (-1)) hx hb dX5_placeCalls_12 (by decide) ?_
  obtain ⟨t_begins_3, hc_4, hf⟩ := bd1_in hf
  refine wcV (w1 := [arI G (t_a 1) 40 t_begins_3]) (va_runS (As := [.ref (t_a 1), .int (-1)]) (rest := []) ⟨hx, hb, hml, hown, hw⟩ ((ctJ7_fill_53178 l G 40 (t_a 1) t_begins (-1) _ hc_4) _) (kS hw calJ7_fill_53178 kw_43_12 rfl rfl ⟨Nat.le_of_ble_eq_true rfl, Nat.le_of_ble_eq_true rfl⟩) (wpS (hP.sub (ws' := [arI G (t_a 1) 40 t_begins]) [2] rfl) (hD.sub (ws' := [arI G (t_a 1) 40 t_begins]) [2] (by decide) rfl) hK) rfl rfl hl.1 rfl (lv_room (Nat.le_of_ble_eq_true rfl)) dX5_placeCalls_13 ⟨Nat.zero_le _, Nat.zero_le _⟩) hS hA hP hD [2] rfl rfl (fun H locs hP hD hS => ?_)
  have hP : va_P G.1 vwCl [oX5 t_h t_a t_placed t_ended t_waited, arI G (t_a 0) 492 t_taken_1, arI G (t_a 1) 40 t_begins_3, arI G (t_a 2) 12 t_route, oX1 p1_h p1_a p1_windows p1_washes p1_damp p1_heard p1_lines p1_hour p1_strings, arI G (p1_a 10) 21 p1_pairs, oX6 p2_h p2_a p2_windows p2_goal p2_otherFrom p2_otherTo p2_least, arI G (p2_a 1) 12 p2_links, arI G (p2_a 2) 144 p2_prices, arI G (p2_a 3) 12 p2_rest, oX4 p3_h p3_a p3_sort p3_size, arJ G (p3_a 0) 40 p3_values] H := hP
  have hD : va_D A [oX5 t_h t_a t_placed t_ended t_waited, arI G (t_a 0) 492 t_taken_1, arI G (t_a 1) 40 t_begins_3, arI G (t_a 2) 12 t_route, oX1 p1_h p1_a p1_windows p1_washes p1_damp p1_heard p1_lines p1_hour p1_strings, arI G (p1_a 10) 21 p1_pairs, oX6 p2_h p2_a p2_windows p2_goal p2_otherFrom p2_otherTo p2_least, arI G (p2_a 1) 12 p2_links, arI G (p2_a 2) 144 p2_prices, arI G (p2_a 3) 12 p2_rest, oX4 p3_h p3_a p3_sort p3_size, arJ G (p3_a 0) 40 p3_values] := hD
  refine lv_aload_n hx hb dX5_placeCalls_16 rfl (lv_at hl 0 rfl) ?_
  refine lv_iconst (v := 0) hx hb dX5_placeCalls_17 (by decide) ?_
  refine va_put (D := G.1) (ci := 5) (v := .int 0) (ty := .int) (C := RX5) (T := TX5) (N := 6) hx hb hw inW5 tyX5 tyX5_ok nmX5 hown hK.1 hP hD hS 0 rfl rfl 3 (by decide) (hw _ kw_43_9) (fun _ h9 => h9) rfl (by decide +kernel) rfl rfl (Nat.le_of_ble_eq_true rfl) dX5_placeCalls_18 (fun H locs hP hD hS => ?_)
  have hP : va_P G.1 vwCl [oX5 t_h t_a 0 t_ended t_waited, arI G (t_a 0) 492 t_taken_1, arI G (t_a 1) 40 t_begins_3, arI G (t_a 2) 12 t_route, oX1 p1_h p1_a p1_windows p1_washes p1_damp p1_heard p1_lines p1_hour p1_strings, arI G (p1_a 10) 21 p1_pairs, oX6 p2_h p2_a p2_windows p2_goal p2_otherFrom p2_otherTo p2_least, arI G (p2_a 1) 12 p2_links, arI G (p2_a 2) 144 p2_prices, arI G (p2_a 3) 12 p2_rest, oX4 p3_h p3_a p3_sort p3_size, arJ G (p3_a 0) 40 p3_values] H := hP
  have hD : va_D A [oX5 t_h t_a 0 t_ended t_waited, arI G (t_a 0) 492 t_taken_1, arI G (t_a 1) 40 t_begins_3, arI G (t_a 2) 12 t_route, oX1 p1_h p1_a p1_windows p1_washes p1_damp p1_heard p1_lines p1_hour p1_strings, arI G (p1_a 10) 21 p1_pairs, oX6 p2_h p2_a p2_windows p2_goal p2_otherFrom p2_otherTo p2_least, arI G (p2_a 1) 12 p2_links, arI G (p2_a 2) 144 p2_prices, arI G (p2_a 3) 12 p2_rest, oX4 p3_h p3_a p3_sort p3_size, arJ G (p3_a 0) 40 p3_values] := hD
  refine lv_aload_n hx hb dX5_placeCalls_21 rfl (lv_at hl 0 rfl) ?_
  refine lv_iconst (v := 0) hx hb dX5_placeCalls_22 (by decide) ?_
  refine va_put (D := G.1) (ci := 5) (v := .int 0) (ty := .int) (C := RX5) (T := TX5) (N := 6) hx hb hw inW5 tyX5 tyX5_ok nmX5 hown hK.1 hP hD hS 0 rfl rfl 4 (by decide) (hw _ kw_43_10) (fun _ h9 => h9) rfl (by decide +kernel) rfl rfl (Nat.le_of_ble_eq_true rfl) dX5_placeCalls_23 (fun H locs hP hD hS => ?_)
  have hP : va_P G.1 vwCl [oX5 t_h t_a 0 0 t_waited, arI G (t_a 0) 492 t_taken_1, arI G (t_a 1) 40 t_begins_3, arI G (t_a 2) 12 t_route, oX1 p1_h p1_a p1_windows p1_washes p1_damp p1_heard p1_lines p1_hour p1_strings, arI G (p1_a 10) 21 p1_pairs, oX6 p2_h p2_a p2_windows p2_goal p2_otherFrom p2_otherTo p2_least, arI G (p2_a 1) 12 p2_links, arI G (p2_a 2) 144 p2_prices, arI G (p2_a 3) 12 p2_rest, oX4 p3_h p3_a p3_sort p3_size, arJ G (p3_a 0) 40 p3_values] H := hP
  have hD : va_D A [oX5 t_h t_a 0 0 t_waited, arI G (t_a 0) 492 t_taken_1, arI G (t_a 1) 40 t_begins_3, arI G (t_a 2) 12 t_route, oX1 p1_h p1_a p1_windows p1_washes p1_damp p1_heard p1_lines p1_hour p1_strings, arI G (p1_a 10) 21 p1_pairs, oX6 p2_h p2_a p2_windows p2_goal p2_otherFrom p2_otherTo p2_least, arI G (p2_a 1) 12 p2_links, arI G (p2_a 2) 144 p2_prices, arI G (p2_a 3) 12 p2_rest, oX4 p3_h p3_a p3_sort p3_size, arJ G (p3_a 0) 40 p3_values] := hD
  refine lv_aload_n hx hb dX5_placeCalls_26 rfl (lv_at hl 0 rfl) ?_
  refine lv_iconst (v := 0) hx hb dX5_placeCalls_27 (by decide) ?_
  refine va_put (D := G.1) (ci := 5) (v := .int 0) (ty := .int) (C := RX5) (T := TX5) (N := 6) hx hb hw inW5 tyX5 tyX5_ok nmX5 hown hK.1 hP hD hS 0 rfl rfl 5 (by decide) (hw _ kw_43_11) (fun _ h9 => h9) rfl (by decide +kernel) rfl rfl (Nat.le_of_ble_eq_true rfl) dX5_placeCalls_28 (fun H locs hP hD hS => ?_)
  have hP : va_P G.1 vwCl [oX5 t_h t_a 0 0 0, arI G (t_a 0) 492 t_taken_1, arI G (t_a 1) 40 t_begins_3, arI G (t_a 2) 12 t_route, oX1 p1_h p1_a p1_windows p1_washes p1_damp p1_heard p1_lines p1_hour p1_strings, arI G (p1_a 10) 21 p1_pairs, oX6 p2_h p2_a p2_windows p2_goal p2_otherFrom p2_otherTo p2_least, arI G (p2_a 1) 12 p2_links, arI G (p2_a 2) 144 p2_prices, arI G (p2_a 3) 12 p2_rest, oX4 p3_h p3_a p3_sort p3_size, arJ G (p3_a 0) 40 p3_values] H := hP
  have hD : va_D A [oX5 t_h t_a 0 0 0, arI G (t_a 0) 492 t_taken_1, arI G (t_a 1) 40 t_begins_3, arI G (t_a 2) 12 t_route, oX1 p1_h p1_a p1_windows p1_washes p1_damp p1_heard p1_lines p1_hour p1_strings, arI G (p1_a 10) 21 p1_pairs, oX6 p2_h p2_a p2_windows p2_goal p2_otherFrom p2_otherTo p2_least, arI G (p2_a 1) 12 p2_links, arI G (p2_a 2) 144 p2_prices, arI G (p2_a 3) 12 p2_rest, oX4 p3_h p3_a p3_sort p3_size, arJ G (p3_a 0) 40 p3_values] := hD
  refine lv_iconst (v := 0) hx hb dX5_placeCalls_31 (by decide) ?_
  refine lv_istore (lv' := [(4, .int 0), (0, .ref t_h), (1, .ref p1_h), (2, .ref p2_h), (3, .ref p3_h)]) hx hb dX5_placeCalls_32 hl (by decide) rfl (fun ls hl => ?_)
  refine L34  _ _ _ _ _ _ _ _ _ _ _ _ _ hP hD hS (lv_sub hl [1, 2, 3, 4, 0] rfl) hf (fun t_taken_31 t_begins_32 t_route_33 t_placed_34 t_ended_35 t_waited_36 p2_rest_37 H locs ls hP hD hS hl hf => ?_)
  exact hRet _ _ _ _ _ _ _ _ _ _ _ hf hP hS dX5_placeCalls_106
theorem calX5_beginOf : CalV yX5_beginOf cX5_beginOf 2 (some .int) 1 := ⟨⟨kw_44_12, kw_2_12, by decide +kernel⟩, kw_44_10, kw_44_11⟩
set_option maxHeartbeats 8000000 in
set_option maxRecDepth 100000 in
theorem ctX5_beginOf (l : Launch) (G : GT) (t_h : Nat) (t_a : Nat → Nat) (t_begins : Nat → Int32) (t_placed : Int32) (t_ended : Int32) (t_waited : Int32) (v1 : Int32) (r : Int32) (hf : fX5_beginOf t_begins v1 = some r) : RdI l yX5_beginOf (Cond.code yX5_beginOf cX5_beginOf 2 (some .int)) { frames := 0, cells := 0, slots := 0, locals := 0 } G [.ref t_h, .int v1] [oX5 t_h t_a t_placed t_ended t_waited, arI G (t_a 1) 40 t_begins] r := by
  intro sz
  refine Met.ofW (cc := cX5_beginOf) (maxL := 2) (ret := (some .int)) (by decide) rfl ?_
  intro p e s m args below meth c s₁ B hml hv
  obtain ⟨hargs, hsz, hP, hK⟩ := hv
  subst hsz
  obtain ⟨hx, hb, hr, hw, hown, hlk⟩ := fwB B
  refine fw_enter hargs (Nat.le_of_ble_eq_true rfl) (fun ls hl => ?_)
  have hl : lv_has ls 2 [(0, .ref t_h), (1, .int v1)] := hl
  refine fw_Q (P := fun Q => ∃ A : Nat → Prop, va_S A s.heap s.heap [] ∧ (∀ q, s.heap.size ≤ q → A q) ∧ ∀ (v : Int32) (H : Heap) (locs : List Loc) (pc : Nat) (ls : Array Slot), some v = some r → va_S A s.heap H locs → decode cX5_beginOf pc = .ok (.ireturn, 1) → W p l e ({ frames := 0, cells := 0, slots := 0, locals := 0 } : Room) s m args below meth c H locs 0 0 Q (F0 m pc ls [.int v])) ⟨fun q => s.heap.size ≤ q, va_S.rf, fun q h => h, fun v H locs pc ls h hS hd => retRI hx hb hr hlk hS h hd⟩ ?_
  rintro Q ⟨A, hS, hA, hRet⟩
  change W p l e ({ frames := 0, cells := 0, slots := 0, locals := 0 } : Room) s m args below meth c _ _ 0 0 Q _
  unfold fX5_beginOf at hf
  refine lv_iload_n hx hb dX5_beginOf_0 rfl (lv_at hl 1 rfl) ?_
  refine lv_if_lt (tgt := 19) hx hb dX5_beginOf_1 (by decide) (fun c_1 => ?_) (fun c_1 => ?_)
  · have hf := ip c_1 hf
    refine lv_iconst (v := (-1)) hx hb dX5_beginOf_19 (by decide) ?_
    exact hRet _ _ _ _ _ hf hS dX5_beginOf_20
  · have hf := iq c_1 hf
    refine lv_iload_n hx hb dX5_beginOf_4 rfl (lv_at hl 1 rfl) ?_
    refine lv_bipush (v := 40) hx hb dX5_beginOf_5 (by decide) ?_
    refine lv_icmp_ge (tgt := 19) hx hb dX5_beginOf_7 (by decide) (fun c_2 => ?_) (fun c_2 => ?_)
    · have hf := ip c_2 hf
      refine lv_iconst (v := (-1)) hx hb dX5_beginOf_19 (by decide) ?_
      exact hRet _ _ _ _ _ hf hS dX5_beginOf_20
    · have hf := iq c_2 hf
      refine lv_aload_n hx hb dX5_beginOf_10 rfl (lv_at hl 0 rfl) ?_
      refine va_get (D := G.1) (ci := 5) (v := .ref (t_a 1)) (C := RX5) (T := TX5) (N := 6) hx hb hw inW5 hown hK.1 hP 0 rfl rfl 1 (by decide) (hw _ kw_4_23) (fun _ h9 => h9) rfl dX5_beginOf_11 ?_
      refine lv_iload_n hx hb dX5_beginOf_14 rfl (lv_at hl 1 rfl) ?_
      obtain ⟨hi_4, hf⟩ := rdI_in hf
      refine va_iald hx hb hK.1 hP 1 0 rfl rfl hi_4 dX5_beginOf_15 ?_
      refine lv_topi (fun x_3 ex_3 => ?_)
      have hf := hf x_3 ex_3
      refine lv_goto (tgt := 20) hx hb dX5_beginOf_16 (by decide) ?_
      exact hRet _ _ _ _ _ hf hS dX5_beginOf_20
theorem calX6_spread : CalV yX6_spread cX6_spread 6 none 1 := ⟨⟨kw_45_8, kw_2_0, by decide +kernel⟩, kw_45_6, kw_45_7⟩
set_option maxHeartbeats 8000000 in
set_option maxRecDepth 100000 in
theorem ctX6_spread (l : Launch) (G : GT) (t_h : Nat) (t_a : Nat → Nat) (t_windows : Int32) (t_links : Nat → Int32) (t_breaths : Nat → Int32) (t_goal : Int32) (t_otherFrom : Int32) (t_otherTo : Int32) (t_least : Int32) (v1 : Int32) (o_t_breaths : Nat → Int32) (hf : fX6_spread t_windows t_links t_breaths v1 = some o_t_breaths) : WrV l yX6_spread (Cond.code yX6_spread cX6_spread 6 none) { frames := 1, cells := 0, slots := 0, locals := 23 } G [.ref t_h, .int v1] [oX6 t_h t_a t_windows t_goal t_otherFrom t_otherTo t_least, arI G (t_a 1) 12 t_links, arI G (t_a 4) 12 t_breaths] [oX6 t_h t_a t_windows t_goal t_otherFrom t_otherTo t_least, arI G (t_a 1) 12 t_links, arI G (t_a 4) 12 o_t_breaths] := by
  intro sz
  refine Met.ofW (cc := cX6_spread) (maxL := 6) (ret := none) (by decide) rfl ?_
  intro p e s m args below meth c s₁ B hml hv
  obtain ⟨hargs, hsz, hP, hD0, hK⟩ := hv
  subst hsz
  obtain ⟨hx, hb, hr, hw, hown, hlk⟩ := fwB B
  refine fw_enter hargs (Nat.le_of_ble_eq_true rfl) (fun ls hl => ?_)
  have hl : lv_has ls 6 [(0, .ref t_h), (1, .int v1)] := hl
  refine fw_Q (P := fun Q => ∃ A : Nat → Prop, va_D A [oX6 t_h t_a t_windows t_goal t_otherFrom t_otherTo t_least, arI G (t_a 1) 12 t_links, arI G (t_a 4) 12 t_breaths] ∧ va_S A s.heap s.heap [] ∧ (∀ q, s.heap.size ≤ q → A q) ∧ ∀ (n_t_breaths : Nat → Int32) (H : Heap) (locs : List Loc) (pc : Nat) (ls : Array Slot), some n_t_breaths = some o_t_breaths → va_P G.1 vwCl [oX6 t_h t_a t_windows t_goal t_otherFrom t_otherTo t_least, arI G (t_a 1) 12 t_links, arI G (t_a 4) 12 n_t_breaths] H → va_S A s.heap H locs → decode cX6_spread pc = .ok (.return_, 1) → W p l e ({ frames := 1, cells := 0, slots := 0, locals := 23 } : Room) s m args below meth c H locs 0 0 Q (F0 m pc ls [])) ⟨va_A [oX6 t_h t_a t_windows t_goal t_otherFrom t_otherTo t_least, arI G (t_a 1) 12 t_links, arI G (t_a 4) 12 t_breaths] s.heap.size, hD0.self (sz := s.heap.size), va_S.rf, fun q h => Or.inr h, ?_⟩ ?_
  · intro n_t_breaths H locs pc ls h hP hS hd
    cases h
    exact retWV hx hb hr hlk hS hP hd
  rintro Q ⟨A, hD, hS, hA, hRet⟩
  change W p l e ({ frames := 1, cells := 0, slots := 0, locals := 23 } : Room) s m args below meth c _ _ 0 0 Q _
  have L33 : ∀ (l2 : Int32) (l3 : Int32) (l4 : Int32) (K : (Nat → Int32) → Option (Nat → Int32)) (n : Nat) (l5 : Int32) (t_breaths : Nat → Int32) (H : Heap) (locs : List Loc) (ls : Array Slot), va_P G.1 vwCl [oX6 t_h t_a t_windows t_goal t_otherFrom t_otherTo t_least, arI G (t_a 1) 12 t_links, arI G (t_a 4) 12 t_breaths] H → va_D A [oX6 t_h t_a t_windows t_goal t_otherFrom t_otherTo t_least, arI G (t_a 1) 12 t_links, arI G (t_a 4) 12 t_breaths] → va_S A s.heap H locs → lv_has ls 6 [(0, .ref t_h), (2, .int l2), (3, .int l3), (4, .int l4), (5, .int l5)] → fX6_spread_33 l3 l4 t_windows K n l5 t_breaths = some o_t_breaths → (∀ (kt_breaths : Nat → Int32) (H : Heap) (locs : List Loc) (ls : Array Slot), va_P G.1 vwCl [oX6 t_h t_a t_windows t_goal t_otherFrom t_otherTo t_least, arI G (t_a 1) 12 t_links, arI G (t_a 4) 12 kt_breaths] H → va_D A [oX6 t_h t_a t_windows t_goal t_otherFrom t_otherTo t_least, arI G (t_a 1) 12 t_links, arI G (t_a 4) 12 kt_breaths] → va_S A s.heap H locs → lv_has ls 6 [(0, .ref t_h), (2, .int l2), (3, .int l3), (4, .int l4)] → K kt_breaths = some o_t_breaths → W p l e ({ frames := 1, cells := 0, slots := 0, locals := 23 } : Room) s m args below meth c H locs 0 0 Q (F0 m 66 ls [])) → W p l e ({ frames := 1, cells := 0, slots := 0, locals := 23 } : Room) s m args below meth c H locs 0 0 Q (F0 m 33 ls []) := by
    intro l2 l3 l4 K n
    induction n with
    | zero => intro l5 t_breaths H locs ls hP hD hS hl hf; rw [fX6_spread_33] at hf; cases hf
    | succ n ih =>
      intro l5 t_breaths H locs ls hP hD hS hl hf hX
      rw [fX6_spread_33] at hf
      refine lv_iload hx hb dX6_spread_33 (lv_at hl 4 rfl) ?_
      refine lv_aload_n hx hb dX6_spread_35 rfl (lv_at hl 0 rfl) ?_
      refine va_get (D := G.1) (ci := 6) (v := .int t_windows) (C := RX6) (T := TX6) (N := 9) hx hb hw inW6 hown hK.1 hP 0 rfl rfl 0 (by decide) (hw _ kw_18_14) (fun _ h9 => h9) rfl dX6_spread_36 ?_
      refine lv_icmp_ge (tgt := 66) hx hb dX6_spread_39 (by decide) (fun c_6 => ?_) (fun c_6 => ?_)
      · have hf := ip c_6 hf
        exact hX _ _ _ _ hP hD hS (lv_sub hl [0, 1, 2, 3] rfl) hf
      · have hf := iq c_6 hf
        refine lv_iload_n hx hb dX6_spread_42 rfl (lv_at hl 2 rfl) ?_
        refine lv_iload hx hb dX6_spread_43 (lv_at hl 4 rfl) ?_
        refine lv_ishr hx hb dX6_spread_45 ?_
        refine lv_iconst (v := 1) hx hb dX6_spread_46 (by decide) ?_
        refine lv_iand hx hb dX6_spread_47 ?_
        refine lv_if_eq (tgt := 60) hx hb dX6_spread_48 (by decide) (fun c_7 => ?_) (fun c_7 => ?_)
        · have hf := ip c_7 hf
          refine lv_iinc (v := (l5 + 1)) (lv' := [(5, .int (l5 + 1)), (0, .ref t_h), (2, .int l2), (3, .int l3), (4, .int l4)]) hx hb dX6_spread_60 hl (k := 4) rfl (by rfl) (by decide) rfl (fun ls hl => ?_)
          refine lv_goto (tgt := 33) hx hb dX6_spread_63 (by decide) ?_
          exact ih _ _ _ _ _ hP hD hS (lv_sub hl [1, 2, 3, 4, 0] rfl) hf hX
        · have hf := iq c_7 hf
          refine lv_aload_n hx hb dX6_spread_51 rfl (lv_at hl 0 rfl) ?_
          refine va_get (D := G.1) (ci := 6) (v := .ref (t_a 4)) (C := RX6) (T := TX6) (N := 9) hx hb hw inW6 hown hK.1 hP 0 rfl rfl 4 (by decide) (hw _ kw_4_10) (fun _ h9 => h9) rfl dX6_spread_52 ?_
          refine lv_iload hx hb dX6_spread_55 (lv_at hl 4 rfl) ?_
          refine lv_iload hx hb dX6_spread_57 (lv_at hl 3 rfl) ?_
          obtain ⟨hi_9, hf⟩ := wrI_in hf
          refine xiast hx hb hK.1 hP hD hS 2 0 rfl rfl hi_9 dX6_spread_59 (fun t_breaths_8 H locs et_breaths_8 hP hD hS => ?_)
          have hf := hf t_breaths_8 et_breaths_8
          have hP : va_P G.1 vwCl [oX6 t_h t_a t_windows t_goal t_otherFrom t_otherTo t_least, arI G (t_a 1) 12 t_links, arI G (t_a 4) 12 t_breaths_8] H := hP
          have hD : va_D A [oX6 t_h t_a t_windows t_goal t_otherFrom t_otherTo t_least, arI G (t_a 1) 12 t_links, arI G (t_a 4) 12 t_breaths_8] := hD
          refine lv_iinc (v := (l5 + 1)) (lv' := [(5, .int (l5 + 1)), (0, .ref t_h), (2, .int l2), (3, .int l3), (4, .int l4)]) hx hb dX6_spread_60 hl (k := 4) rfl (by rfl) (by decide) rfl (fun ls hl => ?_)
          refine lv_goto (tgt := 33) hx hb dX6_spread_63 (by decide) ?_
          exact ih _ _ _ _ _ hP hD hS (lv_sub hl [1, 2, 3, 4, 0] rfl) hf hX
  have L17 : ∀  (K : (Nat → Int32) → Option (Nat → Int32)) (n : Nat) (l2 : Int32) (l3 : Int32) (l4 : Int32) (t_breaths : Nat → Int32) (H : Heap) (locs : List Loc) (ls : Array Slot), va_P G.1 vwCl [oX6 t_h t_a t_windows t_goal t_otherFrom t_otherTo t_least, arI G (t_a 1) 12 t_links, arI G (t_a 4) 12 t_breaths] H → va_D A [oX6 t_h t_a t_windows t_goal t_otherFrom t_otherTo t_least, arI G (t_a 1) 12 t_links, arI G (t_a 4) 12 t_breaths] → va_S A s.heap H locs → lv_has ls 6 [(0, .ref t_h), (2, .int l2), (3, .int l3), (4, .int l4)] → fX6_spread_17 t_windows t_links K n l2 l3 l4 t_breaths = some o_t_breaths → (∀ (kt_breaths : Nat → Int32) (H : Heap) (locs : List Loc) (ls : Array Slot), va_P G.1 vwCl [oX6 t_h t_a t_windows t_goal t_otherFrom t_otherTo t_least, arI G (t_a 1) 12 t_links, arI G (t_a 4) 12 kt_breaths] H → va_D A [oX6 t_h t_a t_windows t_goal t_otherFrom t_otherTo t_least, arI G (t_a 1) 12 t_links, arI G (t_a 4) 12 kt_breaths] → va_S A s.heap H locs → lv_has ls 6 [] → K kt_breaths = some o_t_breaths → W p l e ({ frames := 1, cells := 0, slots := 0, locals := 23 } : Room) s m args below meth c H locs 0 0 Q (F0 m 86 ls [])) → W p l e ({ frames := 1, cells := 0, slots := 0, locals := 23 } : Room) s m args below meth c H locs 0 0 Q (F0 m 17 ls []) := by
    intro  K n
    induction n with
    | zero => intro l2 l3 l4 t_breaths H locs ls hP hD hS hl hf; rw [fX6_spread_17] at hf; cases hf
    | succ n ih =>
      intro l2 l3 l4 t_breaths H locs ls hP hD hS hl hf hX
      rw [fX6_spread_17] at hf
      refine lv_iload hx hb dX6_spread_17 (lv_at hl 3 rfl) ?_
      refine lv_aload_n hx hb dX6_spread_19 rfl (lv_at hl 0 rfl) ?_
      refine va_get (D := G.1) (ci := 6) (v := .int t_windows) (C := RX6) (T := TX6) (N := 9) hx hb hw inW6 hown hK.1 hP 0 rfl rfl 0 (by decide) (hw _ kw_18_14) (fun _ h9 => h9) rfl dX6_spread_20 ?_
      refine lv_icmp_ge (tgt := 86) hx hb dX6_spread_23 (by decide) (fun c_4 => ?_) (fun c_4 => ?_)
      · have hf := ip c_4 hf
        exact hX _ _ _ _ hP hD hS (lv_sub hl [] rfl) hf
      · have hf := iq c_4 hf
        refine lv_iload_n hx hb dX6_spread_26 rfl (lv_at hl 2 rfl) ?_
        refine lv_if_eq (tgt := 86) hx hb dX6_spread_27 (by decide) (fun c_5 => ?_) (fun c_5 => ?_)
        · have hf := ip c_5 hf
          exact hX _ _ _ _ hP hD hS (lv_sub hl [] rfl) hf
        · have hf := iq c_5 hf
          refine lv_iconst (v := 0) hx hb dX6_spread_30 (by decide) ?_
          refine lv_istore (lv' := [(5, .int 0), (0, .ref t_h), (2, .int l2), (3, .int l3), (4, .int l4)]) hx hb dX6_spread_31 hl (by decide) rfl (fun ls hl => ?_)
          refine L33 _ _ _ _ _ _ _ _ _ _ hP hD hS (lv_sub hl [1, 2, 3, 4, 0] rfl) hf (fun t_breaths_10 H locs ls hP hD hS hl hf => ?_)
          refine lv_aload_n hx hb dX6_spread_66 rfl (lv_at hl 0 rfl) ?_
          refine lv_iload_n hx hb dX6_spread_67 rfl (lv_at hl 2 rfl) ?_
          obtain ⟨r_11, hc_12, hf⟩ := bd1_in hf
          refine rcI (va_runV (As := [.int l3]) (rest := []) ⟨hx, hb, hml, hown, hw⟩ ((ctX6_linksOf l G t_h t_a t_windows t_links t_goal t_otherFrom t_otherTo t_least l3 _ hc_12) _) (kV hw calX6_linksOf kw_32_17 rfl rfl ⟨Nat.le_of_ble_eq_true rfl, Nat.le_of_ble_eq_true rfl⟩) (rpV (hP.sub (ws' := [oX6 t_h t_a t_windows t_goal t_otherFrom t_otherTo t_least, arI G (t_a 1) 12 t_links]) [0, 1] rfl) hK (ci := 6) (q0 := 0) rfl rfl) rfl rfl hl.1 rfl (lv_room (Nat.le_of_ble_eq_true rfl)) dX6_spread_68 ⟨Nat.zero_le _, Nat.zero_le _⟩) hS hA hP (fun H locs hP hS => ?_)
          refine lv_iload_n hx hb dX6_spread_71 rfl (lv_at hl 1 rfl) ?_
          refine lv_iconst (v := (-1)) hx hb dX6_spread_72 (by decide) ?_
          refine lv_ixor hx hb dX6_spread_73 ?_
          refine lv_iand hx hb dX6_spread_74 ?_
          refine lv_topi (fun y_13 ey_13 => ?_)
          have hf := bnd_all hf y_13 ey_13
          refine lv_istore_n (lv' := [(3, .int y_13), (0, .ref t_h), (2, .int l2), (4, .int l4)]) hx hb dX6_spread_75 rfl hl (by decide) rfl (fun ls hl => ?_)
          refine lv_iload_n hx hb dX6_spread_76 rfl (lv_at hl 2 rfl) ?_
          refine lv_iload_n hx hb dX6_spread_77 rfl (lv_at hl 0 rfl) ?_
          refine lv_ior hx hb dX6_spread_78 ?_
          refine lv_topi (fun y_14 ey_14 => ?_)
          have hf := bnd_all hf y_14 ey_14
          refine lv_istore_n (lv' := [(2, .int y_14), (3, .int y_13), (0, .ref t_h), (4, .int l4)]) hx hb dX6_spread_79 rfl hl (by decide) rfl (fun ls hl => ?_)
          refine lv_iinc (v := (l4 + 1)) (lv' := [(4, .int (l4 + 1)), (2, .int y_14), (3, .int y_13), (0, .ref t_h)]) hx hb dX6_spread_80 hl (k := 3) rfl (by rfl) (by decide) rfl (fun ls hl => ?_)
          refine lv_goto (tgt := 17) hx hb dX6_spread_83 (by decide) ?_
          exact ih _ _ _ _ _ _ _ hP hD hS (lv_sub hl [3, 1, 2, 0] rfl) hf hX
  unfold fX6_spread at hf
  refine lv_aload_n hx hb dX6_spread_0 rfl (lv_at hl 0 rfl) ?_
  refine va_get (D := G.1) (ci := 6) (v := .ref (t_a 4)) (C := RX6) (T := TX6) (N := 9) hx hb hw inW6 hown hK.1 hP 0 rfl rfl 4 (by decide) (hw _ kw_4_10) (fun _ h9 => h9) rfl dX6_spread_1 ?_
  refine lv_iconst (v := (-1)) hx hb dX6_spread_4 (by decide) ?_
  obtain ⟨t_breaths_1, hc_2, hf⟩ := bd1_in hf
  refine wcV (w1 := [arI G (t_a 4) 12 t_breaths_1]) (va_runS (As := [.ref (t_a 4), .int (-1)]) (rest := []) ⟨hx, hb, hml, hown, hw⟩ ((ctJ7_fill_53178 l G 12 (t_a 4) t_breaths (-1) _ hc_2) _) (kS hw calJ7_fill_53178 kw_18_15 rfl rfl ⟨Nat.le_of_ble_eq_true rfl, Nat.le_of_ble_eq_true rfl⟩) (wpS (hP.sub (ws' := [arI G (t_a 4) 12 t_breaths]) [2] rfl) (hD.sub (ws' := [arI G (t_a 4) 12 t_breaths]) [2] (by decide) rfl) hK) rfl rfl hl.1 rfl (lv_room (Nat.le_of_ble_eq_true rfl)) dX6_spread_5 ⟨Nat.zero_le _, Nat.zero_le _⟩) hS hA hP hD [2] rfl rfl (fun H locs hP hD hS => ?_)
  have hP : va_P G.1 vwCl [oX6 t_h t_a t_windows t_goal t_otherFrom t_otherTo t_least, arI G (t_a 1) 12 t_links, arI G (t_a 4) 12 t_breaths_1] H := hP
  have hD : va_D A [oX6 t_h t_a t_windows t_goal t_otherFrom t_otherTo t_least, arI G (t_a 1) 12 t_links, arI G (t_a 4) 12 t_breaths_1] := hD
  refine lv_iconst (v := 1) hx hb dX6_spread_8 (by decide) ?_
  refine lv_iload_n hx hb dX6_spread_9 rfl (lv_at hl 1 rfl) ?_
  refine lv_ishl hx hb dX6_spread_10 ?_
  refine lv_topi (fun y_3 ey_3 => ?_)
  have hf := bnd_all hf y_3 ey_3
  refine lv_istore_n (lv' := [(2, .int y_3), (0, .ref t_h), (1, .int v1)]) hx hb dX6_spread_11 rfl hl (by decide) rfl (fun ls hl => ?_)
  refine lv_iload_n hx hb dX6_spread_12 rfl (lv_at hl 0 rfl) ?_
  refine lv_istore_n (lv' := [(3, .int y_3), (2, .int y_3), (0, .ref t_h), (1, .int v1)]) hx hb dX6_spread_13 rfl hl (by decide) rfl (fun ls hl => ?_)
  refine lv_iconst (v := 0) hx hb dX6_spread_14 (by decide) ?_
  refine lv_istore (lv' := [(4, .int 0), (3, .int y_3), (2, .int y_3), (0, .ref t_h), (1, .int v1)]) hx hb dX6_spread_15 hl (by decide) rfl (fun ls hl => ?_)
  refine L17  _ _ _ _ _ _ _ _ _ hP hD hS (lv_sub hl [3, 2, 1, 0] rfl) hf (fun t_breaths_15 H locs ls hP hD hS hl hf => ?_)
  exact hRet _ _ _ _ _ hf hP hS dX6_spread_86
theorem calX6_spreadsAs : CalV yX6_spreadsAs cX6_spreadsAs 4 (some .boolean) 2 := ⟨⟨kw_46_0, kw_2_0, by decide +kernel⟩, kw_45_22, kw_45_23⟩
set_option maxHeartbeats 8000000 in
set_option maxRecDepth 100000 in
theorem ctX6_spreadsAs (l : Launch) (G : GT) (t_h : Nat) (t_a : Nat → Nat) (p2_h : Nat) (p2_a : Nat → Nat) (t_windows : Int32) (t_links : Nat → Int32) (t_breaths : Nat → Int32) (t_goal : Int32) (t_otherFrom : Int32) (t_otherTo : Int32) (t_least : Int32) (p2_values : Nat → Int64) (p2_sort : Int32) (p2_size : Int32) (v1 : Int32) (r : Int32) (o_t_breaths : Nat → Int32) (hf : fX6_spreadsAs t_windows t_links t_breaths p2_values p2_size v1 = some (r, o_t_breaths)) : WrI l yX6_spreadsAs (Cond.code yX6_spreadsAs cX6_spreadsAs 4 (some .boolean)) { frames := 2, cells := 0, slots := 0, locals := 48 } G [.ref t_h, .int v1, .ref p2_h] [oX6 t_h t_a t_windows t_goal t_otherFrom t_otherTo t_least, arI G (t_a 1) 12 t_links, arI G (t_a 4) 12 t_breaths, oX4 p2_h p2_a p2_sort p2_size, arJ G (p2_a 0) 40 p2_values] [oX6 t_h t_a t_windows t_goal t_otherFrom t_otherTo t_least, arI G (t_a 1) 12 t_links, arI G (t_a 4) 12 o_t_breaths, oX4 p2_h p2_a p2_sort p2_size, arJ G (p2_a 0) 40 p2_values] r := by
  intro sz
  refine Met.ofW (cc := cX6_spreadsAs) (maxL := 4) (ret := (some .boolean)) (by decide) rfl ?_
  intro p e s m args below meth c s₁ B hml hv
  obtain ⟨hargs, hsz, hP, hD0, hK⟩ := hv
  subst hsz
  obtain ⟨hx, hb, hr, hw, hown, hlk⟩ := fwB B
  refine fw_enter hargs (Nat.le_of_ble_eq_true rfl) (fun ls hl => ?_)
  have hl : lv_has ls 4 [(0, .ref t_h), (1, .int v1), (2, .ref p2_h)] := hl
  refine fw_Q (P := fun Q => ∃ A : Nat → Prop, va_D A [oX6 t_h t_a t_windows t_goal t_otherFrom t_otherTo t_least, arI G (t_a 1) 12 t_links, arI G (t_a 4) 12 t_breaths, oX4 p2_h p2_a p2_sort p2_size, arJ G (p2_a 0) 40 p2_values] ∧ va_S A s.heap s.heap [] ∧ (∀ q, s.heap.size ≤ q → A q) ∧ ∀ (v : Int32) (n_t_breaths : Nat → Int32) (H : Heap) (locs : List Loc) (pc : Nat) (ls : Array Slot), some (v, n_t_breaths) = some (r, o_t_breaths) → va_P G.1 vwCl [oX6 t_h t_a t_windows t_goal t_otherFrom t_otherTo t_least, arI G (t_a 1) 12 t_links, arI G (t_a 4) 12 n_t_breaths, oX4 p2_h p2_a p2_sort p2_size, arJ G (p2_a 0) 40 p2_values] H → va_S A s.heap H locs → narrow .boolean (.int v) = .int v → decode cX6_spreadsAs pc = .ok (.ireturn, 1) → W p l e ({ frames := 2, cells := 0, slots := 0, locals := 48 } : Room) s m args below meth c H locs 0 0 Q (F0 m pc ls [.int v])) ⟨va_A [oX6 t_h t_a t_windows t_goal t_otherFrom t_otherTo t_least, arI G (t_a 1) 12 t_links, arI G (t_a 4) 12 t_breaths, oX4 p2_h p2_a p2_sort p2_size, arJ G (p2_a 0) 40 p2_values] s.heap.size, hD0.self (sz := s.heap.size), va_S.rf, fun q h => Or.inr h, ?_⟩ ?_
  · intro v n_t_breaths H locs pc ls h hP hS hn hd
    cases h
    exact retWZ hx hb hr hlk hS hP hn rfl hd
  rintro Q ⟨A, hD, hS, hA, hRet⟩
  change W p l e ({ frames := 2, cells := 0, slots := 0, locals := 48 } : Room) s m args below meth c _ _ 0 0 Q _
  have L7 : ∀ (t_breaths : Nat → Int32) (K : Option (Int32 × (Nat → Int32))) (n : Nat) (l3 : Int32) (H : Heap) (locs : List Loc) (ls : Array Slot), va_P G.1 vwCl [oX6 t_h t_a t_windows t_goal t_otherFrom t_otherTo t_least, arI G (t_a 1) 12 t_links, arI G (t_a 4) 12 t_breaths, oX4 p2_h p2_a p2_sort p2_size, arJ G (p2_a 0) 40 p2_values] H → va_D A [oX6 t_h t_a t_windows t_goal t_otherFrom t_otherTo t_least, arI G (t_a 1) 12 t_links, arI G (t_a 4) 12 t_breaths, oX4 p2_h p2_a p2_sort p2_size, arJ G (p2_a 0) 40 p2_values] → va_S A s.heap H locs → lv_has ls 4 [(0, .ref t_h), (2, .ref p2_h), (3, .int l3)] → fX6_spreadsAs_7 t_windows t_breaths p2_values p2_size K n l3 = some (r, o_t_breaths) → (∀  (H : Heap) (locs : List Loc) (ls : Array Slot), va_P G.1 vwCl [oX6 t_h t_a t_windows t_goal t_otherFrom t_otherTo t_least, arI G (t_a 1) 12 t_links, arI G (t_a 4) 12 t_breaths, oX4 p2_h p2_a p2_sort p2_size, arJ G (p2_a 0) 40 p2_values] H → va_D A [oX6 t_h t_a t_windows t_goal t_otherFrom t_otherTo t_least, arI G (t_a 1) 12 t_links, arI G (t_a 4) 12 t_breaths, oX4 p2_h p2_a p2_sort p2_size, arJ G (p2_a 0) 40 p2_values] → va_S A s.heap H locs → lv_has ls 4 [] → K = some (r, o_t_breaths) → W p l e ({ frames := 2, cells := 0, slots := 0, locals := 48 } : Room) s m args below meth c H locs 0 0 Q (F0 m 39 ls [])) → W p l e ({ frames := 2, cells := 0, slots := 0, locals := 48 } : Room) s m args below meth c H locs 0 0 Q (F0 m 7 ls []) := by
    intro t_breaths K n
    induction n with
    | zero => intro l3 H locs ls hP hD hS hl hf; rw [fX6_spreadsAs_7] at hf; cases hf
    | succ n ih =>
      intro l3 H locs ls hP hD hS hl hf hX
      rw [fX6_spreadsAs_7] at hf
      refine lv_iload_n hx hb dX6_spreadsAs_7 rfl (lv_at hl 2 rfl) ?_
      refine lv_aload_n hx hb dX6_spreadsAs_8 rfl (lv_at hl 0 rfl) ?_
      refine va_get (D := G.1) (ci := 6) (v := .int t_windows) (C := RX6) (T := TX6) (N := 9) hx hb hw inW6 hown hK.1 hP 0 rfl rfl 0 (by decide) (hw _ kw_18_14) (fun _ h9 => h9) rfl dX6_spreadsAs_9 ?_
      refine lv_icmp_ge (tgt := 39) hx hb dX6_spreadsAs_12 (by decide) (fun c_3 => ?_) (fun c_3 => ?_)
      · have hf := ip c_3 hf
        exact hX  _ _ _ hP hD hS (lv_sub hl [] rfl) hf
      · have hf := iq c_3 hf
        refine lv_aload_n hx hb dX6_spreadsAs_15 rfl (lv_at hl 1 rfl) ?_
        refine lv_iload_n hx hb dX6_spreadsAs_16 rfl (lv_at hl 2 rfl) ?_
        obtain ⟨r_4, hc_5, hf⟩ := bd1_in hf
        refine rcL (va_runV (As := [.int l3]) (rest := []) ⟨hx, hb, hml, hown, hw⟩ ((ctX4_numberAt l G p2_h p2_a p2_values p2_sort p2_size l3 _ hc_5) _) (kV hw calX4_numberAt kw_46_2 rfl rfl ⟨Nat.le_of_ble_eq_true rfl, Nat.le_of_ble_eq_true rfl⟩) (rpV (hP.sub (ws' := [oX4 p2_h p2_a p2_sort p2_size, arJ G (p2_a 0) 40 p2_values]) [3, 4] rfl) hK (ci := 4) (q0 := 0) rfl rfl) rfl rfl hl.1 rfl (lv_room (Nat.le_of_ble_eq_true rfl)) dX6_spreadsAs_17 ⟨Nat.zero_le _, Nat.zero_le _⟩) hS hA hP (fun H locs hP hS => ?_)
        refine lv_aload_n hx hb dX6_spreadsAs_20 rfl (lv_at hl 0 rfl) ?_
        refine va_get (D := G.1) (ci := 6) (v := .ref (t_a 4)) (C := RX6) (T := TX6) (N := 9) hx hb hw inW6 hown hK.1 hP 0 rfl rfl 4 (by decide) (hw _ kw_4_10) (fun _ h9 => h9) rfl dX6_spreadsAs_21 ?_
        refine lv_iload_n hx hb dX6_spreadsAs_24 rfl (lv_at hl 2 rfl) ?_
        obtain ⟨hi_7, hf⟩ := rdI_in hf
        refine va_iald hx hb hK.1 hP 2 0 rfl rfl hi_7 dX6_spreadsAs_25 ?_
        refine lv_topi (fun x_6 ex_6 => ?_)
        have hf := hf x_6 ex_6
        refine lv_i2l hx hb dX6_spreadsAs_26 rfl ?_
        refine W.lcmp hx hb dX6_spreadsAs_27 ?_
        refine lv_if_eq (tgt := 33) hx hb dX6_spreadsAs_28 (by decide) (fun c_8 => ?_) (fun c_8 => ?_)
        · have hf := ip c_8 hf
          refine lv_iinc (v := (l3 + 1)) (lv' := [(3, .int (l3 + 1)), (0, .ref t_h), (2, .ref p2_h)]) hx hb dX6_spreadsAs_33 hl (k := 2) rfl (by rfl) (by decide) rfl (fun ls hl => ?_)
          refine lv_goto (tgt := 7) hx hb dX6_spreadsAs_36 (by decide) ?_
          exact ih _ _ _ _ hP hD hS (lv_sub hl [1, 2, 0] rfl) hf hX
        · have hf := iq c_8 hf
          refine lv_iconst (v := 0) hx hb dX6_spreadsAs_31 (by decide) ?_
          exact hRet _ _ _ _ _ _ hf hP hS (by decide +kernel) dX6_spreadsAs_32
  unfold fX6_spreadsAs at hf
  refine lv_aload_n hx hb dX6_spreadsAs_0 rfl (lv_at hl 0 rfl) ?_
  refine lv_iload_n hx hb dX6_spreadsAs_1 rfl (lv_at hl 1 rfl) ?_
  obtain ⟨t_breaths_1, hc_2, hf⟩ := bd1_in hf
  refine wcV (w1 := [oX6 t_h t_a t_windows t_goal t_otherFrom t_otherTo t_least, arI G (t_a 1) 12 t_links, arI G (t_a 4) 12 t_breaths_1]) (va_runV (As := [.int v1]) (rest := []) ⟨hx, hb, hml, hown, hw⟩ ((ctX6_spread l G t_h t_a t_windows t_links t_breaths t_goal t_otherFrom t_otherTo t_least v1 _ hc_2) _) (kV hw calX6_spread kw_46_1 rfl rfl ⟨Nat.le_of_ble_eq_true rfl, Nat.le_of_ble_eq_true rfl⟩) (wpV (hP.sub (ws' := [oX6 t_h t_a t_windows t_goal t_otherFrom t_otherTo t_least, arI G (t_a 1) 12 t_links, arI G (t_a 4) 12 t_breaths]) [0, 1, 2] rfl) (hD.sub (ws' := [oX6 t_h t_a t_windows t_goal t_otherFrom t_otherTo t_least, arI G (t_a 1) 12 t_links, arI G (t_a 4) 12 t_breaths]) [0, 1, 2] (by decide) rfl) hK (ci := 6) (q0 := 0) rfl rfl) rfl rfl hl.1 rfl (lv_room (Nat.le_of_ble_eq_true rfl)) dX6_spreadsAs_2 ⟨Nat.zero_le _, Nat.zero_le _⟩) hS hA hP hD [0, 1, 2] rfl rfl (fun H locs hP hD hS => ?_)
  have hP : va_P G.1 vwCl [oX6 t_h t_a t_windows t_goal t_otherFrom t_otherTo t_least, arI G (t_a 1) 12 t_links, arI G (t_a 4) 12 t_breaths_1, oX4 p2_h p2_a p2_sort p2_size, arJ G (p2_a 0) 40 p2_values] H := hP
  have hD : va_D A [oX6 t_h t_a t_windows t_goal t_otherFrom t_otherTo t_least, arI G (t_a 1) 12 t_links, arI G (t_a 4) 12 t_breaths_1, oX4 p2_h p2_a p2_sort p2_size, arJ G (p2_a 0) 40 p2_values] := hD
  refine lv_iconst (v := 0) hx hb dX6_spreadsAs_5 (by decide) ?_
  refine lv_istore_n (lv' := [(3, .int 0), (0, .ref t_h), (1, .int v1), (2, .ref p2_h)]) hx hb dX6_spreadsAs_6 rfl hl (by decide) rfl (fun ls hl => ?_)
  refine L7 _ _ _ _ _ _ _ hP hD hS (lv_sub hl [1, 3, 0] rfl) hf (fun  H locs ls hP hD hS hl hf => ?_)
  refine lv_iconst (v := 1) hx hb dX6_spreadsAs_39 (by decide) ?_
  exact hRet _ _ _ _ _ _ hf hP hS (by decide +kernel) dX6_spreadsAs_40
theorem calJ7_fill_d0a16 : CalS yJ7_fill_d0a16 cJ7_fill_d0a16 5 none 2 := ⟨⟨kw_47_11, kw_4_2, by decide +kernel⟩, kw_47_10⟩
set_option maxHeartbeats 8000000 in
set_option maxRecDepth 100000 in
theorem ctJ7_fill_d0a16 (l : Launch) (G : GT) (p0_n : Nat) (p0_q : Nat) (p0_f : Nat → Int64) (v1 : Int64) (o_p0_f : Nat → Int64) (hf : fJ7_fill_d0a16 p0_n p0_f v1 = some o_p0_f) : WrV l yJ7_fill_d0a16 (Cond.code yJ7_fill_d0a16 cJ7_fill_d0a16 5 none) { frames := 0, cells := 0, slots := 0, locals := 0 } G [.ref p0_q, .long v1] [arJ G p0_q p0_n p0_f] [arJ G p0_q p0_n o_p0_f] := by
  intro sz
  refine Met.ofW (cc := cJ7_fill_d0a16) (maxL := 5) (ret := none) (by decide) rfl ?_
  intro p e s m args below meth c s₁ B hml hv
  obtain ⟨hargs, hsz, hP, hD0, hK⟩ := hv
  subst hsz
  obtain ⟨hx, hb, hr, hw, hown, hlk⟩ := fwB B
  refine fw_enter hargs (Nat.le_of_ble_eq_true rfl) (fun ls hl => ?_)
  have hl : lv_has ls 5 [(0, .ref p0_q), (1, .long v1)] := hl
  refine fw_Q (P := fun Q => ∃ A : Nat → Prop, va_D A [arJ G p0_q p0_n p0_f] ∧ va_S A s.heap s.heap [] ∧ (∀ q, s.heap.size ≤ q → A q) ∧ ∀ (n_p0_f : Nat → Int64) (H : Heap) (locs : List Loc) (pc : Nat) (ls : Array Slot), some n_p0_f = some o_p0_f → va_P G.1 vwCl [arJ G p0_q p0_n n_p0_f] H → va_S A s.heap H locs → decode cJ7_fill_d0a16 pc = .ok (.return_, 1) → W p l e ({ frames := 0, cells := 0, slots := 0, locals := 0 } : Room) s m args below meth c H locs 0 0 Q (F0 m pc ls [])) ⟨va_A [arJ G p0_q p0_n p0_f] s.heap.size, hD0.self (sz := s.heap.size), va_S.rf, fun q h => Or.inr h, ?_⟩ ?_
  · intro n_p0_f H locs pc ls h hP hS hd
    cases h
    exact retWV hx hb hr hlk hS hP hd
  rintro Q ⟨A, hD, hS, hA, hRet⟩
  change W p l e ({ frames := 0, cells := 0, slots := 0, locals := 0 } : Room) s m args below meth c _ _ 0 0 Q _
  have L6 : ∀ (l4 : Int32) (K : (Nat → Int64) → Option (Nat → Int64)) (n : Nat) (l3 : Int32) (p0_f : Nat → Int64) (H : Heap) (locs : List Loc) (ls : Array Slot), va_P G.1 vwCl [arJ G p0_q p0_n p0_f] H → va_D A [arJ G p0_q p0_n p0_f] → va_S A s.heap H locs → lv_has ls 5 [(0, .ref p0_q), (1, .long v1), (3, .int l3), (4, .int l4)] → fJ7_fill_d0a16_6 p0_n v1 l4 K n l3 p0_f = some o_p0_f → (∀ (kp0_f : Nat → Int64) (H : Heap) (locs : List Loc) (ls : Array Slot), va_P G.1 vwCl [arJ G p0_q p0_n kp0_f] H → va_D A [arJ G p0_q p0_n kp0_f] → va_S A s.heap H locs → lv_has ls 5 [] → K kp0_f = some o_p0_f → W p l e ({ frames := 0, cells := 0, slots := 0, locals := 0 } : Room) s m args below meth c H locs 0 0 Q (F0 m 22 ls [])) → W p l e ({ frames := 0, cells := 0, slots := 0, locals := 0 } : Room) s m args below meth c H locs 0 0 Q (F0 m 6 ls []) := by
    intro l4 K n
    induction n with
    | zero => intro l3 p0_f H locs ls hP hD hS hl hf; rw [fJ7_fill_d0a16_6] at hf; cases hf
    | succ n ih =>
      intro l3 p0_f H locs ls hP hD hS hl hf hX
      rw [fJ7_fill_d0a16_6] at hf
      refine lv_iload_n hx hb dJ7_fill_d0a16_6 rfl (lv_at hl 2 rfl) ?_
      refine lv_iload hx hb dJ7_fill_d0a16_7 (lv_at hl 3 rfl) ?_
      refine lv_icmp_ge (tgt := 22) hx hb dJ7_fill_d0a16_9 (by decide) (fun c_2 => ?_) (fun c_2 => ?_)
      · have hf := ip c_2 hf
        exact hX _ _ _ _ hP hD hS (lv_sub hl [] rfl) hf
      · have hf := iq c_2 hf
        refine lv_aload_n hx hb dJ7_fill_d0a16_12 rfl (lv_at hl 0 rfl) ?_
        refine lv_iload_n hx hb dJ7_fill_d0a16_13 rfl (lv_at hl 2 rfl) ?_
        refine lv_lload_n hx hb dJ7_fill_d0a16_14 rfl (lv_at hl 1 rfl) ?_
        obtain ⟨hi_4, hf⟩ := wrL_in hf
        refine xlast hx hb hK.1 hP hD hS 0 2 rfl rfl hi_4 dJ7_fill_d0a16_15 (fun p0_f_3 H locs ep0_f_3 hP hD hS => ?_)
        have hf := hf p0_f_3 ep0_f_3
        have hP : va_P G.1 vwCl [arJ G p0_q p0_n p0_f_3] H := hP
        have hD : va_D A [arJ G p0_q p0_n p0_f_3] := hD
        refine lv_iinc (v := (l3 + 1)) (lv' := [(3, .int (l3 + 1)), (0, .ref p0_q), (1, .long v1), (4, .int l4)]) hx hb dJ7_fill_d0a16_16 hl (k := 2) rfl (by rfl) (by decide) rfl (fun ls hl => ?_)
        refine lv_goto (tgt := 6) hx hb dJ7_fill_d0a16_19 (by decide) ?_
        exact ih _ _ _ _ _ hP hD hS (lv_sub hl [1, 2, 0, 3] rfl) hf hX
  unfold fJ7_fill_d0a16 at hf
  refine lv_iconst (v := 0) hx hb dJ7_fill_d0a16_0 (by decide) ?_
  refine lv_istore_n (lv' := [(3, .int 0), (0, .ref p0_q), (1, .long v1)]) hx hb dJ7_fill_d0a16_1 rfl hl (by decide) rfl (fun ls hl => ?_)
  refine lv_aload_n hx hb dJ7_fill_d0a16_2 rfl (lv_at hl 1 rfl) ?_
  refine va_alen hx hb hK.1 hP 0 2 rfl rfl rfl dJ7_fill_d0a16_3 ?_
  refine lv_topi (fun y_1 ey_1 => ?_)
  have hf := bnd_all hf y_1 ey_1
  refine lv_istore (lv' := [(4, .int y_1), (3, .int 0), (0, .ref p0_q), (1, .long v1)]) hx hb dJ7_fill_d0a16_4 hl (by decide) rfl (fun ls hl => ?_)
  refine L6 _ _ _ _ _ _ _ _ hP hD hS (lv_sub hl [2, 3, 1, 0] rfl) hf (fun p0_f_5 H locs ls hP hD hS hl hf => ?_)
  exact hRet _ _ _ _ _ hf hP hS dJ7_fill_d0a16_22
theorem calX4_begin : CalV yX4_begin cX4_begin 3 none 2 := ⟨⟨kw_47_7, kw_2_17, by decide +kernel⟩, kw_47_5, kw_47_6⟩
set_option maxHeartbeats 8000000 in
set_option maxRecDepth 100000 in
theorem ctX4_begin (l : Launch) (G : GT) (t_h : Nat) (t_a : Nat → Nat) (t_values : Nat → Int64) (t_sort : Int32) (t_size : Int32) (v1 : Int32) (v2 : Int32) (o_t_values : Nat → Int64) (o_t_sort : Int32) (o_t_size : Int32) (hf : fX4_begin t_values t_sort t_size v1 v2 = some (o_t_values, o_t_sort, o_t_size)) : WrV l yX4_begin (Cond.code yX4_begin cX4_begin 3 none) { frames := 1, cells := 0, slots := 0, locals := 24 } G [.ref t_h, .int v1, .int v2] [oX4 t_h t_a t_sort t_size, arJ G (t_a 0) 40 t_values] [oX4 t_h t_a o_t_sort o_t_size, arJ G (t_a 0) 40 o_t_values] := by
  intro sz
  refine Met.ofW (cc := cX4_begin) (maxL := 3) (ret := none) (by decide) rfl ?_
  intro p e s m args below meth c s₁ B hml hv
  obtain ⟨hargs, hsz, hP, hD0, hK⟩ := hv
  subst hsz
  obtain ⟨hx, hb, hr, hw, hown, hlk⟩ := fwB B
  refine fw_enter hargs (Nat.le_of_ble_eq_true rfl) (fun ls hl => ?_)
  have hl : lv_has ls 3 [(0, .ref t_h), (1, .int v1), (2, .int v2)] := hl
  refine fw_Q (P := fun Q => ∃ A : Nat → Prop, va_D A [oX4 t_h t_a t_sort t_size, arJ G (t_a 0) 40 t_values] ∧ va_S A s.heap s.heap [] ∧ (∀ q, s.heap.size ≤ q → A q) ∧ ∀ (n_t_values : Nat → Int64) (n_t_sort : Int32) (n_t_size : Int32) (H : Heap) (locs : List Loc) (pc : Nat) (ls : Array Slot), some (n_t_values, n_t_sort, n_t_size) = some (o_t_values, o_t_sort, o_t_size) → va_P G.1 vwCl [oX4 t_h t_a n_t_sort n_t_size, arJ G (t_a 0) 40 n_t_values] H → va_S A s.heap H locs → decode cX4_begin pc = .ok (.return_, 1) → W p l e ({ frames := 1, cells := 0, slots := 0, locals := 24 } : Room) s m args below meth c H locs 0 0 Q (F0 m pc ls [])) ⟨va_A [oX4 t_h t_a t_sort t_size, arJ G (t_a 0) 40 t_values] s.heap.size, hD0.self (sz := s.heap.size), va_S.rf, fun q h => Or.inr h, ?_⟩ ?_
  · intro n_t_values n_t_sort n_t_size H locs pc ls h hP hS hd
    cases h
    exact retWV hx hb hr hlk hS hP hd
  rintro Q ⟨A, hD, hS, hA, hRet⟩
  change W p l e ({ frames := 1, cells := 0, slots := 0, locals := 24 } : Room) s m args below meth c _ _ 0 0 Q _
  unfold fX4_begin at hf
  refine lv_aload_n hx hb dX4_begin_0 rfl (lv_at hl 0 rfl) ?_
  refine lv_iload_n hx hb dX4_begin_1 rfl (lv_at hl 1 rfl) ?_
  refine va_put (D := G.1) (ci := 4) (v := .int v1) (ty := .int) (C := RX4) (T := TX4) (N := 3) hx hb hw inW4 tyX4 tyX4_ok nmX4 hown hK.1 hP hD hS 0 rfl rfl 1 (by decide) (hw _ kw_47_8) (fun _ h9 => h9) rfl (by decide +kernel) rfl rfl (Nat.le_of_ble_eq_true rfl) dX4_begin_2 (fun H locs hP hD hS => ?_)
  have hP : va_P G.1 vwCl [oX4 t_h t_a v1 t_size, arJ G (t_a 0) 40 t_values] H := hP
  have hD : va_D A [oX4 t_h t_a v1 t_size, arJ G (t_a 0) 40 t_values] := hD
  refine lv_aload_n hx hb dX4_begin_5 rfl (lv_at hl 0 rfl) ?_
  refine lv_iload_n hx hb dX4_begin_6 rfl (lv_at hl 2 rfl) ?_
  refine va_put (D := G.1) (ci := 4) (v := .int v2) (ty := .int) (C := RX4) (T := TX4) (N := 3) hx hb hw inW4 tyX4 tyX4_ok nmX4 hown hK.1 hP hD hS 0 rfl rfl 2 (by decide) (hw _ kw_5_6) (fun _ h9 => h9) rfl (by decide +kernel) rfl rfl (Nat.le_of_ble_eq_true rfl) dX4_begin_7 (fun H locs hP hD hS => ?_)
  have hP : va_P G.1 vwCl [oX4 t_h t_a v1 v2, arJ G (t_a 0) 40 t_values] H := hP
  have hD : va_D A [oX4 t_h t_a v1 v2, arJ G (t_a 0) 40 t_values] := hD
  refine lv_aload_n hx hb dX4_begin_10 rfl (lv_at hl 0 rfl) ?_
  refine va_get (D := G.1) (ci := 4) (v := .ref (t_a 0)) (C := RX4) (T := TX4) (N := 3) hx hb hw inW4 hown hK.1 hP 0 rfl rfl 0 (by decide) (hw _ kw_5_5) (fun _ h9 => h9) rfl dX4_begin_11 ?_
  refine lv_lconst (v := 0) hx hb dX4_begin_14 (by decide) ?_
  obtain ⟨t_values_1, hc_2, hf⟩ := bd1_in hf
  refine wcV (w1 := [arJ G (t_a 0) 40 t_values_1]) (va_runS (As := [.ref (t_a 0), .long 0]) (rest := []) ⟨hx, hb, hml, hown, hw⟩ ((ctJ7_fill_d0a16 l G 40 (t_a 0) t_values 0 _ hc_2) _) (kS hw calJ7_fill_d0a16 kw_47_9 rfl rfl ⟨Nat.le_of_ble_eq_true rfl, Nat.le_of_ble_eq_true rfl⟩) (wpS (hP.sub (ws' := [arJ G (t_a 0) 40 t_values]) [1] rfl) (hD.sub (ws' := [arJ G (t_a 0) 40 t_values]) [1] (by decide) rfl) hK) rfl rfl hl.1 rfl (lv_room (Nat.le_of_ble_eq_true rfl)) dX4_begin_15 ⟨Nat.zero_le _, Nat.zero_le _⟩) hS hA hP hD [1] rfl rfl (fun H locs hP hD hS => ?_)
  have hP : va_P G.1 vwCl [oX4 t_h t_a v1 v2, arJ G (t_a 0) 40 t_values_1] H := hP
  have hD : va_D A [oX4 t_h t_a v1 v2, arJ G (t_a 0) 40 t_values_1] := hD
  exact hRet _ _ _ _ _ _ _ hf hP hS dX4_begin_18
theorem calX4_trimmed : CalV yX4_trimmed cX4_trimmed 3 (some .long) 1 := ⟨⟨kw_48_6, kw_2_17, by decide +kernel⟩, kw_48_4, kw_48_5⟩
set_option maxHeartbeats 8000000 in
set_option maxRecDepth 100000 in
theorem ctX4_trimmed (l : Launch) (G : GT) (t_h : Nat) (t_a : Nat → Nat) (t_sort : Int32) (t_size : Int32) (v1 : Int64) (r : Int64) (hf : fX4_trimmed t_sort v1 = some r) : RdL l yX4_trimmed (Cond.code yX4_trimmed cX4_trimmed 3 (some .long)) { frames := 0, cells := 0, slots := 0, locals := 0 } G [.ref t_h, .long v1] [oX4 t_h t_a t_sort t_size] r := by
  intro sz
  refine Met.ofW (cc := cX4_trimmed) (maxL := 3) (ret := (some .long)) (by decide) rfl ?_
  intro p e s m args below meth c s₁ B hml hv
  obtain ⟨hargs, hsz, hP, hK⟩ := hv
  subst hsz
  obtain ⟨hx, hb, hr, hw, hown, hlk⟩ := fwB B
  refine fw_enter hargs (Nat.le_of_ble_eq_true rfl) (fun ls hl => ?_)
  have hl : lv_has ls 3 [(0, .ref t_h), (1, .long v1)] := hl
  refine fw_Q (P := fun Q => ∃ A : Nat → Prop, va_S A s.heap s.heap [] ∧ (∀ q, s.heap.size ≤ q → A q) ∧ ∀ (v : Int64) (H : Heap) (locs : List Loc) (pc : Nat) (ls : Array Slot), some v = some r → va_S A s.heap H locs → decode cX4_trimmed pc = .ok (.lreturn, 1) → W p l e ({ frames := 0, cells := 0, slots := 0, locals := 0 } : Room) s m args below meth c H locs 0 0 Q (F0 m pc ls [.long v])) ⟨fun q => s.heap.size ≤ q, va_S.rf, fun q h => h, fun v H locs pc ls h hS hd => retRL hx hb hr hlk hS h hd⟩ ?_
  rintro Q ⟨A, hS, hA, hRet⟩
  change W p l e ({ frames := 0, cells := 0, slots := 0, locals := 0 } : Room) s m args below meth c _ _ 0 0 Q _
  unfold fX4_trimmed at hf
  refine lv_aload_n hx hb dX4_trimmed_0 rfl (lv_at hl 0 rfl) ?_
  refine va_get (D := G.1) (ci := 4) (v := .int t_sort) (C := RX4) (T := TX4) (N := 3) hx hb hw inW4 hown hK.1 hP 0 rfl rfl 1 (by decide) (hw _ kw_47_8) (fun _ h9 => h9) rfl dX4_trimmed_1 ?_
  by_cases c_1 : t_sort = 0
  · have hf := ip c_1 hf
    refine lv_tableIn (tgt := 32) hx hb dX4_trimmed_4 (by rw [c_1]; decide) (by rw [c_1]; decide) (by rw [c_1]; rfl) (by decide) ?_
    refine lv_lload_n hx hb dX4_trimmed_32 rfl (lv_at hl 1 rfl) ?_
    refine lv_l2i hx hb dX4_trimmed_33 rfl ?_
    refine lv_i2b hx hb dX4_trimmed_34 rfl ?_
    refine lv_i2l hx hb dX4_trimmed_35 rfl ?_
    exact hRet _ _ _ _ _ hf hS dX4_trimmed_36
  have hf := iq c_1 hf
  by_cases c_2 : t_sort = 1
  · have hf := ip c_2 hf
    refine lv_tableIn (tgt := 37) hx hb dX4_trimmed_4 (by rw [c_2]; decide) (by rw [c_2]; decide) (by rw [c_2]; rfl) (by decide) ?_
    refine lv_lload_n hx hb dX4_trimmed_37 rfl (lv_at hl 1 rfl) ?_
    refine lv_l2i hx hb dX4_trimmed_38 rfl ?_
    refine lv_i2s hx hb dX4_trimmed_39 rfl ?_
    refine lv_i2l hx hb dX4_trimmed_40 rfl ?_
    exact hRet _ _ _ _ _ hf hS dX4_trimmed_41
  have hf := iq c_2 hf
  by_cases c_3 : t_sort = 2
  · have hf := ip c_3 hf
    refine lv_tableIn (tgt := 42) hx hb dX4_trimmed_4 (by rw [c_3]; decide) (by rw [c_3]; decide) (by rw [c_3]; rfl) (by decide) ?_
    refine lv_lload_n hx hb dX4_trimmed_42 rfl (lv_at hl 1 rfl) ?_
    refine lv_l2i hx hb dX4_trimmed_43 rfl ?_
    refine lv_i2l hx hb dX4_trimmed_44 rfl ?_
    exact hRet _ _ _ _ _ hf hS dX4_trimmed_45
  have hf := iq c_3 hf
  refine lv_tableOut (tgt := 46) hx hb dX4_trimmed_4 (by have c_1_t : (t_sort : Int32).toInt ≠ 0 := ne_toInt c_1; have c_2_t : (t_sort : Int32).toInt ≠ 1 := ne_toInt c_2; have c_3_t : (t_sort : Int32).toInt ≠ 2 := ne_toInt c_3; omega) (by decide) ?_
  refine lv_lload_n hx hb dX4_trimmed_46 rfl (lv_at hl 1 rfl) ?_
  exact hRet _ _ _ _ _ hf hS dX4_trimmed_47
theorem calX4_put : CalV yX4_put cX4_put 4 (some .long) 2 := ⟨⟨kw_48_1, kw_2_17, by decide +kernel⟩, kw_47_23, kw_48_0⟩
set_option maxHeartbeats 8000000 in
set_option maxRecDepth 100000 in
theorem ctX4_put (l : Launch) (G : GT) (t_h : Nat) (t_a : Nat → Nat) (t_values : Nat → Int64) (t_sort : Int32) (t_size : Int32) (v1 : Int32) (v2 : Int64) (r : Int64) (o_t_values : Nat → Int64) (hf : fX4_put t_values t_sort t_size v1 v2 = some (r, o_t_values)) : WrL l yX4_put (Cond.code yX4_put cX4_put 4 (some .long)) { frames := 1, cells := 0, slots := 0, locals := 22 } G [.ref t_h, .int v1, .long v2] [oX4 t_h t_a t_sort t_size, arJ G (t_a 0) 40 t_values] [oX4 t_h t_a t_sort t_size, arJ G (t_a 0) 40 o_t_values] r := by
  intro sz
  refine Met.ofW (cc := cX4_put) (maxL := 4) (ret := (some .long)) (by decide) rfl ?_
  intro p e s m args below meth c s₁ B hml hv
  obtain ⟨hargs, hsz, hP, hD0, hK⟩ := hv
  subst hsz
  obtain ⟨hx, hb, hr, hw, hown, hlk⟩ := fwB B
  refine fw_enter hargs (Nat.le_of_ble_eq_true rfl) (fun ls hl => ?_)
  have hl : lv_has ls 4 [(0, .ref t_h), (1, .int v1), (2, .long v2)] := hl
  refine fw_Q (P := fun Q => ∃ A : Nat → Prop, va_D A [oX4 t_h t_a t_sort t_size, arJ G (t_a 0) 40 t_values] ∧ va_S A s.heap s.heap [] ∧ (∀ q, s.heap.size ≤ q → A q) ∧ ∀ (v : Int64) (n_t_values : Nat → Int64) (H : Heap) (locs : List Loc) (pc : Nat) (ls : Array Slot), some (v, n_t_values) = some (r, o_t_values) → va_P G.1 vwCl [oX4 t_h t_a t_sort t_size, arJ G (t_a 0) 40 n_t_values] H → va_S A s.heap H locs → decode cX4_put pc = .ok (.lreturn, 1) → W p l e ({ frames := 1, cells := 0, slots := 0, locals := 22 } : Room) s m args below meth c H locs 0 0 Q (F0 m pc ls [.long v])) ⟨va_A [oX4 t_h t_a t_sort t_size, arJ G (t_a 0) 40 t_values] s.heap.size, hD0.self (sz := s.heap.size), va_S.rf, fun q h => Or.inr h, ?_⟩ ?_
  · intro v n_t_values H locs pc ls h hP hS hd
    cases h
    exact retWL hx hb hr hlk hS hP rfl hd
  rintro Q ⟨A, hD, hS, hA, hRet⟩
  change W p l e ({ frames := 1, cells := 0, slots := 0, locals := 22 } : Room) s m args below meth c _ _ 0 0 Q _
  unfold fX4_put at hf
  refine lv_iload_n hx hb dX4_put_0 rfl (lv_at hl 1 rfl) ?_
  refine jn_el hf (fun k_1 ek_1 hf => ?_)
  have J12 : ∀  (H : Heap) (locs : List Loc) (ls : Array Slot), va_P G.1 vwCl [oX4 t_h t_a t_sort t_size, arJ G (t_a 0) 40 t_values] H → va_D A [oX4 t_h t_a t_sort t_size, arJ G (t_a 0) 40 t_values] → va_S A s.heap H locs → lv_has ls 4 [] → k_1 = some (r, o_t_values) → W p l e ({ frames := 1, cells := 0, slots := 0, locals := 22 } : Room) s m args below meth c H locs 0 0 Q (F0 m 12 ls []) := by
    intro  H locs ls hP hD hS hl hf
    rw [ek_1] at hf
    refine lv_ldc2 hx hb hown (hw _ kw_48_2) dX4_put_12 ?_
    exact hRet _ _ _ _ _ _ hf hP hS dX4_put_15
  refine lv_if_lt (tgt := 12) hx hb dX4_put_1 (by decide) (fun c_2 => ?_) (fun c_2 => ?_)
  · have hf := ip c_2 hf
    exact J12  _ _ _ hP hD hS (lv_sub hl [] rfl) hf
  · have hf := iq c_2 hf
    refine lv_iload_n hx hb dX4_put_4 rfl (lv_at hl 1 rfl) ?_
    refine lv_aload_n hx hb dX4_put_5 rfl (lv_at hl 0 rfl) ?_
    refine va_get (D := G.1) (ci := 4) (v := .int t_size) (C := RX4) (T := TX4) (N := 3) hx hb hw inW4 hown hK.1 hP 0 rfl rfl 2 (by decide) (hw _ kw_5_6) (fun _ h9 => h9) rfl dX4_put_6 ?_
    refine lv_icmp_lt (tgt := 16) hx hb dX4_put_9 (by decide) (fun c_3 => ?_) (fun c_3 => ?_)
    · have hf := ip c_3 hf
      refine lv_aload_n hx hb dX4_put_16 rfl (lv_at hl 0 rfl) ?_
      refine va_get (D := G.1) (ci := 4) (v := .ref (t_a 0)) (C := RX4) (T := TX4) (N := 3) hx hb hw inW4 hown hK.1 hP 0 rfl rfl 0 (by decide) (hw _ kw_5_5) (fun _ h9 => h9) rfl dX4_put_17 ?_
      refine lv_iload_n hx hb dX4_put_20 rfl (lv_at hl 1 rfl) ?_
      refine lv_aload_n hx hb dX4_put_21 rfl (lv_at hl 0 rfl) ?_
      refine lv_lload_n hx hb dX4_put_22 rfl (lv_at hl 2 rfl) ?_
      obtain ⟨r_4, hc_5, hf⟩ := bd1_in hf
      refine rcL (va_runV (As := [.long v2]) (rest := [.int v1, .ref (t_a 0)]) ⟨hx, hb, hml, hown, hw⟩ ((ctX4_trimmed l G t_h t_a t_sort t_size v2 _ hc_5) _) (kV hw calX4_trimmed kw_48_3 rfl rfl ⟨Nat.le_of_ble_eq_true rfl, Nat.le_of_ble_eq_true rfl⟩) (rpV (hP.sub (ws' := [oX4 t_h t_a t_sort t_size]) [0] rfl) hK (ci := 4) (q0 := 0) rfl rfl) rfl rfl hl.1 rfl (lv_room (Nat.le_of_ble_eq_true rfl)) dX4_put_23 ⟨Nat.zero_le _, Nat.zero_le _⟩) hS hA hP (fun H locs hP hS => ?_)
      obtain ⟨hi_7, hf⟩ := wrL_in hf
      refine xlast hx hb hK.1 hP hD hS 1 2 rfl rfl hi_7 dX4_put_26 (fun t_values_6 H locs et_values_6 hP hD hS => ?_)
      have hf := hf t_values_6 et_values_6
      have hP : va_P G.1 vwCl [oX4 t_h t_a t_sort t_size, arJ G (t_a 0) 40 t_values_6] H := hP
      have hD : va_D A [oX4 t_h t_a t_sort t_size, arJ G (t_a 0) 40 t_values_6] := hD
      refine lv_aload_n hx hb dX4_put_27 rfl (lv_at hl 0 rfl) ?_
      refine va_get (D := G.1) (ci := 4) (v := .ref (t_a 0)) (C := RX4) (T := TX4) (N := 3) hx hb hw inW4 hown hK.1 hP 0 rfl rfl 0 (by decide) (hw _ kw_5_5) (fun _ h9 => h9) rfl dX4_put_28 ?_
      refine lv_iload_n hx hb dX4_put_31 rfl (lv_at hl 1 rfl) ?_
      obtain ⟨hi_9, hf⟩ := rdL_in hf
      refine va_lald hx hb hK.1 hP 1 2 rfl rfl hi_9 dX4_put_32 ?_
      refine lv_topl (fun x_8 ex_8 => ?_)
      have hf := hf x_8 ex_8
      exact hRet _ _ _ _ _ _ hf hP hS dX4_put_33
    · have hf := iq c_3 hf
      exact J12  _ _ _ hP hD hS (lv_sub hl [] rfl) hf
theorem calX1_slackStrings : CalV yX1_slackStrings cX1_slackStrings 3 (some .int) 0 := ⟨⟨kw_50_0, kw_1_19, by decide +kernel⟩, kw_49_22, kw_49_23⟩
set_option maxHeartbeats 8000000 in
set_option maxRecDepth 100000 in
theorem ctX1_slackStrings (l : Launch) (G : GT) (t_h : Nat) (t_a : Nat → Nat) (t_windows : Int32) (t_washes : Int32) (t_damp : Int32) (t_heard : Int32) (t_lines : Int32) (t_hour : Int32) (t_strings : Int32) (t_washPairs : Nat → Int32) (t_washHours : Nat → Int32) (t_pairs : Nat → Int32) (r : Int32) (hf : fX1_slackStrings t_washes t_hour t_strings t_washPairs t_washHours t_pairs = some r) : RdI l yX1_slackStrings (Cond.code yX1_slackStrings cX1_slackStrings 3 (some .int)) { frames := 3, cells := 0, slots := 0, locals := 70 } G [.ref t_h] [oX1 t_h t_a t_windows t_washes t_damp t_heard t_lines t_hour t_strings, arI G (t_a 8) 8 t_washPairs, arI G (t_a 9) 8 t_washHours, arI G (t_a 10) 21 t_pairs] r := by
  intro sz
  refine Met.ofW (cc := cX1_slackStrings) (maxL := 3) (ret := (some .int)) (by decide) rfl ?_
  intro p e s m args below meth c s₁ B hml hv
  obtain ⟨hargs, hsz, hP, hK⟩ := hv
  subst hsz
  obtain ⟨hx, hb, hr, hw, hown, hlk⟩ := fwB B
  refine fw_enter hargs (Nat.le_of_ble_eq_true rfl) (fun ls hl => ?_)
  have hl : lv_has ls 3 [(0, .ref t_h)] := hl
  refine fw_Q (P := fun Q => ∃ A : Nat → Prop, va_S A s.heap s.heap [] ∧ (∀ q, s.heap.size ≤ q → A q) ∧ ∀ (v : Int32) (H : Heap) (locs : List Loc) (pc : Nat) (ls : Array Slot), some v = some r → va_S A s.heap H locs → decode cX1_slackStrings pc = .ok (.ireturn, 1) → W p l e ({ frames := 3, cells := 0, slots := 0, locals := 70 } : Room) s m args below meth c H locs 0 0 Q (F0 m pc ls [.int v])) ⟨fun q => s.heap.size ≤ q, va_S.rf, fun q h => h, fun v H locs pc ls h hS hd => retRI hx hb hr hlk hS h hd⟩ ?_
  rintro Q ⟨A, hS, hA, hRet⟩
  change W p l e ({ frames := 3, cells := 0, slots := 0, locals := 70 } : Room) s m args below meth c _ _ 0 0 Q _
  have L4 : ∀  (K : Int32 → Option Int32) (n : Nat) (l1 : Int32) (l2 : Int32) (H : Heap) (locs : List Loc) (ls : Array Slot), va_P G.1 vwCl [oX1 t_h t_a t_windows t_washes t_damp t_heard t_lines t_hour t_strings, arI G (t_a 8) 8 t_washPairs, arI G (t_a 9) 8 t_washHours, arI G (t_a 10) 21 t_pairs] H → va_S A s.heap H locs → lv_has ls 3 [(0, .ref t_h), (1, .int l1), (2, .int l2)] → fX1_slackStrings_4 t_washes t_hour t_strings t_washPairs t_washHours t_pairs K n l1 l2 = some r → (∀ (k1 : Int32) (H : Heap) (locs : List Loc) (ls : Array Slot), va_P G.1 vwCl [oX1 t_h t_a t_windows t_washes t_damp t_heard t_lines t_hour t_strings, arI G (t_a 8) 8 t_washPairs, arI G (t_a 9) 8 t_washHours, arI G (t_a 10) 21 t_pairs] H → va_S A s.heap H locs → lv_has ls 3 [(1, .int k1)] → K k1 = some r → W p l e ({ frames := 3, cells := 0, slots := 0, locals := 70 } : Room) s m args below meth c H locs 0 0 Q (F0 m 38 ls [])) → W p l e ({ frames := 3, cells := 0, slots := 0, locals := 70 } : Room) s m args below meth c H locs 0 0 Q (F0 m 4 ls []) := by
    intro  K n
    induction n with
    | zero => intro l1 l2 H locs ls hP hS hl hf; rw [fX1_slackStrings_4] at hf; cases hf
    | succ n ih =>
      intro l1 l2 H locs ls hP hS hl hf hX
      rw [fX1_slackStrings_4] at hf
      refine lv_iload_n hx hb dX1_slackStrings_4 rfl (lv_at hl 2 rfl) ?_
      refine lv_aload_n hx hb dX1_slackStrings_5 rfl (lv_at hl 0 rfl) ?_
      refine va_get (D := G.1) (ci := 1) (v := .int t_strings) (C := RX1) (T := TX1) (N := 12) hx hb hw inW1 hown hK.1 hP 0 rfl rfl 6 (by decide) (hw _ kw_3_23) (fun _ h9 => h9) rfl dX1_slackStrings_6 ?_
      refine lv_icmp_ge (tgt := 38) hx hb dX1_slackStrings_9 (by decide) (fun c_1 => ?_) (fun c_1 => ?_)
      · have hf := ip c_1 hf
        exact hX _ _ _ _ hP hS (lv_sub hl [1] rfl) hf
      · have hf := iq c_1 hf
        refine lv_aload_n hx hb dX1_slackStrings_12 rfl (lv_at hl 0 rfl) ?_
        refine lv_aload_n hx hb dX1_slackStrings_13 rfl (lv_at hl 0 rfl) ?_
        refine va_get (D := G.1) (ci := 1) (v := .ref (t_a 10)) (C := RX1) (T := TX1) (N := 12) hx hb hw inW1 hown hK.1 hP 0 rfl rfl 10 (by decide) (hw _ kw_3_11) (fun _ h9 => h9) rfl dX1_slackStrings_14 ?_
        refine lv_iload_n hx hb dX1_slackStrings_17 rfl (lv_at hl 2 rfl) ?_
        obtain ⟨hi_3, hf⟩ := rdI_in hf
        refine va_iald hx hb hK.1 hP 3 0 rfl rfl hi_3 dX1_slackStrings_18 ?_
        refine lv_topi (fun x_2 ex_2 => ?_)
        have hf := hf x_2 ex_2
        refine lv_aload_n hx hb dX1_slackStrings_19 rfl (lv_at hl 0 rfl) ?_
        refine va_get (D := G.1) (ci := 1) (v := .int t_hour) (C := RX1) (T := TX1) (N := 12) hx hb hw inW1 hown hK.1 hP 0 rfl rfl 5 (by decide) (hw _ kw_3_22) (fun _ h9 => h9) rfl dX1_slackStrings_20 ?_
        obtain ⟨r_4, hc_5, hf⟩ := bd1_in hf
        refine rcI (va_runV (As := [.int x_2, .int t_hour]) (rest := []) ⟨hx, hb, hml, hown, hw⟩ ((ctX1_slackAt l G t_h t_a t_windows t_washes t_damp t_heard t_lines t_hour t_strings t_washPairs t_washHours x_2 t_hour _ hc_5) _) (kV hw calX1_slackAt kw_35_7 rfl rfl ⟨Nat.le_of_ble_eq_true rfl, Nat.le_of_ble_eq_true rfl⟩) (rpV (hP.sub (ws' := [oX1 t_h t_a t_windows t_washes t_damp t_heard t_lines t_hour t_strings, arI G (t_a 8) 8 t_washPairs, arI G (t_a 9) 8 t_washHours]) [0, 1, 2] rfl) hK (ci := 1) (q0 := 0) rfl rfl) rfl rfl hl.1 rfl (lv_room (Nat.le_of_ble_eq_true rfl)) dX1_slackStrings_23 ⟨Nat.zero_le _, Nat.zero_le _⟩) hS hA hP (fun H locs hP hS => ?_)
        refine lv_if_eq (tgt := 32) hx hb dX1_slackStrings_26 (by decide) (fun c_6 => ?_) (fun c_6 => ?_)
        · have hf := ip c_6 hf
          refine lv_iinc (v := (l2 + 1)) (lv' := [(2, .int (l2 + 1)), (0, .ref t_h), (1, .int l1)]) hx hb dX1_slackStrings_32 hl (k := 2) rfl (by rfl) (by decide) rfl (fun ls hl => ?_)
          refine lv_goto (tgt := 4) hx hb dX1_slackStrings_35 (by decide) ?_
          exact ih _ _ _ _ _ hP hS (lv_sub hl [1, 2, 0] rfl) hf hX
        · have hf := iq c_6 hf
          refine lv_iinc (v := (l1 + 1)) (lv' := [(1, .int (l1 + 1)), (0, .ref t_h), (2, .int l2)]) hx hb dX1_slackStrings_29 hl (k := 1) rfl (by rfl) (by decide) rfl (fun ls hl => ?_)
          refine lv_iinc (v := (l2 + 1)) (lv' := [(2, .int (l2 + 1)), (1, .int (l1 + 1)), (0, .ref t_h)]) hx hb dX1_slackStrings_32 hl (k := 2) rfl (by rfl) (by decide) rfl (fun ls hl => ?_)
          refine lv_goto (tgt := 4) hx hb dX1_slackStrings_35 (by decide) ?_
          exact ih _ _ _ _ _ hP hS (lv_sub hl [2, 1, 0] rfl) hf hX
  unfold fX1_slackStrings at hf
  refine lv_iconst (v := 0) hx hb dX1_slackStrings_0 (by decide) ?_
  refine lv_istore_n (lv' := [(1, .int 0), (0, .ref t_h)]) hx hb dX1_slackStrings_1 rfl hl (by decide) rfl (fun ls hl => ?_)
  refine lv_iconst (v := 0) hx hb dX1_slackStrings_2 (by decide) ?_
  refine lv_istore_n (lv' := [(2, .int 0), (1, .int 0), (0, .ref t_h)]) hx hb dX1_slackStrings_3 rfl hl (by decide) rfl (fun ls hl => ?_)
  refine L4  _ _ _ _ _ _ _ hP hS (lv_sub hl [2, 1, 0] rfl) hf (fun w_7 H locs ls hP hS hl hf => ?_)
  refine lv_iload_n hx hb dX1_slackStrings_38 rfl (lv_at hl 0 rfl) ?_
  exact hRet _ _ _ _ _ hf hS dX1_slackStrings_39
theorem calX1_lengthOfStrings : CalV yX1_lengthOfStrings cX1_lengthOfStrings 3 (some .int) 0 := ⟨⟨kw_50_4, kw_1_19, by decide +kernel⟩, kw_50_2, kw_50_3⟩
set_option maxHeartbeats 8000000 in
set_option maxRecDepth 100000 in
theorem ctX1_lengthOfStrings (l : Launch) (G : GT) (t_h : Nat) (t_a : Nat → Nat) (t_windows : Int32) (t_washes : Int32) (t_damp : Int32) (t_heard : Int32) (t_lines : Int32) (t_hour : Int32) (t_strings : Int32) (t_pairs : Nat → Int32) (r : Int32) (hf : fX1_lengthOfStrings t_windows t_strings t_pairs = some r) : RdI l yX1_lengthOfStrings (Cond.code yX1_lengthOfStrings cX1_lengthOfStrings 3 (some .int)) { frames := 2, cells := 0, slots := 0, locals := 42 } G [.ref t_h] [oX1 t_h t_a t_windows t_washes t_damp t_heard t_lines t_hour t_strings, arI G (t_a 10) 21 t_pairs] r := by
  intro sz
  refine Met.ofW (cc := cX1_lengthOfStrings) (maxL := 3) (ret := (some .int)) (by decide) rfl ?_
  intro p e s m args below meth c s₁ B hml hv
  obtain ⟨hargs, hsz, hP, hK⟩ := hv
  subst hsz
  obtain ⟨hx, hb, hr, hw, hown, hlk⟩ := fwB B
  refine fw_enter hargs (Nat.le_of_ble_eq_true rfl) (fun ls hl => ?_)
  have hl : lv_has ls 3 [(0, .ref t_h)] := hl
  refine fw_Q (P := fun Q => ∃ A : Nat → Prop, va_S A s.heap s.heap [] ∧ (∀ q, s.heap.size ≤ q → A q) ∧ ∀ (v : Int32) (H : Heap) (locs : List Loc) (pc : Nat) (ls : Array Slot), some v = some r → va_S A s.heap H locs → decode cX1_lengthOfStrings pc = .ok (.ireturn, 1) → W p l e ({ frames := 2, cells := 0, slots := 0, locals := 42 } : Room) s m args below meth c H locs 0 0 Q (F0 m pc ls [.int v])) ⟨fun q => s.heap.size ≤ q, va_S.rf, fun q h => h, fun v H locs pc ls h hS hd => retRI hx hb hr hlk hS h hd⟩ ?_
  rintro Q ⟨A, hS, hA, hRet⟩
  change W p l e ({ frames := 2, cells := 0, slots := 0, locals := 42 } : Room) s m args below meth c _ _ 0 0 Q _
  have L4 : ∀  (K : Int32 → Option Int32) (n : Nat) (l1 : Int32) (l2 : Int32) (H : Heap) (locs : List Loc) (ls : Array Slot), va_P G.1 vwCl [oX1 t_h t_a t_windows t_washes t_damp t_heard t_lines t_hour t_strings, arI G (t_a 10) 21 t_pairs] H → va_S A s.heap H locs → lv_has ls 3 [(0, .ref t_h), (1, .int l1), (2, .int l2)] → fX1_lengthOfStrings_4 t_windows t_strings t_pairs K n l1 l2 = some r → (∀ (k1 : Int32) (H : Heap) (locs : List Loc) (ls : Array Slot), va_P G.1 vwCl [oX1 t_h t_a t_windows t_washes t_damp t_heard t_lines t_hour t_strings, arI G (t_a 10) 21 t_pairs] H → va_S A s.heap H locs → lv_has ls 3 [(1, .int k1)] → K k1 = some r → W p l e ({ frames := 2, cells := 0, slots := 0, locals := 42 } : Room) s m args below meth c H locs 0 0 Q (F0 m 31 ls [])) → W p l e ({ frames := 2, cells := 0, slots := 0, locals := 42 } : Room) s m args below meth c H locs 0 0 Q (F0 m 4 ls []) := by
    intro  K n
    induction n with
    | zero => intro l1 l2 H locs ls hP hS hl hf; rw [fX1_lengthOfStrings_4] at hf; cases hf
    | succ n ih =>
      intro l1 l2 H locs ls hP hS hl hf hX
      rw [fX1_lengthOfStrings_4] at hf
      refine lv_iload_n hx hb dX1_lengthOfStrings_4 rfl (lv_at hl 2 rfl) ?_
      refine lv_aload_n hx hb dX1_lengthOfStrings_5 rfl (lv_at hl 0 rfl) ?_
      refine va_get (D := G.1) (ci := 1) (v := .int t_strings) (C := RX1) (T := TX1) (N := 12) hx hb hw inW1 hown hK.1 hP 0 rfl rfl 6 (by decide) (hw _ kw_3_23) (fun _ h9 => h9) rfl dX1_lengthOfStrings_6 ?_
      refine lv_icmp_ge (tgt := 31) hx hb dX1_lengthOfStrings_9 (by decide) (fun c_1 => ?_) (fun c_1 => ?_)
      · have hf := ip c_1 hf
        exact hX _ _ _ _ hP hS (lv_sub hl [1] rfl) hf
      · have hf := iq c_1 hf
        refine lv_iload_n hx hb dX1_lengthOfStrings_12 rfl (lv_at hl 1 rfl) ?_
        refine lv_aload_n hx hb dX1_lengthOfStrings_13 rfl (lv_at hl 0 rfl) ?_
        refine lv_aload_n hx hb dX1_lengthOfStrings_14 rfl (lv_at hl 0 rfl) ?_
        refine va_get (D := G.1) (ci := 1) (v := .ref (t_a 10)) (C := RX1) (T := TX1) (N := 12) hx hb hw inW1 hown hK.1 hP 0 rfl rfl 10 (by decide) (hw _ kw_3_11) (fun _ h9 => h9) rfl dX1_lengthOfStrings_15 ?_
        refine lv_iload_n hx hb dX1_lengthOfStrings_18 rfl (lv_at hl 2 rfl) ?_
        obtain ⟨hi_3, hf⟩ := rdI_in hf
        refine va_iald hx hb hK.1 hP 1 0 rfl rfl hi_3 dX1_lengthOfStrings_19 ?_
        refine lv_topi (fun x_2 ex_2 => ?_)
        have hf := hf x_2 ex_2
        obtain ⟨r_4, hc_5, hf⟩ := bd1_in hf
        refine rcI (va_runV (As := [.int x_2]) (rest := [.int l1]) ⟨hx, hb, hml, hown, hw⟩ ((ctX1_lengthOf l G t_h t_a t_windows t_washes t_damp t_heard t_lines t_hour t_strings x_2 _ hc_5) _) (kV hw calX1_lengthOf kw_19_8 rfl rfl ⟨Nat.le_of_ble_eq_true rfl, Nat.le_of_ble_eq_true rfl⟩) (rpV (hP.sub (ws' := [oX1 t_h t_a t_windows t_washes t_damp t_heard t_lines t_hour t_strings]) [0] rfl) hK (ci := 1) (q0 := 0) rfl rfl) rfl rfl hl.1 rfl (lv_room (Nat.le_of_ble_eq_true rfl)) dX1_lengthOfStrings_20 ⟨Nat.zero_le _, Nat.zero_le _⟩) hS hA hP (fun H locs hP hS => ?_)
        refine lv_iadd hx hb dX1_lengthOfStrings_23 ?_
        refine lv_topi (fun y_6 ey_6 => ?_)
        have hf := bnd_all hf y_6 ey_6
        refine lv_istore_n (lv' := [(1, .int y_6), (0, .ref t_h), (2, .int l2)]) hx hb dX1_lengthOfStrings_24 rfl hl (by decide) rfl (fun ls hl => ?_)
        refine lv_iinc (v := (l2 + 1)) (lv' := [(2, .int (l2 + 1)), (1, .int y_6), (0, .ref t_h)]) hx hb dX1_lengthOfStrings_25 hl (k := 2) rfl (by rfl) (by decide) rfl (fun ls hl => ?_)
        refine lv_goto (tgt := 4) hx hb dX1_lengthOfStrings_28 (by decide) ?_
        exact ih _ _ _ _ _ hP hS (lv_sub hl [2, 1, 0] rfl) hf hX
  unfold fX1_lengthOfStrings at hf
  refine lv_iconst (v := 0) hx hb dX1_lengthOfStrings_0 (by decide) ?_
  refine lv_istore_n (lv' := [(1, .int 0), (0, .ref t_h)]) hx hb dX1_lengthOfStrings_1 rfl hl (by decide) rfl (fun ls hl => ?_)
  refine lv_iconst (v := 0) hx hb dX1_lengthOfStrings_2 (by decide) ?_
  refine lv_istore_n (lv' := [(2, .int 0), (1, .int 0), (0, .ref t_h)]) hx hb dX1_lengthOfStrings_3 rfl hl (by decide) rfl (fun ls hl => ?_)
  refine L4  _ _ _ _ _ _ _ hP hS (lv_sub hl [2, 1, 0] rfl) hf (fun w_7 H locs ls hP hS hl hf => ?_)
  refine lv_iload_n hx hb dX1_lengthOfStrings_31 rfl (lv_at hl 0 rfl) ?_
  exact hRet _ _ _ _ _ hf hS dX1_lengthOfStrings_32
