theorem calX3_isWord : CalV yX3_isWord cX3_isWord 3 (some .boolean) 1 := ⟨⟨kw_8_16, kw_1_15, by decide +kernel⟩, kw_8_14, kw_8_15⟩
set_option maxHeartbeats 8000000 in
set_option maxRecDepth 100000 in
theorem ctX3_isWord (l : Launch) (G : GT) (ad : Nat → Nat) (av : Nat → Nat) (t_h : Nat) (t_a : Nat → Nat) (t_tape : Nat → Int32) (t_taped : Int32) (t_length : Int32) (t_at : Int32) (t_kind : Int32) (t_start : Int32) (t_value : Int32) (t_fault : Int32) (t_place : Int32) (p1_i : Nat) (h_p1_i : p1_i < 8) (r : Int32) (hf : fX3_isWord t_tape t_at t_kind t_start p1_i = some r) : RsI l yX3_isWord (Cond.code yX3_isWord cX3_isWord 3 (some .boolean)) { frames := 4, cells := 0, slots := 0, locals := 120 } G ad av [.ref t_h, .ref (ad p1_i)] [oX3 t_h t_a t_taped t_length t_at t_kind t_start t_value t_fault t_place, arB G (t_a 0) 900 t_tape] r := by
  intro sz
  refine Met.ofW (cc := cX3_isWord) (maxL := 3) (ret := (some .boolean)) (by decide) rfl ?_
  intro p e s m args below meth c s₁ B hml hv
  obtain ⟨hargs, hsz, hP, hE0, hK⟩ := hv
  subst hsz
  obtain ⟨hx, hb, hr, hw, hown, hlk⟩ := fwB B
  refine fw_enter hargs (Nat.le_of_ble_eq_true rfl) (fun ls hl => ?_)
  have hl : lv_has ls 3 [(0, .ref t_h), (1, .ref (ad p1_i))] := hl
  refine fw_Q (P := fun Q => ∃ A : Nat → Prop, va_S A s.heap s.heap [] ∧ (∀ q, s.heap.size ≤ q → A q) ∧ SE ad av A s s.heap ∧ ∀ (v : Int32) (H : Heap) (locs : List Loc) (pc : Nat) (ls : Array Slot), some v = some r → va_S A s.heap H locs → narrow .boolean (.int v) = .int v → decode cX3_isWord pc = .ok (.ireturn, 1) → W p l e ({ frames := 4, cells := 0, slots := 0, locals := 120 } : Room) s m args below meth c H locs 0 0 Q (F0 m pc ls [.int v])) ⟨fun q => s.heap.size ≤ q, va_S.rf, fun q h => h, hE0, fun v H locs pc ls h hS hn hd => retRZ hx hb hr hlk hS hn h hd⟩ ?_
  rintro Q ⟨A, hS, hA, hE, hRet⟩
  change W p l e ({ frames := 4, cells := 0, slots := 0, locals := 120 } : Room) s m args below meth c _ _ 0 0 Q _
  have L27 : ∀  (K : Option Int32) (n : Nat) (l2 : Int32) (H : Heap) (locs : List Loc) (ls : Array Slot), va_P G.1 vwCl [oX3 t_h t_a t_taped t_length t_at t_kind t_start t_value t_fault t_place, arB G (t_a 0) 900 t_tape] H → va_S A s.heap H locs → lv_has ls 3 [(0, .ref t_h), (1, .ref (ad p1_i)), (2, .int l2)] → fX3_isWord_27 t_tape t_start p1_i K n l2 = some r → (∀  (H : Heap) (locs : List Loc) (ls : Array Slot), va_P G.1 vwCl [oX3 t_h t_a t_taped t_length t_at t_kind t_start t_value t_fault t_place, arB G (t_a 0) 900 t_tape] H → va_S A s.heap H locs → lv_has ls 3 [] → K = some r → W p l e ({ frames := 4, cells := 0, slots := 0, locals := 120 } : Room) s m args below meth c H locs 0 0 Q (F0 m 62 ls [])) → W p l e ({ frames := 4, cells := 0, slots := 0, locals := 120 } : Room) s m args below meth c H locs 0 0 Q (F0 m 27 ls []) := by
    intro  K n
    induction n with
    | zero => intro l2 H locs ls hP hS hl hf; rw [fX3_isWord_27] at hf; cases hf
    | succ n ih =>
      intro l2 H locs ls hP hS hl hf hX
      rw [fX3_isWord_27] at hf
      refine lv_iload_n hx hb dX3_isWord_27 rfl (lv_at hl 2 rfl) ?_
      refine lv_aload_n hx hb dX3_isWord_28 rfl (lv_at hl 1 rfl) ?_
      refine rcI (va_runV (As := []) (rest := [.int l2]) ⟨hx, hb, hml, hown, hw⟩ (ctJ0_length l G ad av p1_i h_p1_i _) (kV hw calJ0_length kw_8_17 rfl rfl ⟨Nat.le_of_ble_eq_true rfl, Nat.le_of_ble_eq_true rfl⟩) (rsK h_p1_i hE hS hA hK) rfl rfl hl.1 rfl (lv_room (Nat.le_of_ble_eq_true rfl)) dX3_isWord_29 ⟨Nat.zero_le _, Nat.zero_le _⟩) hS hA hP (fun H locs hP hS => ?_)
      refine lv_icmp_ge (tgt := 62) hx hb dX3_isWord_32 (by decide) (fun c_3 => ?_) (fun c_3 => ?_)
      · have hf := ip c_3 hf
        exact hX  _ _ _ hP hS (lv_sub hl [] rfl) hf
      · have hf := iq c_3 hf
        refine lv_aload_n hx hb dX3_isWord_35 rfl (lv_at hl 0 rfl) ?_
        refine va_get (D := G.1) (ci := 3) (v := .ref (t_a 0)) (C := RX3) (T := TX3) (N := 9) hx hb hw inW3 hown hK.1 hP 0 rfl rfl 0 (by decide) (hw _ kw_3_1) (fun _ h9 => h9) rfl dX3_isWord_36 ?_
        refine lv_aload_n hx hb dX3_isWord_39 rfl (lv_at hl 0 rfl) ?_
        refine va_get (D := G.1) (ci := 3) (v := .int t_start) (C := RX3) (T := TX3) (N := 9) hx hb hw inW3 hown hK.1 hP 0 rfl rfl 5 (by decide) (hw _ kw_7_20) (fun _ h9 => h9) rfl dX3_isWord_40 ?_
        refine lv_iload_n hx hb dX3_isWord_43 rfl (lv_at hl 2 rfl) ?_
        refine lv_iadd hx hb dX3_isWord_44 ?_
        obtain ⟨hi_5, hf⟩ := rdI_in hf
        refine va_bald hx hb hK.1 hP 1 1 rfl rfl hi_5 dX3_isWord_45 ?_
        refine lv_topi (fun x_4 ex_4 => ?_)
        have hf := hf x_4 ex_4
        refine lv_aload_n hx hb dX3_isWord_46 rfl (lv_at hl 1 rfl) ?_
        refine lv_iload_n hx hb dX3_isWord_47 rfl (lv_at hl 2 rfl) ?_
        obtain ⟨hi_6, hf⟩ := rdI_in hf
        refine rcI (va_runV (As := [.int l2]) (rest := [.int x_4]) ⟨hx, hb, hml, hown, hw⟩ (ctJ0_charAt l G ad av p1_i h_p1_i l2 hi_6 _) (kV hw calJ0_charAt kw_9_5 rfl rfl ⟨Nat.le_of_ble_eq_true rfl, Nat.le_of_ble_eq_true rfl⟩) (rsK h_p1_i hE hS hA hK) rfl rfl hl.1 rfl (lv_room (Nat.le_of_ble_eq_true rfl)) dX3_isWord_48 ⟨Nat.zero_le _, Nat.zero_le _⟩) hS hA hP (fun H locs hP hS => ?_)
        refine lv_topi (fun x_7 ex_7 => ?_)
        have hf := hf x_7 ex_7
        refine lv_icmp_eq (tgt := 56) hx hb dX3_isWord_51 (by decide) (fun c_8 => ?_) (fun c_8 => ?_)
        · have hf := ip c_8 hf
          refine lv_iinc (v := (l2 + 1)) (lv' := [(2, .int (l2 + 1)), (0, .ref t_h), (1, .ref (ad p1_i))]) hx hb dX3_isWord_56 hl (k := 2) rfl (by rfl) (by decide) rfl (fun ls hl => ?_)
          refine lv_goto (tgt := 27) hx hb dX3_isWord_59 (by decide) ?_
          exact ih _ _ _ _ hP hS (lv_sub hl [1, 2, 0] rfl) hf hX
        · have hf := iq c_8 hf
          refine lv_iconst (v := 0) hx hb dX3_isWord_54 (by decide) ?_
          exact hRet _ _ _ _ _ hf hS (by decide +kernel) dX3_isWord_55
  unfold fX3_isWord at hf
  refine lv_aload_n hx hb dX3_isWord_0 rfl (lv_at hl 0 rfl) ?_
  refine va_get (D := G.1) (ci := 3) (v := .int t_kind) (C := RX3) (T := TX3) (N := 9) hx hb hw inW3 hown hK.1 hP 0 rfl rfl 4 (by decide) (hw _ kw_7_14) (fun _ h9 => h9) rfl dX3_isWord_1 ?_
  refine lv_if_ne (tgt := 23) hx hb dX3_isWord_4 (by decide) (fun c_1 => ?_) (fun c_1 => ?_)
  · have hf := iq c_1 hf
    refine lv_iconst (v := 0) hx hb dX3_isWord_23 (by decide) ?_
    exact hRet _ _ _ _ _ hf hS (by decide +kernel) dX3_isWord_24
  · have hf := ip c_1 hf
    refine lv_aload_n hx hb dX3_isWord_7 rfl (lv_at hl 0 rfl) ?_
    refine va_get (D := G.1) (ci := 3) (v := .int t_at) (C := RX3) (T := TX3) (N := 9) hx hb hw inW3 hown hK.1 hP 0 rfl rfl 3 (by decide) (hw _ kw_7_12) (fun _ h9 => h9) rfl dX3_isWord_8 ?_
    refine lv_aload_n hx hb dX3_isWord_11 rfl (lv_at hl 0 rfl) ?_
    refine va_get (D := G.1) (ci := 3) (v := .int t_start) (C := RX3) (T := TX3) (N := 9) hx hb hw inW3 hown hK.1 hP 0 rfl rfl 5 (by decide) (hw _ kw_7_20) (fun _ h9 => h9) rfl dX3_isWord_12 ?_
    refine lv_isub hx hb dX3_isWord_15 ?_
    refine lv_aload_n hx hb dX3_isWord_16 rfl (lv_at hl 1 rfl) ?_
    refine rcI (va_runV (As := []) (rest := [.int (t_at - t_start)]) ⟨hx, hb, hml, hown, hw⟩ (ctJ0_length l G ad av p1_i h_p1_i _) (kV hw calJ0_length kw_8_17 rfl rfl ⟨Nat.le_of_ble_eq_true rfl, Nat.le_of_ble_eq_true rfl⟩) (rsK h_p1_i hE hS hA hK) rfl rfl hl.1 rfl (lv_room (Nat.le_of_ble_eq_true rfl)) dX3_isWord_17 ⟨Nat.zero_le _, Nat.zero_le _⟩) hS hA hP (fun H locs hP hS => ?_)
    refine lv_icmp_eq (tgt := 25) hx hb dX3_isWord_20 (by decide) (fun c_2 => ?_) (fun c_2 => ?_)
    · have hf := ip c_2 hf
      refine lv_iconst (v := 0) hx hb dX3_isWord_25 (by decide) ?_
      refine lv_istore_n (lv' := [(2, .int 0), (0, .ref t_h), (1, .ref (ad p1_i))]) hx hb dX3_isWord_26 rfl hl (by decide) rfl (fun ls hl => ?_)
      refine L27  _ _ _ _ _ _ hP hS (lv_sub hl [1, 2, 0] rfl) hf (fun  H locs ls hP hS hl hf => ?_)
      refine lv_iconst (v := 1) hx hb dX3_isWord_62 (by decide) ?_
      exact hRet _ _ _ _ _ hf hS (by decide +kernel) dX3_isWord_63
    · have hf := iq c_2 hf
      refine lv_iconst (v := 0) hx hb dX3_isWord_23 (by decide) ?_
      exact hRet _ _ _ _ _ hf hS (by decide +kernel) dX3_isWord_24
theorem calX3_readString : CalV yX3_readString cX3_readString 5 none 1 := ⟨⟨kw_12_10, kw_1_15, by decide +kernel⟩, kw_12_8, kw_12_9⟩
set_option maxHeartbeats 8000000 in
set_option maxRecDepth 100000 in
theorem ctX3_readString (l : Launch) (G : GT) (ad : Nat → Nat) (av : Nat → Nat) (t_h : Nat) (t_a : Nat → Nat) (p1_h : Nat) (p1_a : Nat → Nat) (t_tape : Nat → Int32) (t_taped : Int32) (t_length : Int32) (t_at : Int32) (t_kind : Int32) (t_start : Int32) (t_value : Int32) (t_fault : Int32) (t_place : Int32) (p1_windows : Int32) (p1_washes : Int32) (p1_damp : Int32) (p1_heard : Int32) (p1_lines : Int32) (p1_hour : Int32) (p1_strings : Int32) (p1_cans : Nat → Int32) (p1_pairs : Nat → Int32) (p1_knots : Nat → Int32) (o_t_at : Int32) (o_t_kind : Int32) (o_t_start : Int32) (o_t_value : Int32) (o_t_fault : Int32) (o_t_place : Int32) (o_p1_strings : Int32) (o_p1_pairs : Nat → Int32) (o_p1_knots : Nat → Int32) (hf : fX3_readString t_tape t_length t_at t_kind t_start t_value t_fault t_place p1_windows p1_strings p1_cans p1_pairs p1_knots = some (o_t_at, o_t_kind, o_t_start, o_t_value, o_t_fault, o_t_place, o_p1_strings, o_p1_pairs, o_p1_knots)) : WsV l yX3_readString (Cond.code yX3_readString cX3_readString 5 none) { frames := 5, cells := 0, slots := 0, locals := 142 } G ad av [.ref t_h, .ref p1_h] [oX3 t_h t_a t_taped t_length t_at t_kind t_start t_value t_fault t_place, arB G (t_a 0) 900 t_tape, oX1 p1_h p1_a p1_windows p1_washes p1_damp p1_heard p1_lines p1_hour p1_strings, arI G (p1_a 7) 12 p1_cans, arI G (p1_a 10) 21 p1_pairs, arI G (p1_a 11) 21 p1_knots] [oX3 t_h t_a t_taped t_length o_t_at o_t_kind o_t_start o_t_value o_t_fault o_t_place, arB G (t_a 0) 900 t_tape, oX1 p1_h p1_a p1_windows p1_washes p1_damp p1_heard p1_lines p1_hour o_p1_strings, arI G (p1_a 7) 12 p1_cans, arI G (p1_a 10) 21 o_p1_pairs, arI G (p1_a 11) 21 o_p1_knots] := by
  intro sz
  refine Met.ofW (cc := cX3_readString) (maxL := 5) (ret := none) (by decide) rfl ?_
  intro p e s m args below meth c s₁ B hml hv
  obtain ⟨hargs, hsz, hP, hD0, hE0, hK⟩ := hv
  subst hsz
  obtain ⟨hx, hb, hr, hw, hown, hlk⟩ := fwB B
  refine fw_enter hargs (Nat.le_of_ble_eq_true rfl) (fun ls hl => ?_)
  have hl : lv_has ls 5 [(0, .ref t_h), (1, .ref p1_h)] := hl
  refine fw_Q (P := fun Q => ∃ A : Nat → Prop, va_D A [oX3 t_h t_a t_taped t_length t_at t_kind t_start t_value t_fault t_place, arB G (t_a 0) 900 t_tape, oX1 p1_h p1_a p1_windows p1_washes p1_damp p1_heard p1_lines p1_hour p1_strings, arI G (p1_a 7) 12 p1_cans, arI G (p1_a 10) 21 p1_pairs, arI G (p1_a 11) 21 p1_knots] ∧ va_S A s.heap s.heap [] ∧ (∀ q, s.heap.size ≤ q → A q) ∧ SE ad av A s s.heap ∧ ∀ (n_t_at : Int32) (n_t_kind : Int32) (n_t_start : Int32) (n_t_value : Int32) (n_t_fault : Int32) (n_t_place : Int32) (n_p1_strings : Int32) (n_p1_pairs : Nat → Int32) (n_p1_knots : Nat → Int32) (H : Heap) (locs : List Loc) (pc : Nat) (ls : Array Slot), some (n_t_at, n_t_kind, n_t_start, n_t_value, n_t_fault, n_t_place, n_p1_strings, n_p1_pairs, n_p1_knots) = some (o_t_at, o_t_kind, o_t_start, o_t_value, o_t_fault, o_t_place, o_p1_strings, o_p1_pairs, o_p1_knots) → va_P G.1 vwCl [oX3 t_h t_a t_taped t_length n_t_at n_t_kind n_t_start n_t_value n_t_fault n_t_place, arB G (t_a 0) 900 t_tape, oX1 p1_h p1_a p1_windows p1_washes p1_damp p1_heard p1_lines p1_hour n_p1_strings, arI G (p1_a 7) 12 p1_cans, arI G (p1_a 10) 21 n_p1_pairs, arI G (p1_a 11) 21 n_p1_knots] H → va_S A s.heap H locs → decode cX3_readString pc = .ok (.return_, 1) → W p l e ({ frames := 5, cells := 0, slots := 0, locals := 142 } : Room) s m args below meth c H locs 0 0 Q (F0 m pc ls [])) ⟨va_A [oX3 t_h t_a t_taped t_length t_at t_kind t_start t_value t_fault t_place, arB G (t_a 0) 900 t_tape, oX1 p1_h p1_a p1_windows p1_washes p1_damp p1_heard p1_lines p1_hour p1_strings, arI G (p1_a 7) 12 p1_cans, arI G (p1_a 10) 21 p1_pairs, arI G (p1_a 11) 21 p1_knots] s.heap.size, hD0.self (sz := s.heap.size), va_S.rf, fun q h => Or.inr h, hE0, ?_⟩ ?_
  · intro n_t_at n_t_kind n_t_start n_t_value n_t_fault n_t_place n_p1_strings n_p1_pairs n_p1_knots H locs pc ls h hP hS hd
    cases h
    exact retWV hx hb hr hlk hS hP hd
  rintro Q ⟨A, hD, hS, hA, hE, hRet⟩
  change W p l e ({ frames := 5, cells := 0, slots := 0, locals := 142 } : Room) s m args below meth c _ _ 0 0 Q _
  unfold fX3_readString at hf
  refine lv_aload_n hx hb dX3_readString_0 rfl (lv_at hl 0 rfl) ?_
  refine lv_iconst (v := 0) hx hb dX3_readString_1 (by decide) ?_
  refine lv_aload_n hx hb dX3_readString_2 rfl (lv_at hl 1 rfl) ?_
  refine va_getN (D := G.1) (ci := 1) (v := .int p1_windows) (C := RX1) (T := TX1) (N := 12) hx hb hw inW1 hown hK.1 hP 2 rfl rfl 0 (by decide) ((nf_5 hK.2).use rfl) (fun _ h9 => h9) rfl dX3_readString_3 ?_
  refine lv_iconst (v := 1) hx hb dX3_readString_6 (by decide) ?_
  refine lv_isub hx hb dX3_readString_7 ?_
  obtain ⟨r_7, t_at_1, t_kind_2, t_start_3, t_value_4, t_fault_5, t_place_6, hc_8, hf⟩ := bd7_in hf
  refine wcI (w1 := [oX3 t_h t_a t_taped t_length t_at_1 t_kind_2 t_start_3 t_value_4 t_fault_5 t_place_6, arB G (t_a 0) 900 t_tape]) (va_runV (As := [.int 0, .int (p1_windows - 1)]) (rest := []) ⟨hx, hb, hml, hown, hw⟩ ((ctX3_readNumber l G t_h t_a t_tape t_taped t_length t_at t_kind t_start t_value t_fault t_place 0 (p1_windows - 1) _ _ _ _ _ _ _ hc_8) _) (kV hw calX3_readNumber kw_10_22 rfl rfl ⟨Nat.le_of_ble_eq_true rfl, Nat.le_of_ble_eq_true rfl⟩) (wpV (hP.sub (ws' := [oX3 t_h t_a t_taped t_length t_at t_kind t_start t_value t_fault t_place, arB G (t_a 0) 900 t_tape]) [0, 1] rfl) (hD.sub (ws' := [oX3 t_h t_a t_taped t_length t_at t_kind t_start t_value t_fault t_place, arB G (t_a 0) 900 t_tape]) [0, 1] (by decide) rfl) hK (ci := 3) (q0 := 0) rfl rfl) rfl rfl hl.1 rfl (lv_room (Nat.le_of_ble_eq_true rfl)) dX3_readString_8 ⟨Nat.zero_le _, Nat.zero_le _⟩) hS hA hP hD [0, 1] rfl rfl (fun H locs hP hD hS => ?_)
  have hP : va_P G.1 vwCl [oX3 t_h t_a t_taped t_length t_at_1 t_kind_2 t_start_3 t_value_4 t_fault_5 t_place_6, arB G (t_a 0) 900 t_tape, oX1 p1_h p1_a p1_windows p1_washes p1_damp p1_heard p1_lines p1_hour p1_strings, arI G (p1_a 7) 12 p1_cans, arI G (p1_a 10) 21 p1_pairs, arI G (p1_a 11) 21 p1_knots] H := hP
  have hD : va_D A [oX3 t_h t_a t_taped t_length t_at_1 t_kind_2 t_start_3 t_value_4 t_fault_5 t_place_6, arB G (t_a 0) 900 t_tape, oX1 p1_h p1_a p1_windows p1_washes p1_damp p1_heard p1_lines p1_hour p1_strings, arI G (p1_a 7) 12 p1_cans, arI G (p1_a 10) 21 p1_pairs, arI G (p1_a 11) 21 p1_knots] := hD
  refine lv_istore_n (lv' := [(2, .int r_7), (0, .ref t_h), (1, .ref p1_h)]) hx hb dX3_readString_11 rfl hl (by decide) rfl (fun ls hl => ?_)
  refine lv_aload_n hx hb dX3_readString_12 rfl (lv_at hl 1 rfl) ?_
  refine lv_iconst (v := 0) hx hb dX3_readString_13 (by decide) ?_
  refine lv_aload_n hx hb dX3_readString_14 rfl (lv_at hl 2 rfl) ?_
  refine va_getN (D := G.1) (ci := 1) (v := .int p1_windows) (C := RX1) (T := TX1) (N := 12) hx hb hw inW1 hown hK.1 hP 2 rfl rfl 0 (by decide) ((nf_5 hK.2).use rfl) (fun _ h9 => h9) rfl dX3_readString_15 ?_
  refine lv_iconst (v := 1) hx hb dX3_readString_18 (by decide) ?_
  refine lv_isub hx hb dX3_readString_19 ?_
  obtain ⟨r_15, t_at_9, t_kind_10, t_start_11, t_value_12, t_fault_13, t_place_14, hc_16, hf⟩ := bd7_in hf
  refine wcI (w1 := [oX3 t_h t_a t_taped t_length t_at_9 t_kind_10 t_start_11 t_value_12 t_fault_13 t_place_14, arB G (t_a 0) 900 t_tape]) (va_runV (As := [.int 0, .int (p1_windows - 1)]) (rest := []) ⟨hx, hb, hml, hown, hw⟩ ((ctX3_readNumber l G t_h t_a t_tape t_taped t_length t_at_1 t_kind_2 t_start_3 t_value_4 t_fault_5 t_place_6 0 (p1_windows - 1) _ _ _ _ _ _ _ hc_16) _) (kV hw calX3_readNumber kw_10_22 rfl rfl ⟨Nat.le_of_ble_eq_true rfl, Nat.le_of_ble_eq_true rfl⟩) (wpV (hP.sub (ws' := [oX3 t_h t_a t_taped t_length t_at_1 t_kind_2 t_start_3 t_value_4 t_fault_5 t_place_6, arB G (t_a 0) 900 t_tape]) [0, 1] rfl) (hD.sub (ws' := [oX3 t_h t_a t_taped t_length t_at_1 t_kind_2 t_start_3 t_value_4 t_fault_5 t_place_6, arB G (t_a 0) 900 t_tape]) [0, 1] (by decide) rfl) hK (ci := 3) (q0 := 0) rfl rfl) rfl rfl hl.1 rfl (lv_room (Nat.le_of_ble_eq_true rfl)) dX3_readString_20 ⟨Nat.zero_le _, Nat.zero_le _⟩) hS hA hP hD [0, 1] rfl rfl (fun H locs hP hD hS => ?_)
  have hP : va_P G.1 vwCl [oX3 t_h t_a t_taped t_length t_at_9 t_kind_10 t_start_11 t_value_12 t_fault_13 t_place_14, arB G (t_a 0) 900 t_tape, oX1 p1_h p1_a p1_windows p1_washes p1_damp p1_heard p1_lines p1_hour p1_strings, arI G (p1_a 7) 12 p1_cans, arI G (p1_a 10) 21 p1_pairs, arI G (p1_a 11) 21 p1_knots] H := hP
  have hD : va_D A [oX3 t_h t_a t_taped t_length t_at_9 t_kind_10 t_start_11 t_value_12 t_fault_13 t_place_14, arB G (t_a 0) 900 t_tape, oX1 p1_h p1_a p1_windows p1_washes p1_damp p1_heard p1_lines p1_hour p1_strings, arI G (p1_a 7) 12 p1_cans, arI G (p1_a 10) 21 p1_pairs, arI G (p1_a 11) 21 p1_knots] := hD
  refine lv_istore_n (lv' := [(3, .int r_15), (2, .int r_7), (0, .ref t_h), (1, .ref p1_h)]) hx hb dX3_readString_23 rfl hl (by decide) rfl (fun ls hl => ?_)
  refine lv_aload_n hx hb dX3_readString_24 rfl (lv_at hl 2 rfl) ?_
  refine lv_aload_n hx hb dX3_readString_25 rfl (lv_at hl 3 rfl) ?_
  refine lv_iload_n hx hb dX3_readString_26 rfl (lv_at hl 1 rfl) ?_
  refine lv_iload_n hx hb dX3_readString_27 rfl (lv_at hl 0 rfl) ?_
  refine lv_iconst (v := 1) hx hb dX3_readString_28 (by decide) ?_
  obtain ⟨t_fault_17, t_place_18, hc_19, hf⟩ := bd2_in hf
  refine wcV (w1 := [oX3 t_h t_a t_taped t_length t_at_9 t_kind_10 t_start_11 t_value_12 t_fault_17 t_place_18, oX1 p1_h p1_a p1_windows p1_washes p1_damp p1_heard p1_lines p1_hour p1_strings]) (va_runV (As := [.ref p1_h, .int r_7, .int r_15, .int 1]) (rest := []) ⟨hx, hb, hml, hown, hw⟩ ((ctX3_wantSteps l G t_h t_a p1_h p1_a t_taped t_length t_at_9 t_kind_10 t_start_11 t_value_12 t_fault_13 t_place_14 p1_windows p1_washes p1_damp p1_heard p1_lines p1_hour p1_strings r_7 r_15 1 _ _ hc_19) _) (kV hw calX3_wantSteps kw_11_18 rfl rfl ⟨Nat.le_of_ble_eq_true rfl, Nat.le_of_ble_eq_true rfl⟩) (wpV (hP.sub (ws' := [oX3 t_h t_a t_taped t_length t_at_9 t_kind_10 t_start_11 t_value_12 t_fault_13 t_place_14, oX1 p1_h p1_a p1_windows p1_washes p1_damp p1_heard p1_lines p1_hour p1_strings]) [0, 2] rfl) (hD.sub (ws' := [oX3 t_h t_a t_taped t_length t_at_9 t_kind_10 t_start_11 t_value_12 t_fault_13 t_place_14, oX1 p1_h p1_a p1_windows p1_washes p1_damp p1_heard p1_lines p1_hour p1_strings]) [0, 2] (by decide) rfl) hK (ci := 3) (q0 := 0) rfl rfl) rfl rfl hl.1 rfl (lv_room (Nat.le_of_ble_eq_true rfl)) dX3_readString_29 ⟨Nat.zero_le _, Nat.zero_le _⟩) hS hA hP hD [0, 2] rfl rfl (fun H locs hP hD hS => ?_)
  have hP : va_P G.1 vwCl [oX3 t_h t_a t_taped t_length t_at_9 t_kind_10 t_start_11 t_value_12 t_fault_17 t_place_18, arB G (t_a 0) 900 t_tape, oX1 p1_h p1_a p1_windows p1_washes p1_damp p1_heard p1_lines p1_hour p1_strings, arI G (p1_a 7) 12 p1_cans, arI G (p1_a 10) 21 p1_pairs, arI G (p1_a 11) 21 p1_knots] H := hP
  have hD : va_D A [oX3 t_h t_a t_taped t_length t_at_9 t_kind_10 t_start_11 t_value_12 t_fault_17 t_place_18, arB G (t_a 0) 900 t_tape, oX1 p1_h p1_a p1_windows p1_washes p1_damp p1_heard p1_lines p1_hour p1_strings, arI G (p1_a 7) 12 p1_cans, arI G (p1_a 10) 21 p1_pairs, arI G (p1_a 11) 21 p1_knots] := hD
  refine lv_aload_n hx hb dX3_readString_32 rfl (lv_at hl 2 rfl) ?_
  obtain ⟨t_at_20, t_kind_21, t_start_22, t_value_23, t_fault_24, t_place_25, hc_26, hf⟩ := bd6_in hf
  refine wcV (w1 := [oX3 t_h t_a t_taped t_length t_at_20 t_kind_21 t_start_22 t_value_23 t_fault_24 t_place_25, arB G (t_a 0) 900 t_tape]) (va_runV (As := []) (rest := []) ⟨hx, hb, hml, hown, hw⟩ ((ctX3_nextToken l G t_h t_a t_tape t_taped t_length t_at_9 t_kind_10 t_start_11 t_value_12 t_fault_17 t_place_18 _ _ _ _ _ _ hc_26) _) (kV hw calX3_nextToken kw_7_16 rfl rfl ⟨Nat.le_of_ble_eq_true rfl, Nat.le_of_ble_eq_true rfl⟩) (wpV (hP.sub (ws' := [oX3 t_h t_a t_taped t_length t_at_9 t_kind_10 t_start_11 t_value_12 t_fault_17 t_place_18, arB G (t_a 0) 900 t_tape]) [0, 1] rfl) (hD.sub (ws' := [oX3 t_h t_a t_taped t_length t_at_9 t_kind_10 t_start_11 t_value_12 t_fault_17 t_place_18, arB G (t_a 0) 900 t_tape]) [0, 1] (by decide) rfl) hK (ci := 3) (q0 := 0) rfl rfl) rfl rfl hl.1 rfl (lv_room (Nat.le_of_ble_eq_true rfl)) dX3_readString_33 ⟨Nat.zero_le _, Nat.zero_le _⟩) hS hA hP hD [0, 1] rfl rfl (fun H locs hP hD hS => ?_)
  have hP : va_P G.1 vwCl [oX3 t_h t_a t_taped t_length t_at_20 t_kind_21 t_start_22 t_value_23 t_fault_24 t_place_25, arB G (t_a 0) 900 t_tape, oX1 p1_h p1_a p1_windows p1_washes p1_damp p1_heard p1_lines p1_hour p1_strings, arI G (p1_a 7) 12 p1_cans, arI G (p1_a 10) 21 p1_pairs, arI G (p1_a 11) 21 p1_knots] H := hP
  have hD : va_D A [oX3 t_h t_a t_taped t_length t_at_20 t_kind_21 t_start_22 t_value_23 t_fault_24 t_place_25, arB G (t_a 0) 900 t_tape, oX1 p1_h p1_a p1_windows p1_washes p1_damp p1_heard p1_lines p1_hour p1_strings, arI G (p1_a 7) 12 p1_cans, arI G (p1_a 10) 21 p1_pairs, arI G (p1_a 11) 21 p1_knots] := hD
  refine lv_iconst (v := 0) hx hb dX3_readString_36 (by decide) ?_
  refine lv_istore (lv' := [(4, .int 0), (3, .int r_15), (2, .int r_7), (0, .ref t_h), (1, .ref p1_h)]) hx hb dX3_readString_37 hl (by decide) rfl (fun ls hl => ?_)
  refine lv_aload_n hx hb dX3_readString_39 rfl (lv_at hl 3 rfl) ?_
  refine va_ldcS hx hb hown (hE.2.1 6 (RX3, 118, "knots") rfl) dX3_readString_40 ?_
  obtain ⟨r_27, hc_28, hf⟩ := bd1_in hf
  refine rcI (va_runV (As := [.ref (ad 6)]) (rest := []) ⟨hx, hb, hml, hown, hw⟩ ((ctX3_isWord l G ad av t_h t_a t_tape t_taped t_length t_at_20 t_kind_21 t_start_22 t_value_23 t_fault_24 t_place_25 6 (by decide) _ hc_28) _) (kV hw calX3_isWord kw_8_13 rfl rfl ⟨Nat.le_of_ble_eq_true rfl, Nat.le_of_ble_eq_true rfl⟩) (rsV (hP.sub (ws' := [oX3 t_h t_a t_taped t_length t_at_20 t_kind_21 t_start_22 t_value_23 t_fault_24 t_place_25, arB G (t_a 0) 900 t_tape]) [0, 1] rfl) hE hS hA hK (ci := 3) (q0 := 0) rfl rfl) rfl rfl hl.1 rfl (lv_room (Nat.le_of_ble_eq_true rfl)) dX3_readString_42 ⟨Nat.zero_le _, Nat.zero_le _⟩) hS hA hP (fun H locs hP hS => ?_)
  refine jn_el hf (fun k_36 ek_36 hf => ?_)
  have J61 : ∀ (z_29 : Int32) (t_at_30 : Int32) (t_kind_31 : Int32) (t_start_32 : Int32) (t_value_33 : Int32) (t_fault_34 : Int32) (t_place_35 : Int32) (H : Heap) (locs : List Loc) (ls : Array Slot), va_P G.1 vwCl [oX3 t_h t_a t_taped t_length t_at_30 t_kind_31 t_start_32 t_value_33 t_fault_34 t_place_35, arB G (t_a 0) 900 t_tape, oX1 p1_h p1_a p1_windows p1_washes p1_damp p1_heard p1_lines p1_hour p1_strings, arI G (p1_a 7) 12 p1_cans, arI G (p1_a 10) 21 p1_pairs, arI G (p1_a 11) 21 p1_knots] H → va_D A [oX3 t_h t_a t_taped t_length t_at_30 t_kind_31 t_start_32 t_value_33 t_fault_34 t_place_35, arB G (t_a 0) 900 t_tape, oX1 p1_h p1_a p1_windows p1_washes p1_damp p1_heard p1_lines p1_hour p1_strings, arI G (p1_a 7) 12 p1_cans, arI G (p1_a 10) 21 p1_pairs, arI G (p1_a 11) 21 p1_knots] → va_S A s.heap H locs → lv_has ls 5 [(0, .ref t_h), (1, .ref p1_h), (2, .int r_7), (3, .int r_15), (4, .int z_29)] → k_36 z_29 t_at_30 t_kind_31 t_start_32 t_value_33 t_fault_34 t_place_35 = some (o_t_at, o_t_kind, o_t_start, o_t_value, o_t_fault, o_t_place, o_p1_strings, o_p1_pairs, o_p1_knots) → W p l e ({ frames := 5, cells := 0, slots := 0, locals := 142 } : Room) s m args below meth c H locs 0 0 Q (F0 m 61 ls []) := by
    intro z_29 t_at_30 t_kind_31 t_start_32 t_value_33 t_fault_34 t_place_35 H locs ls hP hD hS hl hf
    rw [ek_36] at hf
    refine lv_aload_n hx hb dX3_readString_61 rfl (lv_at hl 0 rfl) ?_
    obtain ⟨t_fault_37, t_place_38, hc_39, hf⟩ := bd2_in hf
    refine wcV (w1 := [oX3 t_h t_a t_taped t_length t_at_30 t_kind_31 t_start_32 t_value_33 t_fault_37 t_place_38]) (va_runV (As := []) (rest := []) ⟨hx, hb, hml, hown, hw⟩ ((ctX3_wantSemicolon l G t_h t_a t_taped t_length t_at_30 t_kind_31 t_start_32 t_value_33 t_fault_34 t_place_35 _ _ hc_39) _) (kV hw calX3_wantSemicolon kw_11_6 rfl rfl ⟨Nat.le_of_ble_eq_true rfl, Nat.le_of_ble_eq_true rfl⟩) (wpV (hP.sub (ws' := [oX3 t_h t_a t_taped t_length t_at_30 t_kind_31 t_start_32 t_value_33 t_fault_34 t_place_35]) [0] rfl) (hD.sub (ws' := [oX3 t_h t_a t_taped t_length t_at_30 t_kind_31 t_start_32 t_value_33 t_fault_34 t_place_35]) [0] (by decide) rfl) hK (ci := 3) (q0 := 0) rfl rfl) rfl rfl hl.1 rfl (lv_room (Nat.le_of_ble_eq_true rfl)) dX3_readString_62 ⟨Nat.zero_le _, Nat.zero_le _⟩) hS hA hP hD [0] rfl rfl (fun H locs hP hD hS => ?_)
    have hP : va_P G.1 vwCl [oX3 t_h t_a t_taped t_length t_at_30 t_kind_31 t_start_32 t_value_33 t_fault_37 t_place_38, arB G (t_a 0) 900 t_tape, oX1 p1_h p1_a p1_windows p1_washes p1_damp p1_heard p1_lines p1_hour p1_strings, arI G (p1_a 7) 12 p1_cans, arI G (p1_a 10) 21 p1_pairs, arI G (p1_a 11) 21 p1_knots] H := hP
    have hD : va_D A [oX3 t_h t_a t_taped t_length t_at_30 t_kind_31 t_start_32 t_value_33 t_fault_37 t_place_38, arB G (t_a 0) 900 t_tape, oX1 p1_h p1_a p1_windows p1_washes p1_damp p1_heard p1_lines p1_hour p1_strings, arI G (p1_a 7) 12 p1_cans, arI G (p1_a 10) 21 p1_pairs, arI G (p1_a 11) 21 p1_knots] := hD
    refine lv_aload_n hx hb dX3_readString_65 rfl (lv_at hl 1 rfl) ?_
    refine lv_iload_n hx hb dX3_readString_66 rfl (lv_at hl 2 rfl) ?_
    refine lv_iload_n hx hb dX3_readString_67 rfl (lv_at hl 3 rfl) ?_
    obtain ⟨r_40, hc_41, hf⟩ := bd1_in hf
    refine rcI (va_runSN (As := [.int r_7, .int r_15]) (rest := [.ref p1_h]) ⟨hx, hb, hml, hown, hw⟩ ((ctX7_pairOf l G r_7 r_15 _ hc_41) _) (kSN hw calX7_pairOf (nm_6 hK.2) rfl rfl ⟨Nat.le_of_ble_eq_true rfl, Nat.le_of_ble_eq_true rfl⟩) (rpS (hP.sub (ws' := []) [] rfl) hK) rfl rfl hl.1 rfl (lv_room (Nat.le_of_ble_eq_true rfl)) dX3_readString_68 ⟨Nat.zero_le _, Nat.zero_le _⟩) hS hA hP (fun H locs hP hS => ?_)
    obtain ⟨r_42, hc_43, hf⟩ := bd1_in hf
    refine rcI (va_runV (As := [.int r_40]) (rest := []) ⟨hx, hb, hml, hown, hw⟩ ((ctX1_whyNot l G p1_h p1_a p1_windows p1_washes p1_damp p1_heard p1_lines p1_hour p1_strings p1_cans p1_pairs r_40 _ hc_43) _) (kV hw calX1_whyNot kw_12_11 rfl rfl ⟨Nat.le_of_ble_eq_true rfl, Nat.le_of_ble_eq_true rfl⟩) (rpV (hP.sub (ws' := [oX1 p1_h p1_a p1_windows p1_washes p1_damp p1_heard p1_lines p1_hour p1_strings, arI G (p1_a 7) 12 p1_cans, arI G (p1_a 10) 21 p1_pairs]) [2, 3, 4] rfl) hK (ci := 1) (q0 := 0) rfl rfl) rfl rfl hl.1 rfl (lv_room (Nat.le_of_ble_eq_true rfl)) dX3_readString_71 ⟨Nat.zero_le _, Nat.zero_le _⟩) hS hA hP (fun H locs hP hS => ?_)
    refine jn_el hf (fun k_46 ek_46 hf => ?_)
    have J82 : ∀ (t_fault_44 : Int32) (t_place_45 : Int32) (H : Heap) (locs : List Loc) (ls : Array Slot), va_P G.1 vwCl [oX3 t_h t_a t_taped t_length t_at_30 t_kind_31 t_start_32 t_value_33 t_fault_44 t_place_45, arB G (t_a 0) 900 t_tape, oX1 p1_h p1_a p1_windows p1_washes p1_damp p1_heard p1_lines p1_hour p1_strings, arI G (p1_a 7) 12 p1_cans, arI G (p1_a 10) 21 p1_pairs, arI G (p1_a 11) 21 p1_knots] H → va_D A [oX3 t_h t_a t_taped t_length t_at_30 t_kind_31 t_start_32 t_value_33 t_fault_44 t_place_45, arB G (t_a 0) 900 t_tape, oX1 p1_h p1_a p1_windows p1_washes p1_damp p1_heard p1_lines p1_hour p1_strings, arI G (p1_a 7) 12 p1_cans, arI G (p1_a 10) 21 p1_pairs, arI G (p1_a 11) 21 p1_knots] → va_S A s.heap H locs → lv_has ls 5 [(0, .ref t_h), (1, .ref p1_h), (2, .int r_7), (3, .int r_15), (4, .int z_29)] → k_46 t_fault_44 t_place_45 = some (o_t_at, o_t_kind, o_t_start, o_t_value, o_t_fault, o_t_place, o_p1_strings, o_p1_pairs, o_p1_knots) → W p l e ({ frames := 5, cells := 0, slots := 0, locals := 142 } : Room) s m args below meth c H locs 0 0 Q (F0 m 82 ls []) := by
      intro t_fault_44 t_place_45 H locs ls hP hD hS hl hf
      rw [ek_46] at hf
      refine lv_aload_n hx hb dX3_readString_82 rfl (lv_at hl 0 rfl) ?_
      refine va_get (D := G.1) (ci := 3) (v := .int t_fault_44) (C := RX3) (T := TX3) (N := 9) hx hb hw inW3 hown hK.1 hP 0 rfl rfl 7 (by decide) (hw _ kw_7_13) (fun _ h9 => h9) rfl dX3_readString_83 ?_
      refine lv_if_ne (tgt := 100) hx hb dX3_readString_86 (by decide) (fun c_47 => ?_) (fun c_47 => ?_)
      · have hf := iq c_47 hf
        exact hRet _ _ _ _ _ _ _ _ _ _ _ _ _ hf hP hS dX3_readString_100
      · have hf := ip c_47 hf
        refine lv_aload_n hx hb dX3_readString_89 rfl (lv_at hl 1 rfl) ?_
        refine lv_iload_n hx hb dX3_readString_90 rfl (lv_at hl 2 rfl) ?_
        refine lv_iload_n hx hb dX3_readString_91 rfl (lv_at hl 3 rfl) ?_
        obtain ⟨r_48, hc_49, hf⟩ := bd1_in hf
        refine rcI (va_runSN (As := [.int r_7, .int r_15]) (rest := [.ref p1_h]) ⟨hx, hb, hml, hown, hw⟩ ((ctX7_pairOf l G r_7 r_15 _ hc_49) _) (kSN hw calX7_pairOf (nm_6 hK.2) rfl rfl ⟨Nat.le_of_ble_eq_true rfl, Nat.le_of_ble_eq_true rfl⟩) (rpS (hP.sub (ws' := []) [] rfl) hK) rfl rfl hl.1 rfl (lv_room (Nat.le_of_ble_eq_true rfl)) dX3_readString_92 ⟨Nat.zero_le _, Nat.zero_le _⟩) hS hA hP (fun H locs hP hS => ?_)
        refine lv_iload hx hb dX3_readString_95 (lv_at hl 4 rfl) ?_
        obtain ⟨p1_strings_50, p1_pairs_51, p1_knots_52, hc_53, hf⟩ := bd3_in hf
        refine wcV (w1 := [oX1 p1_h p1_a p1_windows p1_washes p1_damp p1_heard p1_lines p1_hour p1_strings_50, arI G (p1_a 10) 21 p1_pairs_51, arI G (p1_a 11) 21 p1_knots_52]) (va_runV (As := [.int r_48, .int z_29]) (rest := []) ⟨hx, hb, hml, hown, hw⟩ ((ctX1_addString l G p1_h p1_a p1_windows p1_washes p1_damp p1_heard p1_lines p1_hour p1_strings p1_pairs p1_knots r_48 z_29 _ _ _ hc_53) _) (kV hw calX1_addString kw_13_12 rfl rfl ⟨Nat.le_of_ble_eq_true rfl, Nat.le_of_ble_eq_true rfl⟩) (wpV (hP.sub (ws' := [oX1 p1_h p1_a p1_windows p1_washes p1_damp p1_heard p1_lines p1_hour p1_strings, arI G (p1_a 10) 21 p1_pairs, arI G (p1_a 11) 21 p1_knots]) [2, 4, 5] rfl) (hD.sub (ws' := [oX1 p1_h p1_a p1_windows p1_washes p1_damp p1_heard p1_lines p1_hour p1_strings, arI G (p1_a 10) 21 p1_pairs, arI G (p1_a 11) 21 p1_knots]) [2, 4, 5] (by decide) rfl) hK (ci := 1) (q0 := 0) rfl rfl) rfl rfl hl.1 rfl (lv_room (Nat.le_of_ble_eq_true rfl)) dX3_readString_97 ⟨Nat.zero_le _, Nat.zero_le _⟩) hS hA hP hD [2, 4, 5] rfl rfl (fun H locs hP hD hS => ?_)
        have hP : va_P G.1 vwCl [oX3 t_h t_a t_taped t_length t_at_30 t_kind_31 t_start_32 t_value_33 t_fault_44 t_place_45, arB G (t_a 0) 900 t_tape, oX1 p1_h p1_a p1_windows p1_washes p1_damp p1_heard p1_lines p1_hour p1_strings_50, arI G (p1_a 7) 12 p1_cans, arI G (p1_a 10) 21 p1_pairs_51, arI G (p1_a 11) 21 p1_knots_52] H := hP
        have hD : va_D A [oX3 t_h t_a t_taped t_length t_at_30 t_kind_31 t_start_32 t_value_33 t_fault_44 t_place_45, arB G (t_a 0) 900 t_tape, oX1 p1_h p1_a p1_windows p1_washes p1_damp p1_heard p1_lines p1_hour p1_strings_50, arI G (p1_a 7) 12 p1_cans, arI G (p1_a 10) 21 p1_pairs_51, arI G (p1_a 11) 21 p1_knots_52] := hD
        exact hRet _ _ _ _ _ _ _ _ _ _ _ _ _ hf hP hS dX3_readString_100
    refine lv_if_eq (tgt := 82) hx hb dX3_readString_74 (by decide) (fun c_54 => ?_) (fun c_54 => ?_)
    · have hf := ip c_54 hf
      exact J82 _ _ _ _ _ hP hD hS (lv_sub hl [0, 1, 2, 3, 4] rfl) hf
    · have hf := iq c_54 hf
      refine lv_aload_n hx hb dX3_readString_77 rfl (lv_at hl 0 rfl) ?_
      refine lv_iconst (v := 5) hx hb dX3_readString_78 (by decide) ?_
      obtain ⟨t_fault_55, t_place_56, hc_57, hf⟩ := bd2_in hf
      refine wcV (w1 := [oX3 t_h t_a t_taped t_length t_at_30 t_kind_31 t_start_32 t_value_33 t_fault_55 t_place_56]) (va_runV (As := [.int 5]) (rest := []) ⟨hx, hb, hml, hown, hw⟩ ((ctX3_refuse l G t_h t_a t_taped t_length t_at_30 t_kind_31 t_start_32 t_value_33 t_fault_37 t_place_38 5 _ _ hc_57) _) (kV hw calX3_refuse kw_8_1 rfl rfl ⟨Nat.le_of_ble_eq_true rfl, Nat.le_of_ble_eq_true rfl⟩) (wpV (hP.sub (ws' := [oX3 t_h t_a t_taped t_length t_at_30 t_kind_31 t_start_32 t_value_33 t_fault_37 t_place_38]) [0] rfl) (hD.sub (ws' := [oX3 t_h t_a t_taped t_length t_at_30 t_kind_31 t_start_32 t_value_33 t_fault_37 t_place_38]) [0] (by decide) rfl) hK (ci := 3) (q0 := 0) rfl rfl) rfl rfl hl.1 rfl (lv_room (Nat.le_of_ble_eq_true rfl)) dX3_readString_79 ⟨Nat.zero_le _, Nat.zero_le _⟩) hS hA hP hD [0] rfl rfl (fun H locs hP hD hS => ?_)
      have hP : va_P G.1 vwCl [oX3 t_h t_a t_taped t_length t_at_30 t_kind_31 t_start_32 t_value_33 t_fault_55 t_place_56, arB G (t_a 0) 900 t_tape, oX1 p1_h p1_a p1_windows p1_washes p1_damp p1_heard p1_lines p1_hour p1_strings, arI G (p1_a 7) 12 p1_cans, arI G (p1_a 10) 21 p1_pairs, arI G (p1_a 11) 21 p1_knots] H := hP
      have hD : va_D A [oX3 t_h t_a t_taped t_length t_at_30 t_kind_31 t_start_32 t_value_33 t_fault_55 t_place_56, arB G (t_a 0) 900 t_tape, oX1 p1_h p1_a p1_windows p1_washes p1_damp p1_heard p1_lines p1_hour p1_strings, arI G (p1_a 7) 12 p1_cans, arI G (p1_a 10) 21 p1_pairs, arI G (p1_a 11) 21 p1_knots] := hD
      exact J82 _ _ _ _ _ hP hD hS (lv_sub hl [0, 1, 2, 3, 4] rfl) hf
  refine lv_if_eq (tgt := 61) hx hb dX3_readString_45 (by decide) (fun c_58 => ?_) (fun c_58 => ?_)
  · have hf := ip c_58 hf
    exact J61 _ _ _ _ _ _ _ _ _ _ hP hD hS (lv_sub hl [3, 4, 2, 1, 0] rfl) hf
  · have hf := iq c_58 hf
    refine lv_aload_n hx hb dX3_readString_48 rfl (lv_at hl 3 rfl) ?_
    refine lv_iconst (v := 0) hx hb dX3_readString_49 (by decide) ?_
    refine lv_bipush (v := 9) hx hb dX3_readString_50 (by decide) ?_
    obtain ⟨r_65, t_at_59, t_kind_60, t_start_61, t_value_62, t_fault_63, t_place_64, hc_66, hf⟩ := bd7_in hf
    refine wcI (w1 := [oX3 t_h t_a t_taped t_length t_at_59 t_kind_60 t_start_61 t_value_62 t_fault_63 t_place_64, arB G (t_a 0) 900 t_tape]) (va_runV (As := [.int 0, .int 9]) (rest := []) ⟨hx, hb, hml, hown, hw⟩ ((ctX3_readNumber l G t_h t_a t_tape t_taped t_length t_at_20 t_kind_21 t_start_22 t_value_23 t_fault_24 t_place_25 0 9 _ _ _ _ _ _ _ hc_66) _) (kV hw calX3_readNumber kw_10_22 rfl rfl ⟨Nat.le_of_ble_eq_true rfl, Nat.le_of_ble_eq_true rfl⟩) (wpV (hP.sub (ws' := [oX3 t_h t_a t_taped t_length t_at_20 t_kind_21 t_start_22 t_value_23 t_fault_24 t_place_25, arB G (t_a 0) 900 t_tape]) [0, 1] rfl) (hD.sub (ws' := [oX3 t_h t_a t_taped t_length t_at_20 t_kind_21 t_start_22 t_value_23 t_fault_24 t_place_25, arB G (t_a 0) 900 t_tape]) [0, 1] (by decide) rfl) hK (ci := 3) (q0 := 0) rfl rfl) rfl rfl hl.1 rfl (lv_room (Nat.le_of_ble_eq_true rfl)) dX3_readString_52 ⟨Nat.zero_le _, Nat.zero_le _⟩) hS hA hP hD [0, 1] rfl rfl (fun H locs hP hD hS => ?_)
    have hP : va_P G.1 vwCl [oX3 t_h t_a t_taped t_length t_at_59 t_kind_60 t_start_61 t_value_62 t_fault_63 t_place_64, arB G (t_a 0) 900 t_tape, oX1 p1_h p1_a p1_windows p1_washes p1_damp p1_heard p1_lines p1_hour p1_strings, arI G (p1_a 7) 12 p1_cans, arI G (p1_a 10) 21 p1_pairs, arI G (p1_a 11) 21 p1_knots] H := hP
    have hD : va_D A [oX3 t_h t_a t_taped t_length t_at_59 t_kind_60 t_start_61 t_value_62 t_fault_63 t_place_64, arB G (t_a 0) 900 t_tape, oX1 p1_h p1_a p1_windows p1_washes p1_damp p1_heard p1_lines p1_hour p1_strings, arI G (p1_a 7) 12 p1_cans, arI G (p1_a 10) 21 p1_pairs, arI G (p1_a 11) 21 p1_knots] := hD
    refine lv_istore (lv' := [(4, .int r_65), (3, .int r_15), (2, .int r_7), (0, .ref t_h), (1, .ref p1_h)]) hx hb dX3_readString_55 hl (by decide) rfl (fun ls hl => ?_)
    refine lv_aload_n hx hb dX3_readString_57 rfl (lv_at hl 3 rfl) ?_
    obtain ⟨t_at_67, t_kind_68, t_start_69, t_value_70, t_fault_71, t_place_72, hc_73, hf⟩ := bd6_in hf
    refine wcV (w1 := [oX3 t_h t_a t_taped t_length t_at_67 t_kind_68 t_start_69 t_value_70 t_fault_71 t_place_72, arB G (t_a 0) 900 t_tape]) (va_runV (As := []) (rest := []) ⟨hx, hb, hml, hown, hw⟩ ((ctX3_nextToken l G t_h t_a t_tape t_taped t_length t_at_59 t_kind_60 t_start_61 t_value_62 t_fault_63 t_place_64 _ _ _ _ _ _ hc_73) _) (kV hw calX3_nextToken kw_7_16 rfl rfl ⟨Nat.le_of_ble_eq_true rfl, Nat.le_of_ble_eq_true rfl⟩) (wpV (hP.sub (ws' := [oX3 t_h t_a t_taped t_length t_at_59 t_kind_60 t_start_61 t_value_62 t_fault_63 t_place_64, arB G (t_a 0) 900 t_tape]) [0, 1] rfl) (hD.sub (ws' := [oX3 t_h t_a t_taped t_length t_at_59 t_kind_60 t_start_61 t_value_62 t_fault_63 t_place_64, arB G (t_a 0) 900 t_tape]) [0, 1] (by decide) rfl) hK (ci := 3) (q0 := 0) rfl rfl) rfl rfl hl.1 rfl (lv_room (Nat.le_of_ble_eq_true rfl)) dX3_readString_58 ⟨Nat.zero_le _, Nat.zero_le _⟩) hS hA hP hD [0, 1] rfl rfl (fun H locs hP hD hS => ?_)
    have hP : va_P G.1 vwCl [oX3 t_h t_a t_taped t_length t_at_67 t_kind_68 t_start_69 t_value_70 t_fault_71 t_place_72, arB G (t_a 0) 900 t_tape, oX1 p1_h p1_a p1_windows p1_washes p1_damp p1_heard p1_lines p1_hour p1_strings, arI G (p1_a 7) 12 p1_cans, arI G (p1_a 10) 21 p1_pairs, arI G (p1_a 11) 21 p1_knots] H := hP
    have hD : va_D A [oX3 t_h t_a t_taped t_length t_at_67 t_kind_68 t_start_69 t_value_70 t_fault_71 t_place_72, arB G (t_a 0) 900 t_tape, oX1 p1_h p1_a p1_windows p1_washes p1_damp p1_heard p1_lines p1_hour p1_strings, arI G (p1_a 7) 12 p1_cans, arI G (p1_a 10) 21 p1_pairs, arI G (p1_a 11) 21 p1_knots] := hD
    exact J61 _ _ _ _ _ _ _ _ _ _ hP hD hS (lv_sub hl [3, 4, 2, 1, 0] rfl) hf
theorem calX3_readLine : CalV yX3_readLine cX3_readLine 3 none 1 := ⟨⟨kw_8_12, kw_1_15, by decide +kernel⟩, kw_8_10, kw_8_11⟩
set_option maxHeartbeats 8000000 in
set_option maxRecDepth 100000 in
theorem ctX3_readLine (l : Launch) (G : GT) (ad : Nat → Nat) (av : Nat → Nat) (t_h : Nat) (t_a : Nat → Nat) (p1_h : Nat) (p1_a : Nat → Nat) (t_tape : Nat → Int32) (t_taped : Int32) (t_length : Int32) (t_at : Int32) (t_kind : Int32) (t_start : Int32) (t_value : Int32) (t_fault : Int32) (t_place : Int32) (p1_windows : Int32) (p1_washes : Int32) (p1_damp : Int32) (p1_heard : Int32) (p1_lines : Int32) (p1_hour : Int32) (p1_strings : Int32) (p1_cans : Nat → Int32) (p1_washPairs : Nat → Int32) (p1_washHours : Nat → Int32) (p1_pairs : Nat → Int32) (p1_knots : Nat → Int32) (o_t_at : Int32) (o_t_kind : Int32) (o_t_start : Int32) (o_t_value : Int32) (o_t_fault : Int32) (o_t_place : Int32) (o_p1_windows : Int32) (o_p1_washes : Int32) (o_p1_damp : Int32) (o_p1_heard : Int32) (o_p1_strings : Int32) (o_p1_cans : Nat → Int32) (o_p1_washPairs : Nat → Int32) (o_p1_washHours : Nat → Int32) (o_p1_pairs : Nat → Int32) (o_p1_knots : Nat → Int32) (hf : fX3_readLine t_tape t_length t_at t_kind t_start t_value t_fault t_place p1_windows p1_washes p1_damp p1_heard p1_strings p1_cans p1_washPairs p1_washHours p1_pairs p1_knots = some (o_t_at, o_t_kind, o_t_start, o_t_value, o_t_fault, o_t_place, o_p1_windows, o_p1_washes, o_p1_damp, o_p1_heard, o_p1_strings, o_p1_cans, o_p1_washPairs, o_p1_washHours, o_p1_pairs, o_p1_knots)) : WsV l yX3_readLine (Cond.code yX3_readLine cX3_readLine 3 none) { frames := 6, cells := 0, slots := 0, locals := 166 } G ad av [.ref t_h, .ref p1_h] [oX3 t_h t_a t_taped t_length t_at t_kind t_start t_value t_fault t_place, arB G (t_a 0) 900 t_tape, oX1 p1_h p1_a p1_windows p1_washes p1_damp p1_heard p1_lines p1_hour p1_strings, arI G (p1_a 7) 12 p1_cans, arI G (p1_a 8) 8 p1_washPairs, arI G (p1_a 9) 8 p1_washHours, arI G (p1_a 10) 21 p1_pairs, arI G (p1_a 11) 21 p1_knots] [oX3 t_h t_a t_taped t_length o_t_at o_t_kind o_t_start o_t_value o_t_fault o_t_place, arB G (t_a 0) 900 t_tape, oX1 p1_h p1_a o_p1_windows o_p1_washes o_p1_damp o_p1_heard p1_lines p1_hour o_p1_strings, arI G (p1_a 7) 12 o_p1_cans, arI G (p1_a 8) 8 o_p1_washPairs, arI G (p1_a 9) 8 o_p1_washHours, arI G (p1_a 10) 21 o_p1_pairs, arI G (p1_a 11) 21 o_p1_knots] := by
  intro sz
  refine Met.ofW (cc := cX3_readLine) (maxL := 3) (ret := none) (by decide) rfl ?_
  intro p e s m args below meth c s₁ B hml hv
  obtain ⟨hargs, hsz, hP, hD0, hE0, hK⟩ := hv
  subst hsz
  obtain ⟨hx, hb, hr, hw, hown, hlk⟩ := fwB B
  refine fw_enter hargs (Nat.le_of_ble_eq_true rfl) (fun ls hl => ?_)
  have hl : lv_has ls 3 [(0, .ref t_h), (1, .ref p1_h)] := hl
  refine fw_Q (P := fun Q => ∃ A : Nat → Prop, va_D A [oX3 t_h t_a t_taped t_length t_at t_kind t_start t_value t_fault t_place, arB G (t_a 0) 900 t_tape, oX1 p1_h p1_a p1_windows p1_washes p1_damp p1_heard p1_lines p1_hour p1_strings, arI G (p1_a 7) 12 p1_cans, arI G (p1_a 8) 8 p1_washPairs, arI G (p1_a 9) 8 p1_washHours, arI G (p1_a 10) 21 p1_pairs, arI G (p1_a 11) 21 p1_knots] ∧ va_S A s.heap s.heap [] ∧ (∀ q, s.heap.size ≤ q → A q) ∧ SE ad av A s s.heap ∧ ∀ (n_t_at : Int32) (n_t_kind : Int32) (n_t_start : Int32) (n_t_value : Int32) (n_t_fault : Int32) (n_t_place : Int32) (n_p1_windows : Int32) (n_p1_washes : Int32) (n_p1_damp : Int32) (n_p1_heard : Int32) (n_p1_strings : Int32) (n_p1_cans : Nat → Int32) (n_p1_washPairs : Nat → Int32) (n_p1_washHours : Nat → Int32) (n_p1_pairs : Nat → Int32) (n_p1_knots : Nat → Int32) (H : Heap) (locs : List Loc) (pc : Nat) (ls : Array Slot), some (n_t_at, n_t_kind, n_t_start, n_t_value, n_t_fault, n_t_place, n_p1_windows, n_p1_washes, n_p1_damp, n_p1_heard, n_p1_strings, n_p1_cans, n_p1_washPairs, n_p1_washHours, n_p1_pairs, n_p1_knots) = some (o_t_at, o_t_kind, o_t_start, o_t_value, o_t_fault, o_t_place, o_p1_windows, o_p1_washes, o_p1_damp, o_p1_heard, o_p1_strings, o_p1_cans, o_p1_washPairs, o_p1_washHours, o_p1_pairs, o_p1_knots) → va_P G.1 vwCl [oX3 t_h t_a t_taped t_length n_t_at n_t_kind n_t_start n_t_value n_t_fault n_t_place, arB G (t_a 0) 900 t_tape, oX1 p1_h p1_a n_p1_windows n_p1_washes n_p1_damp n_p1_heard p1_lines p1_hour n_p1_strings, arI G (p1_a 7) 12 n_p1_cans, arI G (p1_a 8) 8 n_p1_washPairs, arI G (p1_a 9) 8 n_p1_washHours, arI G (p1_a 10) 21 n_p1_pairs, arI G (p1_a 11) 21 n_p1_knots] H → va_S A s.heap H locs → decode cX3_readLine pc = .ok (.return_, 1) → W p l e ({ frames := 6, cells := 0, slots := 0, locals := 166 } : Room) s m args below meth c H locs 0 0 Q (F0 m pc ls [])) ⟨va_A [oX3 t_h t_a t_taped t_length t_at t_kind t_start t_value t_fault t_place, arB G (t_a 0) 900 t_tape, oX1 p1_h p1_a p1_windows p1_washes p1_damp p1_heard p1_lines p1_hour p1_strings, arI G (p1_a 7) 12 p1_cans, arI G (p1_a 8) 8 p1_washPairs, arI G (p1_a 9) 8 p1_washHours, arI G (p1_a 10) 21 p1_pairs, arI G (p1_a 11) 21 p1_knots] s.heap.size, hD0.self (sz := s.heap.size), va_S.rf, fun q h => Or.inr h, hE0, ?_⟩ ?_
  · intro n_t_at n_t_kind n_t_start n_t_value n_t_fault n_t_place n_p1_windows n_p1_washes n_p1_damp n_p1_heard n_p1_strings n_p1_cans n_p1_washPairs n_p1_washHours n_p1_pairs n_p1_knots H locs pc ls h hP hS hd
    cases h
    exact retWV hx hb hr hlk hS hP hd
  rintro Q ⟨A, hD, hS, hA, hE, hRet⟩
  change W p l e ({ frames := 6, cells := 0, slots := 0, locals := 166 } : Room) s m args below meth c _ _ 0 0 Q _
  unfold fX3_readLine at hf
  refine lv_aload_n hx hb dX3_readLine_0 rfl (lv_at hl 0 rfl) ?_
  refine va_ldcS hx hb hown (hE.2.1 0 (RX3, 55, "windows") rfl) dX3_readLine_1 ?_
  obtain ⟨r_1, hc_2, hf⟩ := bd1_in hf
  refine rcI (va_runV (As := [.ref (ad 0)]) (rest := []) ⟨hx, hb, hml, hown, hw⟩ ((ctX3_isWord l G ad av t_h t_a t_tape t_taped t_length t_at t_kind t_start t_value t_fault t_place 0 (by decide) _ hc_2) _) (kV hw calX3_isWord kw_8_13 rfl rfl ⟨Nat.le_of_ble_eq_true rfl, Nat.le_of_ble_eq_true rfl⟩) (rsV (hP.sub (ws' := [oX3 t_h t_a t_taped t_length t_at t_kind t_start t_value t_fault t_place, arB G (t_a 0) 900 t_tape]) [0, 1] rfl) hE hS hA hK (ci := 3) (q0 := 0) rfl rfl) rfl rfl hl.1 rfl (lv_room (Nat.le_of_ble_eq_true rfl)) dX3_readLine_3 ⟨Nat.zero_le _, Nat.zero_le _⟩) hS hA hP (fun H locs hP hS => ?_)
  refine lv_istore_n (lv' := [(2, .int r_1), (0, .ref t_h), (1, .ref p1_h)]) hx hb dX3_readLine_6 rfl hl (by decide) rfl (fun ls hl => ?_)
  refine lv_iload_n hx hb dX3_readLine_7 rfl (lv_at hl 0 rfl) ?_
  refine jn_el hf (fun k_3 ek_3 hf => ?_)
  have J26 : ∀  (H : Heap) (locs : List Loc) (ls : Array Slot), va_P G.1 vwCl [oX3 t_h t_a t_taped t_length t_at t_kind t_start t_value t_fault t_place, arB G (t_a 0) 900 t_tape, oX1 p1_h p1_a p1_windows p1_washes p1_damp p1_heard p1_lines p1_hour p1_strings, arI G (p1_a 7) 12 p1_cans, arI G (p1_a 8) 8 p1_washPairs, arI G (p1_a 9) 8 p1_washHours, arI G (p1_a 10) 21 p1_pairs, arI G (p1_a 11) 21 p1_knots] H → va_D A [oX3 t_h t_a t_taped t_length t_at t_kind t_start t_value t_fault t_place, arB G (t_a 0) 900 t_tape, oX1 p1_h p1_a p1_windows p1_washes p1_damp p1_heard p1_lines p1_hour p1_strings, arI G (p1_a 7) 12 p1_cans, arI G (p1_a 8) 8 p1_washPairs, arI G (p1_a 9) 8 p1_washHours, arI G (p1_a 10) 21 p1_pairs, arI G (p1_a 11) 21 p1_knots] → va_S A s.heap H locs → lv_has ls 3 [(0, .ref t_h), (1, .ref p1_h), (2, .int r_1)] → k_3 = some (o_t_at, o_t_kind, o_t_start, o_t_value, o_t_fault, o_t_place, o_p1_windows, o_p1_washes, o_p1_damp, o_p1_heard, o_p1_strings, o_p1_cans, o_p1_washPairs, o_p1_washHours, o_p1_pairs, o_p1_knots) → W p l e ({ frames := 6, cells := 0, slots := 0, locals := 166 } : Room) s m args below meth c H locs 0 0 Q (F0 m 26 ls []) := by
    intro  H locs ls hP hD hS hl hf
    rw [ek_3] at hf
    refine lv_iload_n hx hb dX3_readLine_26 rfl (lv_at hl 2 rfl) ?_
    refine lv_if_eq (tgt := 38) hx hb dX3_readLine_27 (by decide) (fun c_4 => ?_) (fun c_4 => ?_)
    · have hf := ip c_4 hf
      refine lv_aload_n hx hb dX3_readLine_38 rfl (lv_at hl 1 rfl) ?_
      refine va_getN (D := G.1) (ci := 1) (v := .int p1_windows) (C := RX1) (T := TX1) (N := 12) hx hb hw inW1 hown hK.1 hP 2 rfl rfl 0 (by decide) ((nf_5 hK.2).use rfl) (fun _ h9 => h9) rfl dX3_readLine_39 ?_
      refine lv_if_ne (tgt := 53) hx hb dX3_readLine_42 (by decide) (fun c_5 => ?_) (fun c_5 => ?_)
      · have hf := iq c_5 hf
        refine lv_aload_n hx hb dX3_readLine_53 rfl (lv_at hl 0 rfl) ?_
        refine va_ldcS hx hb hown (hE.2.1 1 (RX3, 70, "cans") rfl) dX3_readLine_54 ?_
        obtain ⟨r_6, hc_7, hf⟩ := bd1_in hf
        refine rcI (va_runV (As := [.ref (ad 1)]) (rest := []) ⟨hx, hb, hml, hown, hw⟩ ((ctX3_isWord l G ad av t_h t_a t_tape t_taped t_length t_at t_kind t_start t_value t_fault t_place 1 (by decide) _ hc_7) _) (kV hw calX3_isWord kw_8_13 rfl rfl ⟨Nat.le_of_ble_eq_true rfl, Nat.le_of_ble_eq_true rfl⟩) (rsV (hP.sub (ws' := [oX3 t_h t_a t_taped t_length t_at t_kind t_start t_value t_fault t_place, arB G (t_a 0) 900 t_tape]) [0, 1] rfl) hE hS hA hK (ci := 3) (q0 := 0) rfl rfl) rfl rfl hl.1 rfl (lv_room (Nat.le_of_ble_eq_true rfl)) dX3_readLine_56 ⟨Nat.zero_le _, Nat.zero_le _⟩) hS hA hP (fun H locs hP hS => ?_)
        refine lv_if_eq (tgt := 70) hx hb dX3_readLine_59 (by decide) (fun c_8 => ?_) (fun c_8 => ?_)
        · have hf := ip c_8 hf
          refine lv_aload_n hx hb dX3_readLine_70 rfl (lv_at hl 0 rfl) ?_
          refine va_ldcS hx hb hown (hE.2.1 2 (RX3, 75, "wash") rfl) dX3_readLine_71 ?_
          obtain ⟨r_9, hc_10, hf⟩ := bd1_in hf
          refine rcI (va_runV (As := [.ref (ad 2)]) (rest := []) ⟨hx, hb, hml, hown, hw⟩ ((ctX3_isWord l G ad av t_h t_a t_tape t_taped t_length t_at t_kind t_start t_value t_fault t_place 2 (by decide) _ hc_10) _) (kV hw calX3_isWord kw_8_13 rfl rfl ⟨Nat.le_of_ble_eq_true rfl, Nat.le_of_ble_eq_true rfl⟩) (rsV (hP.sub (ws' := [oX3 t_h t_a t_taped t_length t_at t_kind t_start t_value t_fault t_place, arB G (t_a 0) 900 t_tape]) [0, 1] rfl) hE hS hA hK (ci := 3) (q0 := 0) rfl rfl) rfl rfl hl.1 rfl (lv_room (Nat.le_of_ble_eq_true rfl)) dX3_readLine_73 ⟨Nat.zero_le _, Nat.zero_le _⟩) hS hA hP (fun H locs hP hS => ?_)
          refine lv_if_eq (tgt := 87) hx hb dX3_readLine_76 (by decide) (fun c_11 => ?_) (fun c_11 => ?_)
          · have hf := ip c_11 hf
            refine lv_aload_n hx hb dX3_readLine_87 rfl (lv_at hl 0 rfl) ?_
            refine va_ldcS hx hb hown (hE.2.1 3 (RX3, 80, "damp") rfl) dX3_readLine_88 ?_
            obtain ⟨r_12, hc_13, hf⟩ := bd1_in hf
            refine rcI (va_runV (As := [.ref (ad 3)]) (rest := []) ⟨hx, hb, hml, hown, hw⟩ ((ctX3_isWord l G ad av t_h t_a t_tape t_taped t_length t_at t_kind t_start t_value t_fault t_place 3 (by decide) _ hc_13) _) (kV hw calX3_isWord kw_8_13 rfl rfl ⟨Nat.le_of_ble_eq_true rfl, Nat.le_of_ble_eq_true rfl⟩) (rsV (hP.sub (ws' := [oX3 t_h t_a t_taped t_length t_at t_kind t_start t_value t_fault t_place, arB G (t_a 0) 900 t_tape]) [0, 1] rfl) hE hS hA hK (ci := 3) (q0 := 0) rfl rfl) rfl rfl hl.1 rfl (lv_room (Nat.le_of_ble_eq_true rfl)) dX3_readLine_90 ⟨Nat.zero_le _, Nat.zero_le _⟩) hS hA hP (fun H locs hP hS => ?_)
            refine lv_if_eq (tgt := 114) hx hb dX3_readLine_93 (by decide) (fun c_14 => ?_) (fun c_14 => ?_)
            · have hf := ip c_14 hf
              refine lv_aload_n hx hb dX3_readLine_114 rfl (lv_at hl 0 rfl) ?_
              refine va_ldcS hx hb hown (hE.2.1 4 (RX3, 90, "heard") rfl) dX3_readLine_115 ?_
              obtain ⟨r_15, hc_16, hf⟩ := bd1_in hf
              refine rcI (va_runV (As := [.ref (ad 4)]) (rest := []) ⟨hx, hb, hml, hown, hw⟩ ((ctX3_isWord l G ad av t_h t_a t_tape t_taped t_length t_at t_kind t_start t_value t_fault t_place 4 (by decide) _ hc_16) _) (kV hw calX3_isWord kw_8_13 rfl rfl ⟨Nat.le_of_ble_eq_true rfl, Nat.le_of_ble_eq_true rfl⟩) (rsV (hP.sub (ws' := [oX3 t_h t_a t_taped t_length t_at t_kind t_start t_value t_fault t_place, arB G (t_a 0) 900 t_tape]) [0, 1] rfl) hE hS hA hK (ci := 3) (q0 := 0) rfl rfl) rfl rfl hl.1 rfl (lv_room (Nat.le_of_ble_eq_true rfl)) dX3_readLine_117 ⟨Nat.zero_le _, Nat.zero_le _⟩) hS hA hP (fun H locs hP hS => ?_)
              refine lv_if_eq (tgt := 142) hx hb dX3_readLine_120 (by decide) (fun c_17 => ?_) (fun c_17 => ?_)
              · have hf := ip c_17 hf
                refine lv_aload_n hx hb dX3_readLine_142 rfl (lv_at hl 0 rfl) ?_
                refine va_ldcS hx hb hown (hE.2.1 5 (RX3, 94, "string") rfl) dX3_readLine_143 ?_
                obtain ⟨r_18, hc_19, hf⟩ := bd1_in hf
                refine rcI (va_runV (As := [.ref (ad 5)]) (rest := []) ⟨hx, hb, hml, hown, hw⟩ ((ctX3_isWord l G ad av t_h t_a t_tape t_taped t_length t_at t_kind t_start t_value t_fault t_place 5 (by decide) _ hc_19) _) (kV hw calX3_isWord kw_8_13 rfl rfl ⟨Nat.le_of_ble_eq_true rfl, Nat.le_of_ble_eq_true rfl⟩) (rsV (hP.sub (ws' := [oX3 t_h t_a t_taped t_length t_at t_kind t_start t_value t_fault t_place, arB G (t_a 0) 900 t_tape]) [0, 1] rfl) hE hS hA hK (ci := 3) (q0 := 0) rfl rfl) rfl rfl hl.1 rfl (lv_room (Nat.le_of_ble_eq_true rfl)) dX3_readLine_145 ⟨Nat.zero_le _, Nat.zero_le _⟩) hS hA hP (fun H locs hP hS => ?_)
                refine lv_if_eq (tgt := 159) hx hb dX3_readLine_148 (by decide) (fun c_20 => ?_) (fun c_20 => ?_)
                · have hf := ip c_20 hf
                  refine lv_aload_n hx hb dX3_readLine_159 rfl (lv_at hl 0 rfl) ?_
                  refine lv_iconst (v := 2) hx hb dX3_readLine_160 (by decide) ?_
                  obtain ⟨t_fault_21, t_place_22, hc_23, hf⟩ := bd2_in hf
                  refine wcV (w1 := [oX3 t_h t_a t_taped t_length t_at t_kind t_start t_value t_fault_21 t_place_22]) (va_runV (As := [.int 2]) (rest := []) ⟨hx, hb, hml, hown, hw⟩ ((ctX3_refuse l G t_h t_a t_taped t_length t_at t_kind t_start t_value t_fault t_place 2 _ _ hc_23) _) (kV hw calX3_refuse kw_8_1 rfl rfl ⟨Nat.le_of_ble_eq_true rfl, Nat.le_of_ble_eq_true rfl⟩) (wpV (hP.sub (ws' := [oX3 t_h t_a t_taped t_length t_at t_kind t_start t_value t_fault t_place]) [0] rfl) (hD.sub (ws' := [oX3 t_h t_a t_taped t_length t_at t_kind t_start t_value t_fault t_place]) [0] (by decide) rfl) hK (ci := 3) (q0 := 0) rfl rfl) rfl rfl hl.1 rfl (lv_room (Nat.le_of_ble_eq_true rfl)) dX3_readLine_161 ⟨Nat.zero_le _, Nat.zero_le _⟩) hS hA hP hD [0] rfl rfl (fun H locs hP hD hS => ?_)
                  have hP : va_P G.1 vwCl [oX3 t_h t_a t_taped t_length t_at t_kind t_start t_value t_fault_21 t_place_22, arB G (t_a 0) 900 t_tape, oX1 p1_h p1_a p1_windows p1_washes p1_damp p1_heard p1_lines p1_hour p1_strings, arI G (p1_a 7) 12 p1_cans, arI G (p1_a 8) 8 p1_washPairs, arI G (p1_a 9) 8 p1_washHours, arI G (p1_a 10) 21 p1_pairs, arI G (p1_a 11) 21 p1_knots] H := hP
                  have hD : va_D A [oX3 t_h t_a t_taped t_length t_at t_kind t_start t_value t_fault_21 t_place_22, arB G (t_a 0) 900 t_tape, oX1 p1_h p1_a p1_windows p1_washes p1_damp p1_heard p1_lines p1_hour p1_strings, arI G (p1_a 7) 12 p1_cans, arI G (p1_a 8) 8 p1_washPairs, arI G (p1_a 9) 8 p1_washHours, arI G (p1_a 10) 21 p1_pairs, arI G (p1_a 11) 21 p1_knots] := hD
                  exact hRet _ _ _ _ _ _ _ _ _ _ _ _ _ _ _ _ _ _ _ _ hf hP hS dX3_readLine_164
                · have hf := iq c_20 hf
                  refine lv_aload_n hx hb dX3_readLine_151 rfl (lv_at hl 0 rfl) ?_
                  refine lv_aload_n hx hb dX3_readLine_152 rfl (lv_at hl 1 rfl) ?_
                  obtain ⟨t_at_24, t_kind_25, t_start_26, t_value_27, t_fault_28, t_place_29, p1_strings_30, p1_pairs_31, p1_knots_32, hc_33, hf⟩ := bd9_in hf
                  refine wcV (w1 := [oX3 t_h t_a t_taped t_length t_at_24 t_kind_25 t_start_26 t_value_27 t_fault_28 t_place_29, arB G (t_a 0) 900 t_tape, oX1 p1_h p1_a p1_windows p1_washes p1_damp p1_heard p1_lines p1_hour p1_strings_30, arI G (p1_a 7) 12 p1_cans, arI G (p1_a 10) 21 p1_pairs_31, arI G (p1_a 11) 21 p1_knots_32]) (va_runV (As := [.ref p1_h]) (rest := []) ⟨hx, hb, hml, hown, hw⟩ ((ctX3_readString l G ad av t_h t_a p1_h p1_a t_tape t_taped t_length t_at t_kind t_start t_value t_fault t_place p1_windows p1_washes p1_damp p1_heard p1_lines p1_hour p1_strings p1_cans p1_pairs p1_knots _ _ _ _ _ _ _ _ _ hc_33) _) (kV hw calX3_readString kw_12_7 rfl rfl ⟨Nat.le_of_ble_eq_true rfl, Nat.le_of_ble_eq_true rfl⟩) (wsPV (hP.sub (ws' := [oX3 t_h t_a t_taped t_length t_at t_kind t_start t_value t_fault t_place, arB G (t_a 0) 900 t_tape, oX1 p1_h p1_a p1_windows p1_washes p1_damp p1_heard p1_lines p1_hour p1_strings, arI G (p1_a 7) 12 p1_cans, arI G (p1_a 10) 21 p1_pairs, arI G (p1_a 11) 21 p1_knots]) [0, 1, 2, 3, 6, 7] rfl) (hD.sub (ws' := [oX3 t_h t_a t_taped t_length t_at t_kind t_start t_value t_fault t_place, arB G (t_a 0) 900 t_tape, oX1 p1_h p1_a p1_windows p1_washes p1_damp p1_heard p1_lines p1_hour p1_strings, arI G (p1_a 7) 12 p1_cans, arI G (p1_a 10) 21 p1_pairs, arI G (p1_a 11) 21 p1_knots]) [0, 1, 2, 3, 6, 7] (by decide) rfl) hE hS (va_free (wc := [oX3 t_h t_a t_taped t_length t_at t_kind t_start t_value t_fault t_place, arB G (t_a 0) 900 t_tape, oX1 p1_h p1_a p1_windows p1_washes p1_damp p1_heard p1_lines p1_hour p1_strings, arI G (p1_a 7) 12 p1_cans, arI G (p1_a 10) 21 p1_pairs, arI G (p1_a 11) 21 p1_knots]) hD hS hA [0, 1, 2, 3, 6, 7] rfl) hK (ci := 3) (q0 := 0) rfl rfl) rfl rfl hl.1 rfl (lv_room (Nat.le_of_ble_eq_true rfl)) dX3_readLine_153 ⟨Nat.zero_le _, Nat.zero_le _⟩) hS hA hP hD [0, 1, 2, 3, 6, 7] rfl rfl (fun H locs hP hD hS => ?_)
                  have hP : va_P G.1 vwCl [oX3 t_h t_a t_taped t_length t_at_24 t_kind_25 t_start_26 t_value_27 t_fault_28 t_place_29, arB G (t_a 0) 900 t_tape, oX1 p1_h p1_a p1_windows p1_washes p1_damp p1_heard p1_lines p1_hour p1_strings_30, arI G (p1_a 7) 12 p1_cans, arI G (p1_a 8) 8 p1_washPairs, arI G (p1_a 9) 8 p1_washHours, arI G (p1_a 10) 21 p1_pairs_31, arI G (p1_a 11) 21 p1_knots_32] H := hP
                  have hD : va_D A [oX3 t_h t_a t_taped t_length t_at_24 t_kind_25 t_start_26 t_value_27 t_fault_28 t_place_29, arB G (t_a 0) 900 t_tape, oX1 p1_h p1_a p1_windows p1_washes p1_damp p1_heard p1_lines p1_hour p1_strings_30, arI G (p1_a 7) 12 p1_cans, arI G (p1_a 8) 8 p1_washPairs, arI G (p1_a 9) 8 p1_washHours, arI G (p1_a 10) 21 p1_pairs_31, arI G (p1_a 11) 21 p1_knots_32] := hD
                  refine lv_goto (tgt := 164) hx hb dX3_readLine_156 (by decide) ?_
                  exact hRet _ _ _ _ _ _ _ _ _ _ _ _ _ _ _ _ _ _ _ _ hf hP hS dX3_readLine_164
              · have hf := iq c_17 hf
                refine lv_aload_n hx hb dX3_readLine_123 rfl (lv_at hl 1 rfl) ?_
                refine lv_aload_n hx hb dX3_readLine_124 rfl (lv_at hl 0 rfl) ?_
                refine lv_iconst (v := 1) hx hb dX3_readLine_125 (by decide) ?_
                refine lv_sipush (v := 999) hx hb dX3_readLine_126 (by decide) ?_
                obtain ⟨r_40, t_at_34, t_kind_35, t_start_36, t_value_37, t_fault_38, t_place_39, hc_41, hf⟩ := bd7_in hf
                refine wcI (w1 := [oX3 t_h t_a t_taped t_length t_at_34 t_kind_35 t_start_36 t_value_37 t_fault_38 t_place_39, arB G (t_a 0) 900 t_tape]) (va_runV (As := [.int 1, .int 999]) (rest := [.ref p1_h]) ⟨hx, hb, hml, hown, hw⟩ ((ctX3_readNumber l G t_h t_a t_tape t_taped t_length t_at t_kind t_start t_value t_fault t_place 1 999 _ _ _ _ _ _ _ hc_41) _) (kV hw calX3_readNumber kw_10_22 rfl rfl ⟨Nat.le_of_ble_eq_true rfl, Nat.le_of_ble_eq_true rfl⟩) (wpV (hP.sub (ws' := [oX3 t_h t_a t_taped t_length t_at t_kind t_start t_value t_fault t_place, arB G (t_a 0) 900 t_tape]) [0, 1] rfl) (hD.sub (ws' := [oX3 t_h t_a t_taped t_length t_at t_kind t_start t_value t_fault t_place, arB G (t_a 0) 900 t_tape]) [0, 1] (by decide) rfl) hK (ci := 3) (q0 := 0) rfl rfl) rfl rfl hl.1 rfl (lv_room (Nat.le_of_ble_eq_true rfl)) dX3_readLine_129 ⟨Nat.zero_le _, Nat.zero_le _⟩) hS hA hP hD [0, 1] rfl rfl (fun H locs hP hD hS => ?_)
                have hP : va_P G.1 vwCl [oX3 t_h t_a t_taped t_length t_at_34 t_kind_35 t_start_36 t_value_37 t_fault_38 t_place_39, arB G (t_a 0) 900 t_tape, oX1 p1_h p1_a p1_windows p1_washes p1_damp p1_heard p1_lines p1_hour p1_strings, arI G (p1_a 7) 12 p1_cans, arI G (p1_a 8) 8 p1_washPairs, arI G (p1_a 9) 8 p1_washHours, arI G (p1_a 10) 21 p1_pairs, arI G (p1_a 11) 21 p1_knots] H := hP
                have hD : va_D A [oX3 t_h t_a t_taped t_length t_at_34 t_kind_35 t_start_36 t_value_37 t_fault_38 t_place_39, arB G (t_a 0) 900 t_tape, oX1 p1_h p1_a p1_windows p1_washes p1_damp p1_heard p1_lines p1_hour p1_strings, arI G (p1_a 7) 12 p1_cans, arI G (p1_a 8) 8 p1_washPairs, arI G (p1_a 9) 8 p1_washHours, arI G (p1_a 10) 21 p1_pairs, arI G (p1_a 11) 21 p1_knots] := hD
                refine va_putN (D := G.1) (ci := 1) (v := .int r_40) (ty := .int) (C := RX1) (T := TX1) (N := 12) hx hb hw inW1 tyX1 tyX1_ok nmX1 hown hK.1 hP hD hS 2 rfl rfl 3 (by decide) ((nf_12 hK.2).use rfl) (fun _ h9 => h9) rfl (by decide +kernel) rfl rfl (Nat.le_of_ble_eq_true rfl) dX3_readLine_132 (fun H locs hP hD hS => ?_)
                have hP : va_P G.1 vwCl [oX3 t_h t_a t_taped t_length t_at_34 t_kind_35 t_start_36 t_value_37 t_fault_38 t_place_39, arB G (t_a 0) 900 t_tape, oX1 p1_h p1_a p1_windows p1_washes p1_damp r_40 p1_lines p1_hour p1_strings, arI G (p1_a 7) 12 p1_cans, arI G (p1_a 8) 8 p1_washPairs, arI G (p1_a 9) 8 p1_washHours, arI G (p1_a 10) 21 p1_pairs, arI G (p1_a 11) 21 p1_knots] H := hP
                have hD : va_D A [oX3 t_h t_a t_taped t_length t_at_34 t_kind_35 t_start_36 t_value_37 t_fault_38 t_place_39, arB G (t_a 0) 900 t_tape, oX1 p1_h p1_a p1_windows p1_washes p1_damp r_40 p1_lines p1_hour p1_strings, arI G (p1_a 7) 12 p1_cans, arI G (p1_a 8) 8 p1_washPairs, arI G (p1_a 9) 8 p1_washHours, arI G (p1_a 10) 21 p1_pairs, arI G (p1_a 11) 21 p1_knots] := hD
                refine lv_aload_n hx hb dX3_readLine_135 rfl (lv_at hl 0 rfl) ?_
                obtain ⟨t_at_42, t_kind_43, t_start_44, t_value_45, t_fault_46, t_place_47, hc_48, hf⟩ := bd6_in hf
                refine wcV (w1 := [oX3 t_h t_a t_taped t_length t_at_42 t_kind_43 t_start_44 t_value_45 t_fault_46 t_place_47, arB G (t_a 0) 900 t_tape]) (va_runV (As := []) (rest := []) ⟨hx, hb, hml, hown, hw⟩ ((ctX3_readSemicolon l G t_h t_a t_tape t_taped t_length t_at_34 t_kind_35 t_start_36 t_value_37 t_fault_38 t_place_39 _ _ _ _ _ _ hc_48) _) (kV hw calX3_readSemicolon kw_11_2 rfl rfl ⟨Nat.le_of_ble_eq_true rfl, Nat.le_of_ble_eq_true rfl⟩) (wpV (hP.sub (ws' := [oX3 t_h t_a t_taped t_length t_at_34 t_kind_35 t_start_36 t_value_37 t_fault_38 t_place_39, arB G (t_a 0) 900 t_tape]) [0, 1] rfl) (hD.sub (ws' := [oX3 t_h t_a t_taped t_length t_at_34 t_kind_35 t_start_36 t_value_37 t_fault_38 t_place_39, arB G (t_a 0) 900 t_tape]) [0, 1] (by decide) rfl) hK (ci := 3) (q0 := 0) rfl rfl) rfl rfl hl.1 rfl (lv_room (Nat.le_of_ble_eq_true rfl)) dX3_readLine_136 ⟨Nat.zero_le _, Nat.zero_le _⟩) hS hA hP hD [0, 1] rfl rfl (fun H locs hP hD hS => ?_)
                have hP : va_P G.1 vwCl [oX3 t_h t_a t_taped t_length t_at_42 t_kind_43 t_start_44 t_value_45 t_fault_46 t_place_47, arB G (t_a 0) 900 t_tape, oX1 p1_h p1_a p1_windows p1_washes p1_damp r_40 p1_lines p1_hour p1_strings, arI G (p1_a 7) 12 p1_cans, arI G (p1_a 8) 8 p1_washPairs, arI G (p1_a 9) 8 p1_washHours, arI G (p1_a 10) 21 p1_pairs, arI G (p1_a 11) 21 p1_knots] H := hP
                have hD : va_D A [oX3 t_h t_a t_taped t_length t_at_42 t_kind_43 t_start_44 t_value_45 t_fault_46 t_place_47, arB G (t_a 0) 900 t_tape, oX1 p1_h p1_a p1_windows p1_washes p1_damp r_40 p1_lines p1_hour p1_strings, arI G (p1_a 7) 12 p1_cans, arI G (p1_a 8) 8 p1_washPairs, arI G (p1_a 9) 8 p1_washHours, arI G (p1_a 10) 21 p1_pairs, arI G (p1_a 11) 21 p1_knots] := hD
                refine lv_goto (tgt := 164) hx hb dX3_readLine_139 (by decide) ?_
                exact hRet _ _ _ _ _ _ _ _ _ _ _ _ _ _ _ _ _ _ _ _ hf hP hS dX3_readLine_164
            · have hf := iq c_14 hf
              refine lv_aload_n hx hb dX3_readLine_96 rfl (lv_at hl 1 rfl) ?_
              refine lv_aload_n hx hb dX3_readLine_97 rfl (lv_at hl 0 rfl) ?_
              refine lv_iconst (v := 0) hx hb dX3_readLine_98 (by decide) ?_
              refine lv_bipush (v := 20) hx hb dX3_readLine_99 (by decide) ?_
              obtain ⟨r_55, t_at_49, t_kind_50, t_start_51, t_value_52, t_fault_53, t_place_54, hc_56, hf⟩ := bd7_in hf
              refine wcI (w1 := [oX3 t_h t_a t_taped t_length t_at_49 t_kind_50 t_start_51 t_value_52 t_fault_53 t_place_54, arB G (t_a 0) 900 t_tape]) (va_runV (As := [.int 0, .int 20]) (rest := [.ref p1_h]) ⟨hx, hb, hml, hown, hw⟩ ((ctX3_readNumber l G t_h t_a t_tape t_taped t_length t_at t_kind t_start t_value t_fault t_place 0 20 _ _ _ _ _ _ _ hc_56) _) (kV hw calX3_readNumber kw_10_22 rfl rfl ⟨Nat.le_of_ble_eq_true rfl, Nat.le_of_ble_eq_true rfl⟩) (wpV (hP.sub (ws' := [oX3 t_h t_a t_taped t_length t_at t_kind t_start t_value t_fault t_place, arB G (t_a 0) 900 t_tape]) [0, 1] rfl) (hD.sub (ws' := [oX3 t_h t_a t_taped t_length t_at t_kind t_start t_value t_fault t_place, arB G (t_a 0) 900 t_tape]) [0, 1] (by decide) rfl) hK (ci := 3) (q0 := 0) rfl rfl) rfl rfl hl.1 rfl (lv_room (Nat.le_of_ble_eq_true rfl)) dX3_readLine_101 ⟨Nat.zero_le _, Nat.zero_le _⟩) hS hA hP hD [0, 1] rfl rfl (fun H locs hP hD hS => ?_)
              have hP : va_P G.1 vwCl [oX3 t_h t_a t_taped t_length t_at_49 t_kind_50 t_start_51 t_value_52 t_fault_53 t_place_54, arB G (t_a 0) 900 t_tape, oX1 p1_h p1_a p1_windows p1_washes p1_damp p1_heard p1_lines p1_hour p1_strings, arI G (p1_a 7) 12 p1_cans, arI G (p1_a 8) 8 p1_washPairs, arI G (p1_a 9) 8 p1_washHours, arI G (p1_a 10) 21 p1_pairs, arI G (p1_a 11) 21 p1_knots] H := hP
              have hD : va_D A [oX3 t_h t_a t_taped t_length t_at_49 t_kind_50 t_start_51 t_value_52 t_fault_53 t_place_54, arB G (t_a 0) 900 t_tape, oX1 p1_h p1_a p1_windows p1_washes p1_damp p1_heard p1_lines p1_hour p1_strings, arI G (p1_a 7) 12 p1_cans, arI G (p1_a 8) 8 p1_washPairs, arI G (p1_a 9) 8 p1_washHours, arI G (p1_a 10) 21 p1_pairs, arI G (p1_a 11) 21 p1_knots] := hD
              refine va_putN (D := G.1) (ci := 1) (v := .int r_55) (ty := .int) (C := RX1) (T := TX1) (N := 12) hx hb hw inW1 tyX1 tyX1_ok nmX1 hown hK.1 hP hD hS 2 rfl rfl 2 (by decide) ((nf_9 hK.2).use rfl) (fun _ h9 => h9) rfl (by decide +kernel) rfl rfl (Nat.le_of_ble_eq_true rfl) dX3_readLine_104 (fun H locs hP hD hS => ?_)
              have hP : va_P G.1 vwCl [oX3 t_h t_a t_taped t_length t_at_49 t_kind_50 t_start_51 t_value_52 t_fault_53 t_place_54, arB G (t_a 0) 900 t_tape, oX1 p1_h p1_a p1_windows p1_washes r_55 p1_heard p1_lines p1_hour p1_strings, arI G (p1_a 7) 12 p1_cans, arI G (p1_a 8) 8 p1_washPairs, arI G (p1_a 9) 8 p1_washHours, arI G (p1_a 10) 21 p1_pairs, arI G (p1_a 11) 21 p1_knots] H := hP
              have hD : va_D A [oX3 t_h t_a t_taped t_length t_at_49 t_kind_50 t_start_51 t_value_52 t_fault_53 t_place_54, arB G (t_a 0) 900 t_tape, oX1 p1_h p1_a p1_windows p1_washes r_55 p1_heard p1_lines p1_hour p1_strings, arI G (p1_a 7) 12 p1_cans, arI G (p1_a 8) 8 p1_washPairs, arI G (p1_a 9) 8 p1_washHours, arI G (p1_a 10) 21 p1_pairs, arI G (p1_a 11) 21 p1_knots] := hD
              refine lv_aload_n hx hb dX3_readLine_107 rfl (lv_at hl 0 rfl) ?_
              obtain ⟨t_at_57, t_kind_58, t_start_59, t_value_60, t_fault_61, t_place_62, hc_63, hf⟩ := bd6_in hf
              refine wcV (w1 := [oX3 t_h t_a t_taped t_length t_at_57 t_kind_58 t_start_59 t_value_60 t_fault_61 t_place_62, arB G (t_a 0) 900 t_tape]) (va_runV (As := []) (rest := []) ⟨hx, hb, hml, hown, hw⟩ ((ctX3_readSemicolon l G t_h t_a t_tape t_taped t_length t_at_49 t_kind_50 t_start_51 t_value_52 t_fault_53 t_place_54 _ _ _ _ _ _ hc_63) _) (kV hw calX3_readSemicolon kw_11_2 rfl rfl ⟨Nat.le_of_ble_eq_true rfl, Nat.le_of_ble_eq_true rfl⟩) (wpV (hP.sub (ws' := [oX3 t_h t_a t_taped t_length t_at_49 t_kind_50 t_start_51 t_value_52 t_fault_53 t_place_54, arB G (t_a 0) 900 t_tape]) [0, 1] rfl) (hD.sub (ws' := [oX3 t_h t_a t_taped t_length t_at_49 t_kind_50 t_start_51 t_value_52 t_fault_53 t_place_54, arB G (t_a 0) 900 t_tape]) [0, 1] (by decide) rfl) hK (ci := 3) (q0 := 0) rfl rfl) rfl rfl hl.1 rfl (lv_room (Nat.le_of_ble_eq_true rfl)) dX3_readLine_108 ⟨Nat.zero_le _, Nat.zero_le _⟩) hS hA hP hD [0, 1] rfl rfl (fun H locs hP hD hS => ?_)
              have hP : va_P G.1 vwCl [oX3 t_h t_a t_taped t_length t_at_57 t_kind_58 t_start_59 t_value_60 t_fault_61 t_place_62, arB G (t_a 0) 900 t_tape, oX1 p1_h p1_a p1_windows p1_washes r_55 p1_heard p1_lines p1_hour p1_strings, arI G (p1_a 7) 12 p1_cans, arI G (p1_a 8) 8 p1_washPairs, arI G (p1_a 9) 8 p1_washHours, arI G (p1_a 10) 21 p1_pairs, arI G (p1_a 11) 21 p1_knots] H := hP
              have hD : va_D A [oX3 t_h t_a t_taped t_length t_at_57 t_kind_58 t_start_59 t_value_60 t_fault_61 t_place_62, arB G (t_a 0) 900 t_tape, oX1 p1_h p1_a p1_windows p1_washes r_55 p1_heard p1_lines p1_hour p1_strings, arI G (p1_a 7) 12 p1_cans, arI G (p1_a 8) 8 p1_washPairs, arI G (p1_a 9) 8 p1_washHours, arI G (p1_a 10) 21 p1_pairs, arI G (p1_a 11) 21 p1_knots] := hD
              refine lv_goto (tgt := 164) hx hb dX3_readLine_111 (by decide) ?_
              exact hRet _ _ _ _ _ _ _ _ _ _ _ _ _ _ _ _ _ _ _ _ hf hP hS dX3_readLine_164
          · have hf := iq c_11 hf
            refine lv_aload_n hx hb dX3_readLine_79 rfl (lv_at hl 0 rfl) ?_
            refine lv_aload_n hx hb dX3_readLine_80 rfl (lv_at hl 1 rfl) ?_
            obtain ⟨t_at_64, t_kind_65, t_start_66, t_value_67, t_fault_68, t_place_69, p1_washes_70, p1_washPairs_71, p1_washHours_72, hc_73, hf⟩ := bd9_in hf
            refine wcV (w1 := [oX3 t_h t_a t_taped t_length t_at_64 t_kind_65 t_start_66 t_value_67 t_fault_68 t_place_69, arB G (t_a 0) 900 t_tape, oX1 p1_h p1_a p1_windows p1_washes_70 p1_damp p1_heard p1_lines p1_hour p1_strings, arI G (p1_a 8) 8 p1_washPairs_71, arI G (p1_a 9) 8 p1_washHours_72]) (va_runV (As := [.ref p1_h]) (rest := []) ⟨hx, hb, hml, hown, hw⟩ ((ctX3_readWash l G t_h t_a p1_h p1_a t_tape t_taped t_length t_at t_kind t_start t_value t_fault t_place p1_windows p1_washes p1_damp p1_heard p1_lines p1_hour p1_strings p1_washPairs p1_washHours _ _ _ _ _ _ _ _ _ hc_73) _) (kV hw calX3_readWash kw_11_14 rfl rfl ⟨Nat.le_of_ble_eq_true rfl, Nat.le_of_ble_eq_true rfl⟩) (wpV (hP.sub (ws' := [oX3 t_h t_a t_taped t_length t_at t_kind t_start t_value t_fault t_place, arB G (t_a 0) 900 t_tape, oX1 p1_h p1_a p1_windows p1_washes p1_damp p1_heard p1_lines p1_hour p1_strings, arI G (p1_a 8) 8 p1_washPairs, arI G (p1_a 9) 8 p1_washHours]) [0, 1, 2, 4, 5] rfl) (hD.sub (ws' := [oX3 t_h t_a t_taped t_length t_at t_kind t_start t_value t_fault t_place, arB G (t_a 0) 900 t_tape, oX1 p1_h p1_a p1_windows p1_washes p1_damp p1_heard p1_lines p1_hour p1_strings, arI G (p1_a 8) 8 p1_washPairs, arI G (p1_a 9) 8 p1_washHours]) [0, 1, 2, 4, 5] (by decide) rfl) hK (ci := 3) (q0 := 0) rfl rfl) rfl rfl hl.1 rfl (lv_room (Nat.le_of_ble_eq_true rfl)) dX3_readLine_81 ⟨Nat.zero_le _, Nat.zero_le _⟩) hS hA hP hD [0, 1, 2, 4, 5] rfl rfl (fun H locs hP hD hS => ?_)
            have hP : va_P G.1 vwCl [oX3 t_h t_a t_taped t_length t_at_64 t_kind_65 t_start_66 t_value_67 t_fault_68 t_place_69, arB G (t_a 0) 900 t_tape, oX1 p1_h p1_a p1_windows p1_washes_70 p1_damp p1_heard p1_lines p1_hour p1_strings, arI G (p1_a 7) 12 p1_cans, arI G (p1_a 8) 8 p1_washPairs_71, arI G (p1_a 9) 8 p1_washHours_72, arI G (p1_a 10) 21 p1_pairs, arI G (p1_a 11) 21 p1_knots] H := hP
            have hD : va_D A [oX3 t_h t_a t_taped t_length t_at_64 t_kind_65 t_start_66 t_value_67 t_fault_68 t_place_69, arB G (t_a 0) 900 t_tape, oX1 p1_h p1_a p1_windows p1_washes_70 p1_damp p1_heard p1_lines p1_hour p1_strings, arI G (p1_a 7) 12 p1_cans, arI G (p1_a 8) 8 p1_washPairs_71, arI G (p1_a 9) 8 p1_washHours_72, arI G (p1_a 10) 21 p1_pairs, arI G (p1_a 11) 21 p1_knots] := hD
            refine lv_goto (tgt := 164) hx hb dX3_readLine_84 (by decide) ?_
            exact hRet _ _ _ _ _ _ _ _ _ _ _ _ _ _ _ _ _ _ _ _ hf hP hS dX3_readLine_164
        · have hf := iq c_8 hf
          refine lv_aload_n hx hb dX3_readLine_62 rfl (lv_at hl 0 rfl) ?_
          refine lv_aload_n hx hb dX3_readLine_63 rfl (lv_at hl 1 rfl) ?_
          obtain ⟨t_at_74, t_kind_75, t_start_76, t_value_77, t_fault_78, t_place_79, p1_cans_80, hc_81, hf⟩ := bd7_in hf
          refine wcV (w1 := [oX3 t_h t_a t_taped t_length t_at_74 t_kind_75 t_start_76 t_value_77 t_fault_78 t_place_79, arB G (t_a 0) 900 t_tape, oX1 p1_h p1_a p1_windows p1_washes p1_damp p1_heard p1_lines p1_hour p1_strings, arI G (p1_a 7) 12 p1_cans_80]) (va_runV (As := [.ref p1_h]) (rest := []) ⟨hx, hb, hml, hown, hw⟩ ((ctX3_readCans l G t_h t_a p1_h p1_a t_tape t_taped t_length t_at t_kind t_start t_value t_fault t_place p1_windows p1_washes p1_damp p1_heard p1_lines p1_hour p1_strings p1_cans _ _ _ _ _ _ _ hc_81) _) (kV hw calX3_readCans kw_11_10 rfl rfl ⟨Nat.le_of_ble_eq_true rfl, Nat.le_of_ble_eq_true rfl⟩) (wpV (hP.sub (ws' := [oX3 t_h t_a t_taped t_length t_at t_kind t_start t_value t_fault t_place, arB G (t_a 0) 900 t_tape, oX1 p1_h p1_a p1_windows p1_washes p1_damp p1_heard p1_lines p1_hour p1_strings, arI G (p1_a 7) 12 p1_cans]) [0, 1, 2, 3] rfl) (hD.sub (ws' := [oX3 t_h t_a t_taped t_length t_at t_kind t_start t_value t_fault t_place, arB G (t_a 0) 900 t_tape, oX1 p1_h p1_a p1_windows p1_washes p1_damp p1_heard p1_lines p1_hour p1_strings, arI G (p1_a 7) 12 p1_cans]) [0, 1, 2, 3] (by decide) rfl) hK (ci := 3) (q0 := 0) rfl rfl) rfl rfl hl.1 rfl (lv_room (Nat.le_of_ble_eq_true rfl)) dX3_readLine_64 ⟨Nat.zero_le _, Nat.zero_le _⟩) hS hA hP hD [0, 1, 2, 3] rfl rfl (fun H locs hP hD hS => ?_)
          have hP : va_P G.1 vwCl [oX3 t_h t_a t_taped t_length t_at_74 t_kind_75 t_start_76 t_value_77 t_fault_78 t_place_79, arB G (t_a 0) 900 t_tape, oX1 p1_h p1_a p1_windows p1_washes p1_damp p1_heard p1_lines p1_hour p1_strings, arI G (p1_a 7) 12 p1_cans_80, arI G (p1_a 8) 8 p1_washPairs, arI G (p1_a 9) 8 p1_washHours, arI G (p1_a 10) 21 p1_pairs, arI G (p1_a 11) 21 p1_knots] H := hP
          have hD : va_D A [oX3 t_h t_a t_taped t_length t_at_74 t_kind_75 t_start_76 t_value_77 t_fault_78 t_place_79, arB G (t_a 0) 900 t_tape, oX1 p1_h p1_a p1_windows p1_washes p1_damp p1_heard p1_lines p1_hour p1_strings, arI G (p1_a 7) 12 p1_cans_80, arI G (p1_a 8) 8 p1_washPairs, arI G (p1_a 9) 8 p1_washHours, arI G (p1_a 10) 21 p1_pairs, arI G (p1_a 11) 21 p1_knots] := hD
          refine lv_goto (tgt := 164) hx hb dX3_readLine_67 (by decide) ?_
          exact hRet _ _ _ _ _ _ _ _ _ _ _ _ _ _ _ _ _ _ _ _ hf hP hS dX3_readLine_164
      · have hf := ip c_5 hf
        refine lv_aload_n hx hb dX3_readLine_45 rfl (lv_at hl 0 rfl) ?_
        refine lv_iconst (v := 2) hx hb dX3_readLine_46 (by decide) ?_
        obtain ⟨t_fault_82, t_place_83, hc_84, hf⟩ := bd2_in hf
        refine wcV (w1 := [oX3 t_h t_a t_taped t_length t_at t_kind t_start t_value t_fault_82 t_place_83]) (va_runV (As := [.int 2]) (rest := []) ⟨hx, hb, hml, hown, hw⟩ ((ctX3_refuse l G t_h t_a t_taped t_length t_at t_kind t_start t_value t_fault t_place 2 _ _ hc_84) _) (kV hw calX3_refuse kw_8_1 rfl rfl ⟨Nat.le_of_ble_eq_true rfl, Nat.le_of_ble_eq_true rfl⟩) (wpV (hP.sub (ws' := [oX3 t_h t_a t_taped t_length t_at t_kind t_start t_value t_fault t_place]) [0] rfl) (hD.sub (ws' := [oX3 t_h t_a t_taped t_length t_at t_kind t_start t_value t_fault t_place]) [0] (by decide) rfl) hK (ci := 3) (q0 := 0) rfl rfl) rfl rfl hl.1 rfl (lv_room (Nat.le_of_ble_eq_true rfl)) dX3_readLine_47 ⟨Nat.zero_le _, Nat.zero_le _⟩) hS hA hP hD [0] rfl rfl (fun H locs hP hD hS => ?_)
        have hP : va_P G.1 vwCl [oX3 t_h t_a t_taped t_length t_at t_kind t_start t_value t_fault_82 t_place_83, arB G (t_a 0) 900 t_tape, oX1 p1_h p1_a p1_windows p1_washes p1_damp p1_heard p1_lines p1_hour p1_strings, arI G (p1_a 7) 12 p1_cans, arI G (p1_a 8) 8 p1_washPairs, arI G (p1_a 9) 8 p1_washHours, arI G (p1_a 10) 21 p1_pairs, arI G (p1_a 11) 21 p1_knots] H := hP
        have hD : va_D A [oX3 t_h t_a t_taped t_length t_at t_kind t_start t_value t_fault_82 t_place_83, arB G (t_a 0) 900 t_tape, oX1 p1_h p1_a p1_windows p1_washes p1_damp p1_heard p1_lines p1_hour p1_strings, arI G (p1_a 7) 12 p1_cans, arI G (p1_a 8) 8 p1_washPairs, arI G (p1_a 9) 8 p1_washHours, arI G (p1_a 10) 21 p1_pairs, arI G (p1_a 11) 21 p1_knots] := hD
        refine lv_goto (tgt := 164) hx hb dX3_readLine_50 (by decide) ?_
        exact hRet _ _ _ _ _ _ _ _ _ _ _ _ _ _ _ _ _ _ _ _ hf hP hS dX3_readLine_164
    · have hf := iq c_4 hf
      refine lv_aload_n hx hb dX3_readLine_30 rfl (lv_at hl 0 rfl) ?_
      refine lv_aload_n hx hb dX3_readLine_31 rfl (lv_at hl 1 rfl) ?_
      obtain ⟨t_at_85, t_kind_86, t_start_87, t_value_88, t_fault_89, t_place_90, p1_windows_91, hc_92, hf⟩ := bd7_in hf
      refine wcV (w1 := [oX3 t_h t_a t_taped t_length t_at_85 t_kind_86 t_start_87 t_value_88 t_fault_89 t_place_90, arB G (t_a 0) 900 t_tape, oX1 p1_h p1_a p1_windows_91 p1_washes p1_damp p1_heard p1_lines p1_hour p1_strings]) (va_runV (As := [.ref p1_h]) (rest := []) ⟨hx, hb, hml, hown, hw⟩ ((ctX3_readWindows l G t_h t_a p1_h p1_a t_tape t_taped t_length t_at t_kind t_start t_value t_fault t_place p1_windows p1_washes p1_damp p1_heard p1_lines p1_hour p1_strings _ _ _ _ _ _ _ hc_92) _) (kV hw calX3_readWindows kw_10_18 rfl rfl ⟨Nat.le_of_ble_eq_true rfl, Nat.le_of_ble_eq_true rfl⟩) (wpV (hP.sub (ws' := [oX3 t_h t_a t_taped t_length t_at t_kind t_start t_value t_fault t_place, arB G (t_a 0) 900 t_tape, oX1 p1_h p1_a p1_windows p1_washes p1_damp p1_heard p1_lines p1_hour p1_strings]) [0, 1, 2] rfl) (hD.sub (ws' := [oX3 t_h t_a t_taped t_length t_at t_kind t_start t_value t_fault t_place, arB G (t_a 0) 900 t_tape, oX1 p1_h p1_a p1_windows p1_washes p1_damp p1_heard p1_lines p1_hour p1_strings]) [0, 1, 2] (by decide) rfl) hK (ci := 3) (q0 := 0) rfl rfl) rfl rfl hl.1 rfl (lv_room (Nat.le_of_ble_eq_true rfl)) dX3_readLine_32 ⟨Nat.zero_le _, Nat.zero_le _⟩) hS hA hP hD [0, 1, 2] rfl rfl (fun H locs hP hD hS => ?_)
      have hP : va_P G.1 vwCl [oX3 t_h t_a t_taped t_length t_at_85 t_kind_86 t_start_87 t_value_88 t_fault_89 t_place_90, arB G (t_a 0) 900 t_tape, oX1 p1_h p1_a p1_windows_91 p1_washes p1_damp p1_heard p1_lines p1_hour p1_strings, arI G (p1_a 7) 12 p1_cans, arI G (p1_a 8) 8 p1_washPairs, arI G (p1_a 9) 8 p1_washHours, arI G (p1_a 10) 21 p1_pairs, arI G (p1_a 11) 21 p1_knots] H := hP
      have hD : va_D A [oX3 t_h t_a t_taped t_length t_at_85 t_kind_86 t_start_87 t_value_88 t_fault_89 t_place_90, arB G (t_a 0) 900 t_tape, oX1 p1_h p1_a p1_windows_91 p1_washes p1_damp p1_heard p1_lines p1_hour p1_strings, arI G (p1_a 7) 12 p1_cans, arI G (p1_a 8) 8 p1_washPairs, arI G (p1_a 9) 8 p1_washHours, arI G (p1_a 10) 21 p1_pairs, arI G (p1_a 11) 21 p1_knots] := hD
      refine lv_goto (tgt := 164) hx hb dX3_readLine_35 (by decide) ?_
      exact hRet _ _ _ _ _ _ _ _ _ _ _ _ _ _ _ _ _ _ _ _ hf hP hS dX3_readLine_164
  refine lv_if_eq (tgt := 26) hx hb dX3_readLine_8 (by decide) (fun c_93 => ?_) (fun c_93 => ?_)
  · have hf := ip c_93 hf
    exact J26  _ _ _ hP hD hS (lv_sub hl [1, 2, 0] rfl) hf
  · have hf := iq c_93 hf
    refine lv_aload_n hx hb dX3_readLine_11 rfl (lv_at hl 2 rfl) ?_
    refine va_getN (D := G.1) (ci := 1) (v := .int p1_windows) (C := RX1) (T := TX1) (N := 12) hx hb hw inW1 hown hK.1 hP 2 rfl rfl 0 (by decide) ((nf_5 hK.2).use rfl) (fun _ h9 => h9) rfl dX3_readLine_12 ?_
    refine lv_if_le (tgt := 26) hx hb dX3_readLine_15 (by decide) (fun c_94 => ?_) (fun c_94 => ?_)
    · have hf := ip c_94 hf
      exact J26  _ _ _ hP hD hS (lv_sub hl [1, 2, 0] rfl) hf
    · have hf := iq c_94 hf
      refine lv_aload_n hx hb dX3_readLine_18 rfl (lv_at hl 1 rfl) ?_
      refine lv_iconst (v := 4) hx hb dX3_readLine_19 (by decide) ?_
      obtain ⟨t_fault_95, t_place_96, hc_97, hf⟩ := bd2_in hf
      refine wcV (w1 := [oX3 t_h t_a t_taped t_length t_at t_kind t_start t_value t_fault_95 t_place_96]) (va_runV (As := [.int 4]) (rest := []) ⟨hx, hb, hml, hown, hw⟩ ((ctX3_refuse l G t_h t_a t_taped t_length t_at t_kind t_start t_value t_fault t_place 4 _ _ hc_97) _) (kV hw calX3_refuse kw_8_1 rfl rfl ⟨Nat.le_of_ble_eq_true rfl, Nat.le_of_ble_eq_true rfl⟩) (wpV (hP.sub (ws' := [oX3 t_h t_a t_taped t_length t_at t_kind t_start t_value t_fault t_place]) [0] rfl) (hD.sub (ws' := [oX3 t_h t_a t_taped t_length t_at t_kind t_start t_value t_fault t_place]) [0] (by decide) rfl) hK (ci := 3) (q0 := 0) rfl rfl) rfl rfl hl.1 rfl (lv_room (Nat.le_of_ble_eq_true rfl)) dX3_readLine_20 ⟨Nat.zero_le _, Nat.zero_le _⟩) hS hA hP hD [0] rfl rfl (fun H locs hP hD hS => ?_)
      have hP : va_P G.1 vwCl [oX3 t_h t_a t_taped t_length t_at t_kind t_start t_value t_fault_95 t_place_96, arB G (t_a 0) 900 t_tape, oX1 p1_h p1_a p1_windows p1_washes p1_damp p1_heard p1_lines p1_hour p1_strings, arI G (p1_a 7) 12 p1_cans, arI G (p1_a 8) 8 p1_washPairs, arI G (p1_a 9) 8 p1_washHours, arI G (p1_a 10) 21 p1_pairs, arI G (p1_a 11) 21 p1_knots] H := hP
      have hD : va_D A [oX3 t_h t_a t_taped t_length t_at t_kind t_start t_value t_fault_95 t_place_96, arB G (t_a 0) 900 t_tape, oX1 p1_h p1_a p1_windows p1_washes p1_damp p1_heard p1_lines p1_hour p1_strings, arI G (p1_a 7) 12 p1_cans, arI G (p1_a 8) 8 p1_washPairs, arI G (p1_a 9) 8 p1_washHours, arI G (p1_a 10) 21 p1_pairs, arI G (p1_a 11) 21 p1_knots] := hD
      refine lv_goto (tgt := 164) hx hb dX3_readLine_23 (by decide) ?_
      exact hRet _ _ _ _ _ _ _ _ _ _ _ _ _ _ _ _ _ _ _ _ hf hP hS dX3_readLine_164
theorem calX3_readTape : CalV yX3_readTape cX3_readTape 4 none 2 := ⟨⟨kw_7_6, kw_1_15, by decide +kernel⟩, kw_7_4, kw_7_5⟩
set_option maxHeartbeats 8000000 in
set_option maxRecDepth 100000 in
theorem ctX3_readTape (l : Launch) (G : GT) (ad : Nat → Nat) (av : Nat → Nat) (t_h : Nat) (t_a : Nat → Nat) (p1_h : Nat) (p1_a : Nat → Nat) (t_tape : Nat → Int32) (t_taped : Int32) (t_length : Int32) (t_at : Int32) (t_kind : Int32) (t_start : Int32) (t_value : Int32) (t_fault : Int32) (t_place : Int32) (p1_windows : Int32) (p1_washes : Int32) (p1_damp : Int32) (p1_heard : Int32) (p1_lines : Int32) (p1_hour : Int32) (p1_strings : Int32) (p1_cans : Nat → Int32) (p1_washPairs : Nat → Int32) (p1_washHours : Nat → Int32) (p1_pairs : Nat → Int32) (p1_knots : Nat → Int32) (v2 : Int32) (o_t_taped : Int32) (o_t_length : Int32) (o_t_at : Int32) (o_t_kind : Int32) (o_t_start : Int32) (o_t_value : Int32) (o_t_fault : Int32) (o_t_place : Int32) (o_p1_windows : Int32) (o_p1_washes : Int32) (o_p1_damp : Int32) (o_p1_heard : Int32) (o_p1_lines : Int32) (o_p1_hour : Int32) (o_p1_strings : Int32) (o_p1_cans : Nat → Int32) (o_p1_washPairs : Nat → Int32) (o_p1_washHours : Nat → Int32) (o_p1_pairs : Nat → Int32) (o_p1_knots : Nat → Int32) (hf : fX3_readTape t_tape t_taped t_length t_at t_kind t_start t_value t_fault t_place p1_windows p1_washes p1_damp p1_heard p1_lines p1_hour p1_strings p1_cans p1_washPairs p1_washHours p1_pairs p1_knots v2 = some (o_t_taped, o_t_length, o_t_at, o_t_kind, o_t_start, o_t_value, o_t_fault, o_t_place, o_p1_windows, o_p1_washes, o_p1_damp, o_p1_heard, o_p1_lines, o_p1_hour, o_p1_strings, o_p1_cans, o_p1_washPairs, o_p1_washHours, o_p1_pairs, o_p1_knots)) : WsV l yX3_readTape (Cond.code yX3_readTape cX3_readTape 4 none) { frames := 7, cells := 0, slots := 0, locals := 188 } G ad av [.ref t_h, .ref p1_h, .int v2] [oX3 t_h t_a t_taped t_length t_at t_kind t_start t_value t_fault t_place, arB G (t_a 0) 900 t_tape, oX1 p1_h p1_a p1_windows p1_washes p1_damp p1_heard p1_lines p1_hour p1_strings, arI G (p1_a 7) 12 p1_cans, arI G (p1_a 8) 8 p1_washPairs, arI G (p1_a 9) 8 p1_washHours, arI G (p1_a 10) 21 p1_pairs, arI G (p1_a 11) 21 p1_knots] [oX3 t_h t_a o_t_taped o_t_length o_t_at o_t_kind o_t_start o_t_value o_t_fault o_t_place, arB G (t_a 0) 900 t_tape, oX1 p1_h p1_a o_p1_windows o_p1_washes o_p1_damp o_p1_heard o_p1_lines o_p1_hour o_p1_strings, arI G (p1_a 7) 12 o_p1_cans, arI G (p1_a 8) 8 o_p1_washPairs, arI G (p1_a 9) 8 o_p1_washHours, arI G (p1_a 10) 21 o_p1_pairs, arI G (p1_a 11) 21 o_p1_knots] := by
  intro sz
  refine Met.ofW (cc := cX3_readTape) (maxL := 4) (ret := none) (by decide) rfl ?_
  intro p e s m args below meth c s₁ B hml hv
  obtain ⟨hargs, hsz, hP, hD0, hE0, hK⟩ := hv
  subst hsz
  obtain ⟨hx, hb, hr, hw, hown, hlk⟩ := fwB B
  refine fw_enter hargs (Nat.le_of_ble_eq_true rfl) (fun ls hl => ?_)
  have hl : lv_has ls 4 [(0, .ref t_h), (1, .ref p1_h), (2, .int v2)] := hl
  refine fw_Q (P := fun Q => ∃ A : Nat → Prop, va_D A [oX3 t_h t_a t_taped t_length t_at t_kind t_start t_value t_fault t_place, arB G (t_a 0) 900 t_tape, oX1 p1_h p1_a p1_windows p1_washes p1_damp p1_heard p1_lines p1_hour p1_strings, arI G (p1_a 7) 12 p1_cans, arI G (p1_a 8) 8 p1_washPairs, arI G (p1_a 9) 8 p1_washHours, arI G (p1_a 10) 21 p1_pairs, arI G (p1_a 11) 21 p1_knots] ∧ va_S A s.heap s.heap [] ∧ (∀ q, s.heap.size ≤ q → A q) ∧ SE ad av A s s.heap ∧ ∀ (n_t_taped : Int32) (n_t_length : Int32) (n_t_at : Int32) (n_t_kind : Int32) (n_t_start : Int32) (n_t_value : Int32) (n_t_fault : Int32) (n_t_place : Int32) (n_p1_windows : Int32) (n_p1_washes : Int32) (n_p1_damp : Int32) (n_p1_heard : Int32) (n_p1_lines : Int32) (n_p1_hour : Int32) (n_p1_strings : Int32) (n_p1_cans : Nat → Int32) (n_p1_washPairs : Nat → Int32) (n_p1_washHours : Nat → Int32) (n_p1_pairs : Nat → Int32) (n_p1_knots : Nat → Int32) (H : Heap) (locs : List Loc) (pc : Nat) (ls : Array Slot), some (n_t_taped, n_t_length, n_t_at, n_t_kind, n_t_start, n_t_value, n_t_fault, n_t_place, n_p1_windows, n_p1_washes, n_p1_damp, n_p1_heard, n_p1_lines, n_p1_hour, n_p1_strings, n_p1_cans, n_p1_washPairs, n_p1_washHours, n_p1_pairs, n_p1_knots) = some (o_t_taped, o_t_length, o_t_at, o_t_kind, o_t_start, o_t_value, o_t_fault, o_t_place, o_p1_windows, o_p1_washes, o_p1_damp, o_p1_heard, o_p1_lines, o_p1_hour, o_p1_strings, o_p1_cans, o_p1_washPairs, o_p1_washHours, o_p1_pairs, o_p1_knots) → va_P G.1 vwCl [oX3 t_h t_a n_t_taped n_t_length n_t_at n_t_kind n_t_start n_t_value n_t_fault n_t_place, arB G (t_a 0) 900 t_tape, oX1 p1_h p1_a n_p1_windows n_p1_washes n_p1_damp n_p1_heard n_p1_lines n_p1_hour n_p1_strings, arI G (p1_a 7) 12 n_p1_cans, arI G (p1_a 8) 8 n_p1_washPairs, arI G (p1_a 9) 8 n_p1_washHours, arI G (p1_a 10) 21 n_p1_pairs, arI G (p1_a 11) 21 n_p1_knots] H → va_S A s.heap H locs → decode cX3_readTape pc = .ok (.return_, 1) → W p l e ({ frames := 7, cells := 0, slots := 0, locals := 188 } : Room) s m args below meth c H locs 0 0 Q (F0 m pc ls [])) ⟨va_A [oX3 t_h t_a t_taped t_length t_at t_kind t_start t_value t_fault t_place, arB G (t_a 0) 900 t_tape, oX1 p1_h p1_a p1_windows p1_washes p1_damp p1_heard p1_lines p1_hour p1_strings, arI G (p1_a 7) 12 p1_cans, arI G (p1_a 8) 8 p1_washPairs, arI G (p1_a 9) 8 p1_washHours, arI G (p1_a 10) 21 p1_pairs, arI G (p1_a 11) 21 p1_knots] s.heap.size, hD0.self (sz := s.heap.size), va_S.rf, fun q h => Or.inr h, hE0, ?_⟩ ?_
  · intro n_t_taped n_t_length n_t_at n_t_kind n_t_start n_t_value n_t_fault n_t_place n_p1_windows n_p1_washes n_p1_damp n_p1_heard n_p1_lines n_p1_hour n_p1_strings n_p1_cans n_p1_washPairs n_p1_washHours n_p1_pairs n_p1_knots H locs pc ls h hP hS hd
    cases h
    exact retWV hx hb hr hlk hS hP hd
  rintro Q ⟨A, hD, hS, hA, hE, hRet⟩
  change W p l e ({ frames := 7, cells := 0, slots := 0, locals := 188 } : Room) s m args below meth c _ _ 0 0 Q _
  have L42 : ∀ (t_taped : Int32) (t_length : Int32) (p1_hour : Int32) (K : Int32 → Int32 → Int32 → Int32 → Int32 → Int32 → Int32 → Int32 → Int32 → Int32 → Int32 → Int32 → (Nat → Int32) → (Nat → Int32) → (Nat → Int32) → (Nat → Int32) → (Nat → Int32) → Option (Int32 × Int32 × Int32 × Int32 × Int32 × Int32 × Int32 × Int32 × Int32 × Int32 × Int32 × Int32 × Int32 × Int32 × Int32 × (Nat → Int32) × (Nat → Int32) × (Nat → Int32) × (Nat → Int32) × (Nat → Int32))) (n : Nat) (l3 : Int32) (t_at : Int32) (t_kind : Int32) (t_start : Int32) (t_value : Int32) (t_fault : Int32) (t_place : Int32) (p1_windows : Int32) (p1_washes : Int32) (p1_damp : Int32) (p1_heard : Int32) (p1_lines : Int32) (p1_strings : Int32) (p1_cans : Nat → Int32) (p1_washPairs : Nat → Int32) (p1_washHours : Nat → Int32) (p1_pairs : Nat → Int32) (p1_knots : Nat → Int32) (H : Heap) (locs : List Loc) (ls : Array Slot), va_P G.1 vwCl [oX3 t_h t_a t_taped t_length t_at t_kind t_start t_value t_fault t_place, arB G (t_a 0) 900 t_tape, oX1 p1_h p1_a p1_windows p1_washes p1_damp p1_heard p1_lines p1_hour p1_strings, arI G (p1_a 7) 12 p1_cans, arI G (p1_a 8) 8 p1_washPairs, arI G (p1_a 9) 8 p1_washHours, arI G (p1_a 10) 21 p1_pairs, arI G (p1_a 11) 21 p1_knots] H → va_D A [oX3 t_h t_a t_taped t_length t_at t_kind t_start t_value t_fault t_place, arB G (t_a 0) 900 t_tape, oX1 p1_h p1_a p1_windows p1_washes p1_damp p1_heard p1_lines p1_hour p1_strings, arI G (p1_a 7) 12 p1_cans, arI G (p1_a 8) 8 p1_washPairs, arI G (p1_a 9) 8 p1_washHours, arI G (p1_a 10) 21 p1_pairs, arI G (p1_a 11) 21 p1_knots] → va_S A s.heap H locs → lv_has ls 4 [(0, .ref t_h), (1, .ref p1_h), (3, .int l3)] → fX3_readTape_42 t_tape t_length K n l3 t_at t_kind t_start t_value t_fault t_place p1_windows p1_washes p1_damp p1_heard p1_lines p1_strings p1_cans p1_washPairs p1_washHours p1_pairs p1_knots = some (o_t_taped, o_t_length, o_t_at, o_t_kind, o_t_start, o_t_value, o_t_fault, o_t_place, o_p1_windows, o_p1_washes, o_p1_damp, o_p1_heard, o_p1_lines, o_p1_hour, o_p1_strings, o_p1_cans, o_p1_washPairs, o_p1_washHours, o_p1_pairs, o_p1_knots) → (∀ (kt_at : Int32) (kt_kind : Int32) (kt_start : Int32) (kt_value : Int32) (kt_fault : Int32) (kt_place : Int32) (kp1_windows : Int32) (kp1_washes : Int32) (kp1_damp : Int32) (kp1_heard : Int32) (kp1_lines : Int32) (kp1_strings : Int32) (kp1_cans : Nat → Int32) (kp1_washPairs : Nat → Int32) (kp1_washHours : Nat → Int32) (kp1_pairs : Nat → Int32) (kp1_knots : Nat → Int32) (H : Heap) (locs : List Loc) (ls : Array Slot), va_P G.1 vwCl [oX3 t_h t_a t_taped t_length kt_at kt_kind kt_start kt_value kt_fault kt_place, arB G (t_a 0) 900 t_tape, oX1 p1_h p1_a kp1_windows kp1_washes kp1_damp kp1_heard kp1_lines p1_hour kp1_strings, arI G (p1_a 7) 12 kp1_cans, arI G (p1_a 8) 8 kp1_washPairs, arI G (p1_a 9) 8 kp1_washHours, arI G (p1_a 10) 21 kp1_pairs, arI G (p1_a 11) 21 kp1_knots] H → va_D A [oX3 t_h t_a t_taped t_length kt_at kt_kind kt_start kt_value kt_fault kt_place, arB G (t_a 0) 900 t_tape, oX1 p1_h p1_a kp1_windows kp1_washes kp1_damp kp1_heard kp1_lines p1_hour kp1_strings, arI G (p1_a 7) 12 kp1_cans, arI G (p1_a 8) 8 kp1_washPairs, arI G (p1_a 9) 8 kp1_washHours, arI G (p1_a 10) 21 kp1_pairs, arI G (p1_a 11) 21 kp1_knots] → va_S A s.heap H locs → lv_has ls 4 [] → K kt_at kt_kind kt_start kt_value kt_fault kt_place kp1_windows kp1_washes kp1_damp kp1_heard kp1_lines kp1_strings kp1_cans kp1_washPairs kp1_washHours kp1_pairs kp1_knots = some (o_t_taped, o_t_length, o_t_at, o_t_kind, o_t_start, o_t_value, o_t_fault, o_t_place, o_p1_windows, o_p1_washes, o_p1_damp, o_p1_heard, o_p1_lines, o_p1_hour, o_p1_strings, o_p1_cans, o_p1_washPairs, o_p1_washHours, o_p1_pairs, o_p1_knots) → W p l e ({ frames := 7, cells := 0, slots := 0, locals := 188 } : Room) s m args below meth c H locs 0 0 Q (F0 m 97 ls [])) → W p l e ({ frames := 7, cells := 0, slots := 0, locals := 188 } : Room) s m args below meth c H locs 0 0 Q (F0 m 42 ls []) := by
    intro t_taped t_length p1_hour K n
    induction n with
    | zero => intro l3 t_at t_kind t_start t_value t_fault t_place p1_windows p1_washes p1_damp p1_heard p1_lines p1_strings p1_cans p1_washPairs p1_washHours p1_pairs p1_knots H locs ls hP hD hS hl hf; rw [fX3_readTape_42] at hf; cases hf
    | succ n ih =>
      intro l3 t_at t_kind t_start t_value t_fault t_place p1_windows p1_washes p1_damp p1_heard p1_lines p1_strings p1_cans p1_washPairs p1_washHours p1_pairs p1_knots H locs ls hP hD hS hl hf hX
      rw [fX3_readTape_42] at hf
      refine lv_iload_n hx hb dX3_readTape_42 rfl (lv_at hl 2 rfl) ?_
      refine lv_aload_n hx hb dX3_readTape_43 rfl (lv_at hl 0 rfl) ?_
      refine va_get (D := G.1) (ci := 3) (v := .int t_length) (C := RX3) (T := TX3) (N := 9) hx hb hw inW3 hown hK.1 hP 0 rfl rfl 2 (by decide) (hw _ kw_7_11) (fun _ h9 => h9) rfl dX3_readTape_44 ?_
      refine lv_icmp_ge (tgt := 97) hx hb dX3_readTape_47 (by decide) (fun c_18 => ?_) (fun c_18 => ?_)
      · have hf := ip c_18 hf
        exact hX _ _ _ _ _ _ _ _ _ _ _ _ _ _ _ _ _ _ _ _ hP hD hS (lv_sub hl [] rfl) hf
      · have hf := iq c_18 hf
        refine lv_aload_n hx hb dX3_readTape_50 rfl (lv_at hl 0 rfl) ?_
        refine va_get (D := G.1) (ci := 3) (v := .int t_fault) (C := RX3) (T := TX3) (N := 9) hx hb hw inW3 hown hK.1 hP 0 rfl rfl 7 (by decide) (hw _ kw_7_13) (fun _ h9 => h9) rfl dX3_readTape_51 ?_
        refine lv_if_ne (tgt := 97) hx hb dX3_readTape_54 (by decide) (fun c_19 => ?_) (fun c_19 => ?_)
        · have hf := iq c_19 hf
          exact hX _ _ _ _ _ _ _ _ _ _ _ _ _ _ _ _ _ _ _ _ hP hD hS (lv_sub hl [] rfl) hf
        · have hf := ip c_19 hf
          refine lv_aload_n hx hb dX3_readTape_57 rfl (lv_at hl 0 rfl) ?_
          refine va_get (D := G.1) (ci := 3) (v := .int t_kind) (C := RX3) (T := TX3) (N := 9) hx hb hw inW3 hown hK.1 hP 0 rfl rfl 4 (by decide) (hw _ kw_7_14) (fun _ h9 => h9) rfl dX3_readTape_58 ?_
          refine lv_iconst (v := 5) hx hb dX3_readTape_61 (by decide) ?_
          refine lv_icmp_eq (tgt := 97) hx hb dX3_readTape_62 (by decide) (fun c_20 => ?_) (fun c_20 => ?_)
          · have hf := ip c_20 hf
            exact hX _ _ _ _ _ _ _ _ _ _ _ _ _ _ _ _ _ _ _ _ hP hD hS (lv_sub hl [] rfl) hf
          · have hf := iq c_20 hf
            refine lv_aload_n hx hb dX3_readTape_65 rfl (lv_at hl 0 rfl) ?_
            refine lv_aload_n hx hb dX3_readTape_66 rfl (lv_at hl 1 rfl) ?_
            obtain ⟨t_at_21, t_kind_22, t_start_23, t_value_24, t_fault_25, t_place_26, p1_windows_27, p1_washes_28, p1_damp_29, p1_heard_30, p1_strings_31, p1_cans_32, p1_washPairs_33, p1_washHours_34, p1_pairs_35, p1_knots_36, hc_37, hf⟩ := bd16_in hf
            refine wcV (w1 := [oX3 t_h t_a t_taped t_length t_at_21 t_kind_22 t_start_23 t_value_24 t_fault_25 t_place_26, arB G (t_a 0) 900 t_tape, oX1 p1_h p1_a p1_windows_27 p1_washes_28 p1_damp_29 p1_heard_30 p1_lines p1_hour p1_strings_31, arI G (p1_a 7) 12 p1_cans_32, arI G (p1_a 8) 8 p1_washPairs_33, arI G (p1_a 9) 8 p1_washHours_34, arI G (p1_a 10) 21 p1_pairs_35, arI G (p1_a 11) 21 p1_knots_36]) (va_runV (As := [.ref p1_h]) (rest := []) ⟨hx, hb, hml, hown, hw⟩ ((ctX3_readLine l G ad av t_h t_a p1_h p1_a t_tape t_taped t_length t_at t_kind t_start t_value t_fault t_place p1_windows p1_washes p1_damp p1_heard p1_lines p1_hour p1_strings p1_cans p1_washPairs p1_washHours p1_pairs p1_knots _ _ _ _ _ _ _ _ _ _ _ _ _ _ _ _ hc_37) _) (kV hw calX3_readLine kw_8_9 rfl rfl ⟨Nat.le_of_ble_eq_true rfl, Nat.le_of_ble_eq_true rfl⟩) (wsPV (hP.sub (ws' := [oX3 t_h t_a t_taped t_length t_at t_kind t_start t_value t_fault t_place, arB G (t_a 0) 900 t_tape, oX1 p1_h p1_a p1_windows p1_washes p1_damp p1_heard p1_lines p1_hour p1_strings, arI G (p1_a 7) 12 p1_cans, arI G (p1_a 8) 8 p1_washPairs, arI G (p1_a 9) 8 p1_washHours, arI G (p1_a 10) 21 p1_pairs, arI G (p1_a 11) 21 p1_knots]) [0, 1, 2, 3, 4, 5, 6, 7] rfl) (hD.sub (ws' := [oX3 t_h t_a t_taped t_length t_at t_kind t_start t_value t_fault t_place, arB G (t_a 0) 900 t_tape, oX1 p1_h p1_a p1_windows p1_washes p1_damp p1_heard p1_lines p1_hour p1_strings, arI G (p1_a 7) 12 p1_cans, arI G (p1_a 8) 8 p1_washPairs, arI G (p1_a 9) 8 p1_washHours, arI G (p1_a 10) 21 p1_pairs, arI G (p1_a 11) 21 p1_knots]) [0, 1, 2, 3, 4, 5, 6, 7] (by decide) rfl) hE hS (va_free (wc := [oX3 t_h t_a t_taped t_length t_at t_kind t_start t_value t_fault t_place, arB G (t_a 0) 900 t_tape, oX1 p1_h p1_a p1_windows p1_washes p1_damp p1_heard p1_lines p1_hour p1_strings, arI G (p1_a 7) 12 p1_cans, arI G (p1_a 8) 8 p1_washPairs, arI G (p1_a 9) 8 p1_washHours, arI G (p1_a 10) 21 p1_pairs, arI G (p1_a 11) 21 p1_knots]) hD hS hA [0, 1, 2, 3, 4, 5, 6, 7] rfl) hK (ci := 3) (q0 := 0) rfl rfl) rfl rfl hl.1 rfl (lv_room (Nat.le_of_ble_eq_true rfl)) dX3_readTape_67 ⟨Nat.zero_le _, Nat.zero_le _⟩) hS hA hP hD [0, 1, 2, 3, 4, 5, 6, 7] rfl rfl (fun H locs hP hD hS => ?_)
            have hP : va_P G.1 vwCl [oX3 t_h t_a t_taped t_length t_at_21 t_kind_22 t_start_23 t_value_24 t_fault_25 t_place_26, arB G (t_a 0) 900 t_tape, oX1 p1_h p1_a p1_windows_27 p1_washes_28 p1_damp_29 p1_heard_30 p1_lines p1_hour p1_strings_31, arI G (p1_a 7) 12 p1_cans_32, arI G (p1_a 8) 8 p1_washPairs_33, arI G (p1_a 9) 8 p1_washHours_34, arI G (p1_a 10) 21 p1_pairs_35, arI G (p1_a 11) 21 p1_knots_36] H := hP
            have hD : va_D A [oX3 t_h t_a t_taped t_length t_at_21 t_kind_22 t_start_23 t_value_24 t_fault_25 t_place_26, arB G (t_a 0) 900 t_tape, oX1 p1_h p1_a p1_windows_27 p1_washes_28 p1_damp_29 p1_heard_30 p1_lines p1_hour p1_strings_31, arI G (p1_a 7) 12 p1_cans_32, arI G (p1_a 8) 8 p1_washPairs_33, arI G (p1_a 9) 8 p1_washHours_34, arI G (p1_a 10) 21 p1_pairs_35, arI G (p1_a 11) 21 p1_knots_36] := hD
            refine lv_aload_n hx hb dX3_readTape_70 rfl (lv_at hl 0 rfl) ?_
            refine va_get (D := G.1) (ci := 3) (v := .int t_fault_25) (C := RX3) (T := TX3) (N := 9) hx hb hw inW3 hown hK.1 hP 0 rfl rfl 7 (by decide) (hw _ kw_7_13) (fun _ h9 => h9) rfl dX3_readTape_71 ?_
            refine lv_if_ne (tgt := 91) hx hb dX3_readTape_74 (by decide) (fun c_38 => ?_) (fun c_38 => ?_)
            · have hf := iq c_38 hf
              refine lv_iinc (v := (l3 + 1)) (lv' := [(3, .int (l3 + 1)), (0, .ref t_h), (1, .ref p1_h)]) hx hb dX3_readTape_91 hl (k := 2) rfl (by rfl) (by decide) rfl (fun ls hl => ?_)
              refine lv_goto (tgt := 42) hx hb dX3_readTape_94 (by decide) ?_
              exact ih _ _ _ _ _ _ _ _ _ _ _ _ _ _ _ _ _ _ _ _ _ hP hD hS (lv_sub hl [1, 2, 0] rfl) hf hX
            · have hf := ip c_38 hf
              refine lv_aload_n hx hb dX3_readTape_77 rfl (lv_at hl 1 rfl) ?_
              refine lv_dup hx hb dX3_readTape_78 rfl ?_
              refine va_getN (D := G.1) (ci := 1) (v := .int p1_lines) (C := RX1) (T := TX1) (N := 12) hx hb hw inW1 hown hK.1 hP 2 rfl rfl 4 (by decide) ((nf_15 hK.2).use rfl) (fun _ h9 => h9) rfl dX3_readTape_79 ?_
              refine lv_iconst (v := 1) hx hb dX3_readTape_82 (by decide) ?_
              refine lv_iadd hx hb dX3_readTape_83 ?_
              refine lv_topi (fun y_39 ey_39 => ?_)
              have hf := bnd_all hf y_39 ey_39
              refine va_putN (D := G.1) (ci := 1) (v := .int y_39) (ty := .int) (C := RX1) (T := TX1) (N := 12) hx hb hw inW1 tyX1 tyX1_ok nmX1 hown hK.1 hP hD hS 2 rfl rfl 4 (by decide) ((nf_15 hK.2).use rfl) (fun _ h9 => h9) rfl (by decide +kernel) rfl rfl (Nat.le_of_ble_eq_true rfl) dX3_readTape_84 (fun H locs hP hD hS => ?_)
              have hP : va_P G.1 vwCl [oX3 t_h t_a t_taped t_length t_at_21 t_kind_22 t_start_23 t_value_24 t_fault_25 t_place_26, arB G (t_a 0) 900 t_tape, oX1 p1_h p1_a p1_windows_27 p1_washes_28 p1_damp_29 p1_heard_30 y_39 p1_hour p1_strings_31, arI G (p1_a 7) 12 p1_cans_32, arI G (p1_a 8) 8 p1_washPairs_33, arI G (p1_a 9) 8 p1_washHours_34, arI G (p1_a 10) 21 p1_pairs_35, arI G (p1_a 11) 21 p1_knots_36] H := hP
              have hD : va_D A [oX3 t_h t_a t_taped t_length t_at_21 t_kind_22 t_start_23 t_value_24 t_fault_25 t_place_26, arB G (t_a 0) 900 t_tape, oX1 p1_h p1_a p1_windows_27 p1_washes_28 p1_damp_29 p1_heard_30 y_39 p1_hour p1_strings_31, arI G (p1_a 7) 12 p1_cans_32, arI G (p1_a 8) 8 p1_washPairs_33, arI G (p1_a 9) 8 p1_washHours_34, arI G (p1_a 10) 21 p1_pairs_35, arI G (p1_a 11) 21 p1_knots_36] := hD
              refine lv_aload_n hx hb dX3_readTape_87 rfl (lv_at hl 0 rfl) ?_
              obtain ⟨t_at_40, t_kind_41, t_start_42, t_value_43, t_fault_44, t_place_45, hc_46, hf⟩ := bd6_in hf
              refine wcV (w1 := [oX3 t_h t_a t_taped t_length t_at_40 t_kind_41 t_start_42 t_value_43 t_fault_44 t_place_45, arB G (t_a 0) 900 t_tape]) (va_runV (As := []) (rest := []) ⟨hx, hb, hml, hown, hw⟩ ((ctX3_nextToken l G t_h t_a t_tape t_taped t_length t_at_21 t_kind_22 t_start_23 t_value_24 t_fault_25 t_place_26 _ _ _ _ _ _ hc_46) _) (kV hw calX3_nextToken kw_7_16 rfl rfl ⟨Nat.le_of_ble_eq_true rfl, Nat.le_of_ble_eq_true rfl⟩) (wpV (hP.sub (ws' := [oX3 t_h t_a t_taped t_length t_at_21 t_kind_22 t_start_23 t_value_24 t_fault_25 t_place_26, arB G (t_a 0) 900 t_tape]) [0, 1] rfl) (hD.sub (ws' := [oX3 t_h t_a t_taped t_length t_at_21 t_kind_22 t_start_23 t_value_24 t_fault_25 t_place_26, arB G (t_a 0) 900 t_tape]) [0, 1] (by decide) rfl) hK (ci := 3) (q0 := 0) rfl rfl) rfl rfl hl.1 rfl (lv_room (Nat.le_of_ble_eq_true rfl)) dX3_readTape_88 ⟨Nat.zero_le _, Nat.zero_le _⟩) hS hA hP hD [0, 1] rfl rfl (fun H locs hP hD hS => ?_)
              have hP : va_P G.1 vwCl [oX3 t_h t_a t_taped t_length t_at_40 t_kind_41 t_start_42 t_value_43 t_fault_44 t_place_45, arB G (t_a 0) 900 t_tape, oX1 p1_h p1_a p1_windows_27 p1_washes_28 p1_damp_29 p1_heard_30 y_39 p1_hour p1_strings_31, arI G (p1_a 7) 12 p1_cans_32, arI G (p1_a 8) 8 p1_washPairs_33, arI G (p1_a 9) 8 p1_washHours_34, arI G (p1_a 10) 21 p1_pairs_35, arI G (p1_a 11) 21 p1_knots_36] H := hP
              have hD : va_D A [oX3 t_h t_a t_taped t_length t_at_40 t_kind_41 t_start_42 t_value_43 t_fault_44 t_place_45, arB G (t_a 0) 900 t_tape, oX1 p1_h p1_a p1_windows_27 p1_washes_28 p1_damp_29 p1_heard_30 y_39 p1_hour p1_strings_31, arI G (p1_a 7) 12 p1_cans_32, arI G (p1_a 8) 8 p1_washPairs_33, arI G (p1_a 9) 8 p1_washHours_34, arI G (p1_a 10) 21 p1_pairs_35, arI G (p1_a 11) 21 p1_knots_36] := hD
              refine lv_iinc (v := (l3 + 1)) (lv' := [(3, .int (l3 + 1)), (0, .ref t_h), (1, .ref p1_h)]) hx hb dX3_readTape_91 hl (k := 2) rfl (by rfl) (by decide) rfl (fun ls hl => ?_)
              refine lv_goto (tgt := 42) hx hb dX3_readTape_94 (by decide) ?_
              exact ih _ _ _ _ _ _ _ _ _ _ _ _ _ _ _ _ _ _ _ _ _ hP hD hS (lv_sub hl [1, 2, 0] rfl) hf hX
  unfold fX3_readTape at hf
  refine lv_aload_n hx hb dX3_readTape_0 rfl (lv_at hl 1 rfl) ?_
  obtain ⟨p1_windows_1, p1_washes_2, p1_damp_3, p1_heard_4, p1_lines_5, p1_hour_6, p1_strings_7, p1_cans_8, hc_9, hf⟩ := bd8_in hf
  refine wcV (w1 := [oX1 p1_h p1_a p1_windows_1 p1_washes_2 p1_damp_3 p1_heard_4 p1_lines_5 p1_hour_6 p1_strings_7, arI G (p1_a 7) 12 p1_cans_8]) (va_runV (As := []) (rest := []) ⟨hx, hb, hml, hown, hw⟩ ((ctX1_clear l G p1_h p1_a p1_windows p1_washes p1_damp p1_heard p1_lines p1_hour p1_strings p1_cans _ _ _ _ _ _ _ _ hc_9) _) (kV hw calX1_clear kw_7_15 rfl rfl ⟨Nat.le_of_ble_eq_true rfl, Nat.le_of_ble_eq_true rfl⟩) (wpV (hP.sub (ws' := [oX1 p1_h p1_a p1_windows p1_washes p1_damp p1_heard p1_lines p1_hour p1_strings, arI G (p1_a 7) 12 p1_cans]) [2, 3] rfl) (hD.sub (ws' := [oX1 p1_h p1_a p1_windows p1_washes p1_damp p1_heard p1_lines p1_hour p1_strings, arI G (p1_a 7) 12 p1_cans]) [2, 3] (by decide) rfl) hK (ci := 1) (q0 := 0) rfl rfl) rfl rfl hl.1 rfl (lv_room (Nat.le_of_ble_eq_true rfl)) dX3_readTape_1 ⟨Nat.zero_le _, Nat.zero_le _⟩) hS hA hP hD [2, 3] rfl rfl (fun H locs hP hD hS => ?_)
  have hP : va_P G.1 vwCl [oX3 t_h t_a t_taped t_length t_at t_kind t_start t_value t_fault t_place, arB G (t_a 0) 900 t_tape, oX1 p1_h p1_a p1_windows_1 p1_washes_2 p1_damp_3 p1_heard_4 p1_lines_5 p1_hour_6 p1_strings_7, arI G (p1_a 7) 12 p1_cans_8, arI G (p1_a 8) 8 p1_washPairs, arI G (p1_a 9) 8 p1_washHours, arI G (p1_a 10) 21 p1_pairs, arI G (p1_a 11) 21 p1_knots] H := hP
  have hD : va_D A [oX3 t_h t_a t_taped t_length t_at t_kind t_start t_value t_fault t_place, arB G (t_a 0) 900 t_tape, oX1 p1_h p1_a p1_windows_1 p1_washes_2 p1_damp_3 p1_heard_4 p1_lines_5 p1_hour_6 p1_strings_7, arI G (p1_a 7) 12 p1_cans_8, arI G (p1_a 8) 8 p1_washPairs, arI G (p1_a 9) 8 p1_washHours, arI G (p1_a 10) 21 p1_pairs, arI G (p1_a 11) 21 p1_knots] := hD
  refine lv_aload_n hx hb dX3_readTape_4 rfl (lv_at hl 0 rfl) ?_
  refine lv_iload_n hx hb dX3_readTape_5 rfl (lv_at hl 2 rfl) ?_
  refine lv_aload_n hx hb dX3_readTape_6 rfl (lv_at hl 0 rfl) ?_
  refine va_get (D := G.1) (ci := 3) (v := .int t_taped) (C := RX3) (T := TX3) (N := 9) hx hb hw inW3 hown hK.1 hP 0 rfl rfl 1 (by decide) (hw _ kw_6_16) (fun _ h9 => h9) rfl dX3_readTape_7 ?_
  refine va_mmin hx hb (by rw [hml]; exact hl.1.symm) hown (hw _ kw_7_7) (hw _ kw_7_8) (hw _ kw_7_9) (hw _ kw_7_10) (by exact Nat.le_of_ble_eq_true rfl) (by exact Nat.le_of_ble_eq_true rfl) (Nat.zero_le _) (Nat.zero_le _) dX3_readTape_10 ?_
  refine lv_topi (fun y_10 ey_10 => ?_)
  have hf := bnd_all hf y_10 ey_10
  refine va_put (D := G.1) (ci := 3) (v := .int y_10) (ty := .int) (C := RX3) (T := TX3) (N := 9) hx hb hw inW3 tyX3 tyX3_ok nmX3 hown hK.1 hP hD hS 0 rfl rfl 2 (by decide) (hw _ kw_7_11) (fun _ h9 => h9) rfl (by decide +kernel) rfl rfl (Nat.le_of_ble_eq_true rfl) dX3_readTape_13 (fun H locs hP hD hS => ?_)
  have hP : va_P G.1 vwCl [oX3 t_h t_a t_taped y_10 t_at t_kind t_start t_value t_fault t_place, arB G (t_a 0) 900 t_tape, oX1 p1_h p1_a p1_windows_1 p1_washes_2 p1_damp_3 p1_heard_4 p1_lines_5 p1_hour_6 p1_strings_7, arI G (p1_a 7) 12 p1_cans_8, arI G (p1_a 8) 8 p1_washPairs, arI G (p1_a 9) 8 p1_washHours, arI G (p1_a 10) 21 p1_pairs, arI G (p1_a 11) 21 p1_knots] H := hP
  have hD : va_D A [oX3 t_h t_a t_taped y_10 t_at t_kind t_start t_value t_fault t_place, arB G (t_a 0) 900 t_tape, oX1 p1_h p1_a p1_windows_1 p1_washes_2 p1_damp_3 p1_heard_4 p1_lines_5 p1_hour_6 p1_strings_7, arI G (p1_a 7) 12 p1_cans_8, arI G (p1_a 8) 8 p1_washPairs, arI G (p1_a 9) 8 p1_washHours, arI G (p1_a 10) 21 p1_pairs, arI G (p1_a 11) 21 p1_knots] := hD
  refine lv_aload_n hx hb dX3_readTape_16 rfl (lv_at hl 0 rfl) ?_
  refine lv_iconst (v := 0) hx hb dX3_readTape_17 (by decide) ?_
  refine va_put (D := G.1) (ci := 3) (v := .int 0) (ty := .int) (C := RX3) (T := TX3) (N := 9) hx hb hw inW3 tyX3 tyX3_ok nmX3 hown hK.1 hP hD hS 0 rfl rfl 1 (by decide) (hw _ kw_6_16) (fun _ h9 => h9) rfl (by decide +kernel) rfl rfl (Nat.le_of_ble_eq_true rfl) dX3_readTape_18 (fun H locs hP hD hS => ?_)
  have hP : va_P G.1 vwCl [oX3 t_h t_a 0 y_10 t_at t_kind t_start t_value t_fault t_place, arB G (t_a 0) 900 t_tape, oX1 p1_h p1_a p1_windows_1 p1_washes_2 p1_damp_3 p1_heard_4 p1_lines_5 p1_hour_6 p1_strings_7, arI G (p1_a 7) 12 p1_cans_8, arI G (p1_a 8) 8 p1_washPairs, arI G (p1_a 9) 8 p1_washHours, arI G (p1_a 10) 21 p1_pairs, arI G (p1_a 11) 21 p1_knots] H := hP
  have hD : va_D A [oX3 t_h t_a 0 y_10 t_at t_kind t_start t_value t_fault t_place, arB G (t_a 0) 900 t_tape, oX1 p1_h p1_a p1_windows_1 p1_washes_2 p1_damp_3 p1_heard_4 p1_lines_5 p1_hour_6 p1_strings_7, arI G (p1_a 7) 12 p1_cans_8, arI G (p1_a 8) 8 p1_washPairs, arI G (p1_a 9) 8 p1_washHours, arI G (p1_a 10) 21 p1_pairs, arI G (p1_a 11) 21 p1_knots] := hD
  refine lv_aload_n hx hb dX3_readTape_21 rfl (lv_at hl 0 rfl) ?_
  refine lv_iconst (v := 0) hx hb dX3_readTape_22 (by decide) ?_
  refine va_put (D := G.1) (ci := 3) (v := .int 0) (ty := .int) (C := RX3) (T := TX3) (N := 9) hx hb hw inW3 tyX3 tyX3_ok nmX3 hown hK.1 hP hD hS 0 rfl rfl 3 (by decide) (hw _ kw_7_12) (fun _ h9 => h9) rfl (by decide +kernel) rfl rfl (Nat.le_of_ble_eq_true rfl) dX3_readTape_23 (fun H locs hP hD hS => ?_)
  have hP : va_P G.1 vwCl [oX3 t_h t_a 0 y_10 0 t_kind t_start t_value t_fault t_place, arB G (t_a 0) 900 t_tape, oX1 p1_h p1_a p1_windows_1 p1_washes_2 p1_damp_3 p1_heard_4 p1_lines_5 p1_hour_6 p1_strings_7, arI G (p1_a 7) 12 p1_cans_8, arI G (p1_a 8) 8 p1_washPairs, arI G (p1_a 9) 8 p1_washHours, arI G (p1_a 10) 21 p1_pairs, arI G (p1_a 11) 21 p1_knots] H := hP
  have hD : va_D A [oX3 t_h t_a 0 y_10 0 t_kind t_start t_value t_fault t_place, arB G (t_a 0) 900 t_tape, oX1 p1_h p1_a p1_windows_1 p1_washes_2 p1_damp_3 p1_heard_4 p1_lines_5 p1_hour_6 p1_strings_7, arI G (p1_a 7) 12 p1_cans_8, arI G (p1_a 8) 8 p1_washPairs, arI G (p1_a 9) 8 p1_washHours, arI G (p1_a 10) 21 p1_pairs, arI G (p1_a 11) 21 p1_knots] := hD
  refine lv_aload_n hx hb dX3_readTape_26 rfl (lv_at hl 0 rfl) ?_
  refine lv_iconst (v := 0) hx hb dX3_readTape_27 (by decide) ?_
  refine va_put (D := G.1) (ci := 3) (v := .int 0) (ty := .int) (C := RX3) (T := TX3) (N := 9) hx hb hw inW3 tyX3 tyX3_ok nmX3 hown hK.1 hP hD hS 0 rfl rfl 7 (by decide) (hw _ kw_7_13) (fun _ h9 => h9) rfl (by decide +kernel) rfl rfl (Nat.le_of_ble_eq_true rfl) dX3_readTape_28 (fun H locs hP hD hS => ?_)
  have hP : va_P G.1 vwCl [oX3 t_h t_a 0 y_10 0 t_kind t_start t_value 0 t_place, arB G (t_a 0) 900 t_tape, oX1 p1_h p1_a p1_windows_1 p1_washes_2 p1_damp_3 p1_heard_4 p1_lines_5 p1_hour_6 p1_strings_7, arI G (p1_a 7) 12 p1_cans_8, arI G (p1_a 8) 8 p1_washPairs, arI G (p1_a 9) 8 p1_washHours, arI G (p1_a 10) 21 p1_pairs, arI G (p1_a 11) 21 p1_knots] H := hP
  have hD : va_D A [oX3 t_h t_a 0 y_10 0 t_kind t_start t_value 0 t_place, arB G (t_a 0) 900 t_tape, oX1 p1_h p1_a p1_windows_1 p1_washes_2 p1_damp_3 p1_heard_4 p1_lines_5 p1_hour_6 p1_strings_7, arI G (p1_a 7) 12 p1_cans_8, arI G (p1_a 8) 8 p1_washPairs, arI G (p1_a 9) 8 p1_washHours, arI G (p1_a 10) 21 p1_pairs, arI G (p1_a 11) 21 p1_knots] := hD
  refine lv_aload_n hx hb dX3_readTape_31 rfl (lv_at hl 0 rfl) ?_
  refine lv_iconst (v := (-1)) hx hb dX3_readTape_32 (by decide) ?_
  refine va_put (D := G.1) (ci := 3) (v := .int (-1)) (ty := .int) (C := RX3) (T := TX3) (N := 9) hx hb hw inW3 tyX3 tyX3_ok nmX3 hown hK.1 hP hD hS 0 rfl rfl 8 (by decide) (hw _ kw_3_2) (fun _ h9 => h9) rfl (by decide +kernel) rfl rfl (Nat.le_of_ble_eq_true rfl) dX3_readTape_33 (fun H locs hP hD hS => ?_)
  have hP : va_P G.1 vwCl [oX3 t_h t_a 0 y_10 0 t_kind t_start t_value 0 (-1), arB G (t_a 0) 900 t_tape, oX1 p1_h p1_a p1_windows_1 p1_washes_2 p1_damp_3 p1_heard_4 p1_lines_5 p1_hour_6 p1_strings_7, arI G (p1_a 7) 12 p1_cans_8, arI G (p1_a 8) 8 p1_washPairs, arI G (p1_a 9) 8 p1_washHours, arI G (p1_a 10) 21 p1_pairs, arI G (p1_a 11) 21 p1_knots] H := hP
  have hD : va_D A [oX3 t_h t_a 0 y_10 0 t_kind t_start t_value 0 (-1), arB G (t_a 0) 900 t_tape, oX1 p1_h p1_a p1_windows_1 p1_washes_2 p1_damp_3 p1_heard_4 p1_lines_5 p1_hour_6 p1_strings_7, arI G (p1_a 7) 12 p1_cans_8, arI G (p1_a 8) 8 p1_washPairs, arI G (p1_a 9) 8 p1_washHours, arI G (p1_a 10) 21 p1_pairs, arI G (p1_a 11) 21 p1_knots] := hD
  refine lv_aload_n hx hb dX3_readTape_36 rfl (lv_at hl 0 rfl) ?_
  obtain ⟨t_at_11, t_kind_12, t_start_13, t_value_14, t_fault_15, t_place_16, hc_17, hf⟩ := bd6_in hf
  refine wcV (w1 := [oX3 t_h t_a 0 y_10 t_at_11 t_kind_12 t_start_13 t_value_14 t_fault_15 t_place_16, arB G (t_a 0) 900 t_tape]) (va_runV (As := []) (rest := []) ⟨hx, hb, hml, hown, hw⟩ ((ctX3_nextToken l G t_h t_a t_tape 0 y_10 0 t_kind t_start t_value 0 (-1) _ _ _ _ _ _ hc_17) _) (kV hw calX3_nextToken kw_7_16 rfl rfl ⟨Nat.le_of_ble_eq_true rfl, Nat.le_of_ble_eq_true rfl⟩) (wpV (hP.sub (ws' := [oX3 t_h t_a 0 y_10 0 t_kind t_start t_value 0 (-1), arB G (t_a 0) 900 t_tape]) [0, 1] rfl) (hD.sub (ws' := [oX3 t_h t_a 0 y_10 0 t_kind t_start t_value 0 (-1), arB G (t_a 0) 900 t_tape]) [0, 1] (by decide) rfl) hK (ci := 3) (q0 := 0) rfl rfl) rfl rfl hl.1 rfl (lv_room (Nat.le_of_ble_eq_true rfl)) dX3_readTape_37 ⟨Nat.zero_le _, Nat.zero_le _⟩) hS hA hP hD [0, 1] rfl rfl (fun H locs hP hD hS => ?_)
  have hP : va_P G.1 vwCl [oX3 t_h t_a 0 y_10 t_at_11 t_kind_12 t_start_13 t_value_14 t_fault_15 t_place_16, arB G (t_a 0) 900 t_tape, oX1 p1_h p1_a p1_windows_1 p1_washes_2 p1_damp_3 p1_heard_4 p1_lines_5 p1_hour_6 p1_strings_7, arI G (p1_a 7) 12 p1_cans_8, arI G (p1_a 8) 8 p1_washPairs, arI G (p1_a 9) 8 p1_washHours, arI G (p1_a 10) 21 p1_pairs, arI G (p1_a 11) 21 p1_knots] H := hP
  have hD : va_D A [oX3 t_h t_a 0 y_10 t_at_11 t_kind_12 t_start_13 t_value_14 t_fault_15 t_place_16, arB G (t_a 0) 900 t_tape, oX1 p1_h p1_a p1_windows_1 p1_washes_2 p1_damp_3 p1_heard_4 p1_lines_5 p1_hour_6 p1_strings_7, arI G (p1_a 7) 12 p1_cans_8, arI G (p1_a 8) 8 p1_washPairs, arI G (p1_a 9) 8 p1_washHours, arI G (p1_a 10) 21 p1_pairs, arI G (p1_a 11) 21 p1_knots] := hD
  refine lv_iconst (v := 0) hx hb dX3_readTape_40 (by decide) ?_
  refine lv_istore_n (lv' := [(3, .int 0), (0, .ref t_h), (1, .ref p1_h), (2, .int v2)]) hx hb dX3_readTape_41 rfl hl (by decide) rfl (fun ls hl => ?_)
  refine L42 _ _ _ _ _ _ _ _ _ _ _ _ _ _ _ _ _ _ _ _ _ _ _ _ _ _ hP hD hS (lv_sub hl [1, 2, 0] rfl) hf (fun t_at_47 t_kind_48 t_start_49 t_value_50 t_fault_51 t_place_52 p1_windows_53 p1_washes_54 p1_damp_55 p1_heard_56 p1_lines_57 p1_strings_58 p1_cans_59 p1_washPairs_60 p1_washHours_61 p1_pairs_62 p1_knots_63 H locs ls hP hD hS hl hf => ?_)
  exact hRet _ _ _ _ _ _ _ _ _ _ _ _ _ _ _ _ _ _ _ _ _ _ _ _ hf hP hS dX3_readTape_97
theorem calX7_court : CalV yX7_court cX7_court 3 (some .int) 1 := ⟨⟨kw_7_2, kw_1_2, by decide +kernel⟩, kw_7_0, kw_7_1⟩
set_option maxHeartbeats 8000000 in
set_option maxRecDepth 100000 in
theorem ctX7_court (l : Launch) (G : GT) (ad : Nat → Nat) (av : Nat → Nat) (t_h : Nat) (t_a : Nat → Nat) (rd_h : Nat) (rd_a : Nat → Nat) (now_h : Nat) (sp_h : Nat) (sp_a : Nat → Nat) (wy_h : Nat) (gp_h : Nat) (ch_h : Nat) (sb_h : Nat) (rd_tape : Nat → Int32) (rd_taped : Int32) (rd_length : Int32) (rd_at : Int32) (rd_kind : Int32) (rd_start : Int32) (rd_value : Int32) (rd_fault : Int32) (rd_place : Int32) (sp_windows : Int32) (sp_washes : Int32) (sp_damp : Int32) (sp_heard : Int32) (sp_lines : Int32) (sp_hour : Int32) (sp_strings : Int32) (sp_cans : Nat → Int32) (sp_washPairs : Nat → Int32) (sp_washHours : Nat → Int32) (sp_pairs : Nat → Int32) (sp_knots : Nat → Int32) (v1 : Int32) (r : Int32) (o_now_h : Nat) (o_sp_h : Nat) (o_rd_taped : Int32) (o_rd_length : Int32) (o_rd_at : Int32) (o_rd_kind : Int32) (o_rd_start : Int32) (o_rd_value : Int32) (o_rd_fault : Int32) (o_rd_place : Int32) (o_sp_windows : Int32) (o_sp_washes : Int32) (o_sp_damp : Int32) (o_sp_heard : Int32) (o_sp_lines : Int32) (o_sp_hour : Int32) (o_sp_strings : Int32) (o_sp_cans : Nat → Int32) (o_sp_washPairs : Nat → Int32) (o_sp_washHours : Nat → Int32) (o_sp_pairs : Nat → Int32) (o_sp_knots : Nat → Int32) (hf : fX7_court now_h sp_h rd_tape rd_taped rd_length rd_at rd_kind rd_start rd_value rd_fault rd_place sp_windows sp_washes sp_damp sp_heard sp_lines sp_hour sp_strings sp_cans sp_washPairs sp_washHours sp_pairs sp_knots v1 = some (r, o_now_h, o_sp_h, o_rd_taped, o_rd_length, o_rd_at, o_rd_kind, o_rd_start, o_rd_value, o_rd_fault, o_rd_place, o_sp_windows, o_sp_washes, o_sp_damp, o_sp_heard, o_sp_lines, o_sp_hour, o_sp_strings, o_sp_cans, o_sp_washPairs, o_sp_washHours, o_sp_pairs, o_sp_knots)) : WsI l yX7_court (Cond.code yX7_court cX7_court 3 (some .int)) { frames := 8, cells := 0, slots := 0, locals := 211 } G ad av [.ref t_h, .int v1] [oX7 t_h t_a rd_h now_h sp_h wy_h gp_h ch_h sb_h, oX3 rd_h rd_a rd_taped rd_length rd_at rd_kind rd_start rd_value rd_fault rd_place, arB G (rd_a 0) 900 rd_tape, oX1 sp_h sp_a sp_windows sp_washes sp_damp sp_heard sp_lines sp_hour sp_strings, arI G (sp_a 7) 12 sp_cans, arI G (sp_a 8) 8 sp_washPairs, arI G (sp_a 9) 8 sp_washHours, arI G (sp_a 10) 21 sp_pairs, arI G (sp_a 11) 21 sp_knots] [oX7 t_h t_a rd_h o_now_h o_sp_h wy_h gp_h ch_h sb_h, oX3 rd_h rd_a o_rd_taped o_rd_length o_rd_at o_rd_kind o_rd_start o_rd_value o_rd_fault o_rd_place, arB G (rd_a 0) 900 rd_tape, oX1 sp_h sp_a o_sp_windows o_sp_washes o_sp_damp o_sp_heard o_sp_lines o_sp_hour o_sp_strings, arI G (sp_a 7) 12 o_sp_cans, arI G (sp_a 8) 8 o_sp_washPairs, arI G (sp_a 9) 8 o_sp_washHours, arI G (sp_a 10) 21 o_sp_pairs, arI G (sp_a 11) 21 o_sp_knots] r := by
  intro sz
  refine Met.ofW (cc := cX7_court) (maxL := 3) (ret := (some .int)) (by decide) rfl ?_
  intro p e s m args below meth c s₁ B hml hv
  obtain ⟨hargs, hsz, hP, hD0, hE0, hK⟩ := hv
  subst hsz
  obtain ⟨hx, hb, hr, hw, hown, hlk⟩ := fwB B
  refine fw_enter hargs (Nat.le_of_ble_eq_true rfl) (fun ls hl => ?_)
  have hl : lv_has ls 3 [(0, .ref t_h), (1, .int v1)] := hl
  refine fw_Q (P := fun Q => ∃ A : Nat → Prop, va_D A [oX7 t_h t_a rd_h now_h sp_h wy_h gp_h ch_h sb_h, oX3 rd_h rd_a rd_taped rd_length rd_at rd_kind rd_start rd_value rd_fault rd_place, arB G (rd_a 0) 900 rd_tape, oX1 sp_h sp_a sp_windows sp_washes sp_damp sp_heard sp_lines sp_hour sp_strings, arI G (sp_a 7) 12 sp_cans, arI G (sp_a 8) 8 sp_washPairs, arI G (sp_a 9) 8 sp_washHours, arI G (sp_a 10) 21 sp_pairs, arI G (sp_a 11) 21 sp_knots] ∧ va_S A s.heap s.heap [] ∧ (∀ q, s.heap.size ≤ q → A q) ∧ SE ad av A s s.heap ∧ ∀ (v : Int32) (n_now_h : Nat) (n_sp_h : Nat) (n_rd_taped : Int32) (n_rd_length : Int32) (n_rd_at : Int32) (n_rd_kind : Int32) (n_rd_start : Int32) (n_rd_value : Int32) (n_rd_fault : Int32) (n_rd_place : Int32) (n_sp_windows : Int32) (n_sp_washes : Int32) (n_sp_damp : Int32) (n_sp_heard : Int32) (n_sp_lines : Int32) (n_sp_hour : Int32) (n_sp_strings : Int32) (n_sp_cans : Nat → Int32) (n_sp_washPairs : Nat → Int32) (n_sp_washHours : Nat → Int32) (n_sp_pairs : Nat → Int32) (n_sp_knots : Nat → Int32) (H : Heap) (locs : List Loc) (pc : Nat) (ls : Array Slot), some (v, n_now_h, n_sp_h, n_rd_taped, n_rd_length, n_rd_at, n_rd_kind, n_rd_start, n_rd_value, n_rd_fault, n_rd_place, n_sp_windows, n_sp_washes, n_sp_damp, n_sp_heard, n_sp_lines, n_sp_hour, n_sp_strings, n_sp_cans, n_sp_washPairs, n_sp_washHours, n_sp_pairs, n_sp_knots) = some (r, o_now_h, o_sp_h, o_rd_taped, o_rd_length, o_rd_at, o_rd_kind, o_rd_start, o_rd_value, o_rd_fault, o_rd_place, o_sp_windows, o_sp_washes, o_sp_damp, o_sp_heard, o_sp_lines, o_sp_hour, o_sp_strings, o_sp_cans, o_sp_washPairs, o_sp_washHours, o_sp_pairs, o_sp_knots) → va_P G.1 vwCl [oX7 t_h t_a rd_h n_now_h n_sp_h wy_h gp_h ch_h sb_h, oX3 rd_h rd_a n_rd_taped n_rd_length n_rd_at n_rd_kind n_rd_start n_rd_value n_rd_fault n_rd_place, arB G (rd_a 0) 900 rd_tape, oX1 sp_h sp_a n_sp_windows n_sp_washes n_sp_damp n_sp_heard n_sp_lines n_sp_hour n_sp_strings, arI G (sp_a 7) 12 n_sp_cans, arI G (sp_a 8) 8 n_sp_washPairs, arI G (sp_a 9) 8 n_sp_washHours, arI G (sp_a 10) 21 n_sp_pairs, arI G (sp_a 11) 21 n_sp_knots] H → va_S A s.heap H locs → decode cX7_court pc = .ok (.ireturn, 1) → W p l e ({ frames := 8, cells := 0, slots := 0, locals := 211 } : Room) s m args below meth c H locs 0 0 Q (F0 m pc ls [.int v])) ⟨va_A [oX7 t_h t_a rd_h now_h sp_h wy_h gp_h ch_h sb_h, oX3 rd_h rd_a rd_taped rd_length rd_at rd_kind rd_start rd_value rd_fault rd_place, arB G (rd_a 0) 900 rd_tape, oX1 sp_h sp_a sp_windows sp_washes sp_damp sp_heard sp_lines sp_hour sp_strings, arI G (sp_a 7) 12 sp_cans, arI G (sp_a 8) 8 sp_washPairs, arI G (sp_a 9) 8 sp_washHours, arI G (sp_a 10) 21 sp_pairs, arI G (sp_a 11) 21 sp_knots] s.heap.size, hD0.self (sz := s.heap.size), va_S.rf, fun q h => Or.inr h, hE0, ?_⟩ ?_
  · intro v n_now_h n_sp_h n_rd_taped n_rd_length n_rd_at n_rd_kind n_rd_start n_rd_value n_rd_fault n_rd_place n_sp_windows n_sp_washes n_sp_damp n_sp_heard n_sp_lines n_sp_hour n_sp_strings n_sp_cans n_sp_washPairs n_sp_washHours n_sp_pairs n_sp_knots H locs pc ls h hP hS hd
    cases h
    exact retWI hx hb hr hlk hS hP rfl hd
  rintro Q ⟨A, hD, hS, hA, hE, hRet⟩
  change W p l e ({ frames := 8, cells := 0, slots := 0, locals := 211 } : Room) s m args below meth c _ _ 0 0 Q _
  unfold fX7_court at hf
  refine lv_iload_n hx hb dX7_court_0 rfl (lv_at hl 1 rfl) ?_
  refine lv_if_lt (tgt := 15) hx hb dX7_court_1 (by decide) (fun c_1 => ?_) (fun c_1 => ?_)
  · have hf := ip c_1 hf
    refine lv_bipush (v := (-3)) hx hb dX7_court_15 (by decide) ?_
    exact hRet _ _ _ _ _ _ _ _ _ _ _ _ _ _ _ _ _ _ _ _ _ _ _ _ _ _ _ hf hP hS dX7_court_17
  · have hf := iq c_1 hf
    refine lv_iload_n hx hb dX7_court_4 rfl (lv_at hl 1 rfl) ?_
    refine lv_aload_n hx hb dX7_court_5 rfl (lv_at hl 0 rfl) ?_
    refine va_get (D := G.1) (ci := 7) (v := .ref rd_h) (C := RX7) (T := TX7) (N := 10) hx hb hw inW7 hown hK.1 hP 0 rfl rfl 0 (by decide) (hw _ kw_1_16) (fun _ h9 => h9) rfl dX7_court_6 ?_
    refine va_getN (D := G.1) (ci := 3) (v := .int rd_taped) (C := RX3) (T := TX3) (N := 9) hx hb hw inW3 hown hK.1 hP 1 rfl rfl 1 (by decide) ((nf_0 hK.2).use rfl) (fun _ h9 => h9) rfl dX7_court_9 ?_
    refine lv_icmp_le (tgt := 18) hx hb dX7_court_12 (by decide) (fun c_2 => ?_) (fun c_2 => ?_)
    · have hf := ip c_2 hf
      refine lv_aload_n hx hb dX7_court_18 rfl (lv_at hl 0 rfl) ?_
      refine va_get (D := G.1) (ci := 7) (v := .ref rd_h) (C := RX7) (T := TX7) (N := 10) hx hb hw inW7 hown hK.1 hP 0 rfl rfl 0 (by decide) (hw _ kw_1_16) (fun _ h9 => h9) rfl dX7_court_19 ?_
      refine lv_aload_n hx hb dX7_court_22 rfl (lv_at hl 0 rfl) ?_
      refine va_get (D := G.1) (ci := 7) (v := .ref sp_h) (C := RX7) (T := TX7) (N := 10) hx hb hw inW7 hown hK.1 hP 0 rfl rfl 2 (by decide) (hw _ kw_1_21) (fun _ h9 => h9) rfl dX7_court_23 ?_
      refine lv_iload_n hx hb dX7_court_26 rfl (lv_at hl 1 rfl) ?_
      obtain ⟨rd_taped_3, rd_length_4, rd_at_5, rd_kind_6, rd_start_7, rd_value_8, rd_fault_9, rd_place_10, sp_windows_11, sp_washes_12, sp_damp_13, sp_heard_14, sp_lines_15, sp_hour_16, sp_strings_17, sp_cans_18, sp_washPairs_19, sp_washHours_20, sp_pairs_21, sp_knots_22, hc_23, hf⟩ := bd20_in hf
      refine wcV (w1 := [oX3 rd_h rd_a rd_taped_3 rd_length_4 rd_at_5 rd_kind_6 rd_start_7 rd_value_8 rd_fault_9 rd_place_10, arB G (rd_a 0) 900 rd_tape, oX1 sp_h sp_a sp_windows_11 sp_washes_12 sp_damp_13 sp_heard_14 sp_lines_15 sp_hour_16 sp_strings_17, arI G (sp_a 7) 12 sp_cans_18, arI G (sp_a 8) 8 sp_washPairs_19, arI G (sp_a 9) 8 sp_washHours_20, arI G (sp_a 10) 21 sp_pairs_21, arI G (sp_a 11) 21 sp_knots_22]) (va_runV (As := [.ref sp_h, .int v1]) (rest := []) ⟨hx, hb, hml, hown, hw⟩ ((ctX3_readTape l G ad av rd_h rd_a sp_h sp_a rd_tape rd_taped rd_length rd_at rd_kind rd_start rd_value rd_fault rd_place sp_windows sp_washes sp_damp sp_heard sp_lines sp_hour sp_strings sp_cans sp_washPairs sp_washHours sp_pairs sp_knots v1 _ _ _ _ _ _ _ _ _ _ _ _ _ _ _ _ _ _ _ _ hc_23) _) (kV hw calX3_readTape kw_7_3 rfl rfl ⟨Nat.le_of_ble_eq_true rfl, Nat.le_of_ble_eq_true rfl⟩) (wsPV (hP.sub (ws' := [oX3 rd_h rd_a rd_taped rd_length rd_at rd_kind rd_start rd_value rd_fault rd_place, arB G (rd_a 0) 900 rd_tape, oX1 sp_h sp_a sp_windows sp_washes sp_damp sp_heard sp_lines sp_hour sp_strings, arI G (sp_a 7) 12 sp_cans, arI G (sp_a 8) 8 sp_washPairs, arI G (sp_a 9) 8 sp_washHours, arI G (sp_a 10) 21 sp_pairs, arI G (sp_a 11) 21 sp_knots]) [1, 2, 3, 4, 5, 6, 7, 8] rfl) (hD.sub (ws' := [oX3 rd_h rd_a rd_taped rd_length rd_at rd_kind rd_start rd_value rd_fault rd_place, arB G (rd_a 0) 900 rd_tape, oX1 sp_h sp_a sp_windows sp_washes sp_damp sp_heard sp_lines sp_hour sp_strings, arI G (sp_a 7) 12 sp_cans, arI G (sp_a 8) 8 sp_washPairs, arI G (sp_a 9) 8 sp_washHours, arI G (sp_a 10) 21 sp_pairs, arI G (sp_a 11) 21 sp_knots]) [1, 2, 3, 4, 5, 6, 7, 8] (by decide) rfl) hE hS (va_free (wc := [oX3 rd_h rd_a rd_taped rd_length rd_at rd_kind rd_start rd_value rd_fault rd_place, arB G (rd_a 0) 900 rd_tape, oX1 sp_h sp_a sp_windows sp_washes sp_damp sp_heard sp_lines sp_hour sp_strings, arI G (sp_a 7) 12 sp_cans, arI G (sp_a 8) 8 sp_washPairs, arI G (sp_a 9) 8 sp_washHours, arI G (sp_a 10) 21 sp_pairs, arI G (sp_a 11) 21 sp_knots]) hD hS hA [1, 2, 3, 4, 5, 6, 7, 8] rfl) hK (ci := 3) (q0 := 0) rfl rfl) rfl rfl hl.1 rfl (lv_room (Nat.le_of_ble_eq_true rfl)) dX7_court_27 ⟨Nat.zero_le _, Nat.zero_le _⟩) hS hA hP hD [1, 2, 3, 4, 5, 6, 7, 8] rfl rfl (fun H locs hP hD hS => ?_)
      have hP : va_P G.1 vwCl [oX7 t_h t_a rd_h now_h sp_h wy_h gp_h ch_h sb_h, oX3 rd_h rd_a rd_taped_3 rd_length_4 rd_at_5 rd_kind_6 rd_start_7 rd_value_8 rd_fault_9 rd_place_10, arB G (rd_a 0) 900 rd_tape, oX1 sp_h sp_a sp_windows_11 sp_washes_12 sp_damp_13 sp_heard_14 sp_lines_15 sp_hour_16 sp_strings_17, arI G (sp_a 7) 12 sp_cans_18, arI G (sp_a 8) 8 sp_washPairs_19, arI G (sp_a 9) 8 sp_washHours_20, arI G (sp_a 10) 21 sp_pairs_21, arI G (sp_a 11) 21 sp_knots_22] H := hP
      have hD : va_D A [oX7 t_h t_a rd_h now_h sp_h wy_h gp_h ch_h sb_h, oX3 rd_h rd_a rd_taped_3 rd_length_4 rd_at_5 rd_kind_6 rd_start_7 rd_value_8 rd_fault_9 rd_place_10, arB G (rd_a 0) 900 rd_tape, oX1 sp_h sp_a sp_windows_11 sp_washes_12 sp_damp_13 sp_heard_14 sp_lines_15 sp_hour_16 sp_strings_17, arI G (sp_a 7) 12 sp_cans_18, arI G (sp_a 8) 8 sp_washPairs_19, arI G (sp_a 9) 8 sp_washHours_20, arI G (sp_a 10) 21 sp_pairs_21, arI G (sp_a 11) 21 sp_knots_22] := hD
      refine lv_aload_n hx hb dX7_court_30 rfl (lv_at hl 0 rfl) ?_
      refine va_get (D := G.1) (ci := 7) (v := .ref rd_h) (C := RX7) (T := TX7) (N := 10) hx hb hw inW7 hown hK.1 hP 0 rfl rfl 0 (by decide) (hw _ kw_1_16) (fun _ h9 => h9) rfl dX7_court_31 ?_
      refine va_getN (D := G.1) (ci := 3) (v := .int rd_fault_9) (C := RX3) (T := TX3) (N := 9) hx hb hw inW3 hown hK.1 hP 1 rfl rfl 7 (by decide) ((nf_1 hK.2).use rfl) (fun _ h9 => h9) rfl dX7_court_34 ?_
      refine lv_if_eq (tgt := 51) hx hb dX7_court_37 (by decide) (fun c_24 => ?_) (fun c_24 => ?_)
      · have hf := ip c_24 hf
        refine lv_aload_n hx hb dX7_court_51 rfl (lv_at hl 0 rfl) ?_
        refine va_get (D := G.1) (ci := 7) (v := .ref sp_h) (C := RX7) (T := TX7) (N := 10) hx hb hw inW7 hown hK.1 hP 0 rfl rfl 2 (by decide) (hw _ kw_1_21) (fun _ h9 => h9) rfl dX7_court_52 ?_
        refine lv_astore_n (lv' := [(2, .ref sp_h), (0, .ref t_h), (1, .int v1)]) hx hb dX7_court_55 rfl hl (by decide) rfl (fun ls hl => ?_)
        refine lv_aload_n hx hb dX7_court_56 rfl (lv_at hl 1 rfl) ?_
        refine lv_aload_n hx hb dX7_court_57 rfl (lv_at hl 1 rfl) ?_
        refine va_get (D := G.1) (ci := 7) (v := .ref now_h) (C := RX7) (T := TX7) (N := 10) hx hb hw inW7 hown hK.1 hP 0 rfl rfl 1 (by decide) (hw _ kw_1_20) (fun _ h9 => h9) rfl dX7_court_58 ?_
        refine va_put (D := G.1) (ci := 7) (v := .ref now_h) (ty := .object "TinCans$Court") (C := RX7) (T := TX7) (N := 10) hx hb hw inW7 tyX7 tyX7_ok nmX7 hown hK.1 hP hD hS 0 rfl rfl 2 (by decide) (hw _ kw_1_21) (fun _ h9 => h9) rfl (by decide +kernel) rfl rfl (Nat.le_of_ble_eq_true rfl) dX7_court_61 (fun H locs hP hD hS => ?_)
        have hP : va_P G.1 vwCl [oX7 t_h t_a rd_h now_h now_h wy_h gp_h ch_h sb_h, oX3 rd_h rd_a rd_taped_3 rd_length_4 rd_at_5 rd_kind_6 rd_start_7 rd_value_8 rd_fault_9 rd_place_10, arB G (rd_a 0) 900 rd_tape, oX1 sp_h sp_a sp_windows_11 sp_washes_12 sp_damp_13 sp_heard_14 sp_lines_15 sp_hour_16 sp_strings_17, arI G (sp_a 7) 12 sp_cans_18, arI G (sp_a 8) 8 sp_washPairs_19, arI G (sp_a 9) 8 sp_washHours_20, arI G (sp_a 10) 21 sp_pairs_21, arI G (sp_a 11) 21 sp_knots_22] H := hP
        have hD : va_D A [oX7 t_h t_a rd_h now_h now_h wy_h gp_h ch_h sb_h, oX3 rd_h rd_a rd_taped_3 rd_length_4 rd_at_5 rd_kind_6 rd_start_7 rd_value_8 rd_fault_9 rd_place_10, arB G (rd_a 0) 900 rd_tape, oX1 sp_h sp_a sp_windows_11 sp_washes_12 sp_damp_13 sp_heard_14 sp_lines_15 sp_hour_16 sp_strings_17, arI G (sp_a 7) 12 sp_cans_18, arI G (sp_a 8) 8 sp_washPairs_19, arI G (sp_a 9) 8 sp_washHours_20, arI G (sp_a 10) 21 sp_pairs_21, arI G (sp_a 11) 21 sp_knots_22] := hD
        refine lv_aload_n hx hb dX7_court_64 rfl (lv_at hl 1 rfl) ?_
        refine lv_aload_n hx hb dX7_court_65 rfl (lv_at hl 0 rfl) ?_
        refine va_put (D := G.1) (ci := 7) (v := .ref sp_h) (ty := .object "TinCans$Court") (C := RX7) (T := TX7) (N := 10) hx hb hw inW7 tyX7 tyX7_ok nmX7 hown hK.1 hP hD hS 0 rfl rfl 1 (by decide) (hw _ kw_1_20) (fun _ h9 => h9) rfl (by decide +kernel) rfl rfl (Nat.le_of_ble_eq_true rfl) dX7_court_66 (fun H locs hP hD hS => ?_)
        have hP : va_P G.1 vwCl [oX7 t_h t_a rd_h sp_h now_h wy_h gp_h ch_h sb_h, oX3 rd_h rd_a rd_taped_3 rd_length_4 rd_at_5 rd_kind_6 rd_start_7 rd_value_8 rd_fault_9 rd_place_10, arB G (rd_a 0) 900 rd_tape, oX1 sp_h sp_a sp_windows_11 sp_washes_12 sp_damp_13 sp_heard_14 sp_lines_15 sp_hour_16 sp_strings_17, arI G (sp_a 7) 12 sp_cans_18, arI G (sp_a 8) 8 sp_washPairs_19, arI G (sp_a 9) 8 sp_washHours_20, arI G (sp_a 10) 21 sp_pairs_21, arI G (sp_a 11) 21 sp_knots_22] H := hP
        have hD : va_D A [oX7 t_h t_a rd_h sp_h now_h wy_h gp_h ch_h sb_h, oX3 rd_h rd_a rd_taped_3 rd_length_4 rd_at_5 rd_kind_6 rd_start_7 rd_value_8 rd_fault_9 rd_place_10, arB G (rd_a 0) 900 rd_tape, oX1 sp_h sp_a sp_windows_11 sp_washes_12 sp_damp_13 sp_heard_14 sp_lines_15 sp_hour_16 sp_strings_17, arI G (sp_a 7) 12 sp_cans_18, arI G (sp_a 8) 8 sp_washPairs_19, arI G (sp_a 9) 8 sp_washHours_20, arI G (sp_a 10) 21 sp_pairs_21, arI G (sp_a 11) 21 sp_knots_22] := hD
        refine lv_aload_n hx hb dX7_court_69 rfl (lv_at hl 1 rfl) ?_
        refine va_get (D := G.1) (ci := 7) (v := .ref sp_h) (C := RX7) (T := TX7) (N := 10) hx hb hw inW7 hown hK.1 hP 0 rfl rfl 1 (by decide) (hw _ kw_1_20) (fun _ h9 => h9) rfl dX7_court_70 ?_
        refine va_getN (D := G.1) (ci := 1) (v := .int sp_lines_15) (C := RX1) (T := TX1) (N := 12) hx hb hw inW1 hown hK.1 hP 3 rfl rfl 4 (by decide) ((nf_14 hK.2).use rfl) (fun _ h9 => h9) rfl dX7_court_73 ?_
        exact hRet _ _ _ _ _ _ _ _ _ _ _ _ _ _ _ _ _ _ _ _ _ _ _ _ _ _ _ hf hP hS dX7_court_76
      · have hf := iq c_24 hf
        refine lv_bipush (v := (-30)) hx hb dX7_court_40 (by decide) ?_
        refine lv_aload_n hx hb dX7_court_42 rfl (lv_at hl 0 rfl) ?_
        refine va_get (D := G.1) (ci := 7) (v := .ref rd_h) (C := RX7) (T := TX7) (N := 10) hx hb hw inW7 hown hK.1 hP 0 rfl rfl 0 (by decide) (hw _ kw_1_16) (fun _ h9 => h9) rfl dX7_court_43 ?_
        refine va_getN (D := G.1) (ci := 3) (v := .int rd_fault_9) (C := RX3) (T := TX3) (N := 9) hx hb hw inW3 hown hK.1 hP 1 rfl rfl 7 (by decide) ((nf_1 hK.2).use rfl) (fun _ h9 => h9) rfl dX7_court_46 ?_
        refine lv_isub hx hb dX7_court_49 ?_
        exact hRet _ _ _ _ _ _ _ _ _ _ _ _ _ _ _ _ _ _ _ _ _ _ _ _ _ _ _ hf hP hS dX7_court_50
    · have hf := iq c_2 hf
      refine lv_bipush (v := (-3)) hx hb dX7_court_15 (by decide) ?_
      exact hRet _ _ _ _ _ _ _ _ _ _ _ _ _ _ _ _ _ _ _ _ _ _ _ _ _ _ _ hf hP hS dX7_court_17
theorem calX6_goFrom : CalV yX6_goFrom cX6_goFrom 7 none 4 := ⟨⟨kw_36_16, kw_2_0, by decide +kernel⟩, kw_36_14, kw_36_15⟩
set_option maxHeartbeats 8000000 in
set_option maxRecDepth 100000 in
theorem ctX6_goFrom (l : Launch) (G : GT) : ∀ (dd : Nat) (t_h : Nat) (t_a : Nat → Nat) (t_windows : Int32) (t_links : Nat → Int32) (t_prices : Nat → Int32) (t_rest : Nat → Int32) (t_goal : Int32) (t_otherFrom : Int32) (t_otherTo : Int32) (t_least : Int32) (v1 : Int32) (v2 : Int32) (v3 : Int32) (v4 : Int32) (o_t_rest : Nat → Int32) (o_t_least : Int32) (hf : fX6_goFrom dd t_windows t_links t_prices t_rest t_goal t_otherFrom t_otherTo t_least v1 v2 v3 v4 = some (o_t_rest, o_t_least)), WrV l yX6_goFrom (Cond.code yX6_goFrom cX6_goFrom 7 none) { frames := 3 + dd, cells := 0, slots := 0, locals := 80 + dd * 26 } G [.ref t_h, .int v1, .int v2, .int v3, .int v4] [oX6 t_h t_a t_windows t_goal t_otherFrom t_otherTo t_least, arI G (t_a 1) 12 t_links, arI G (t_a 2) 144 t_prices, arI G (t_a 3) 12 t_rest] [oX6 t_h t_a t_windows t_goal t_otherFrom t_otherTo o_t_least, arI G (t_a 1) 12 t_links, arI G (t_a 2) 144 t_prices, arI G (t_a 3) 12 o_t_rest] := by
  intro dd
  induction dd with
  | zero => intro t_h t_a t_windows t_links t_prices t_rest t_goal t_otherFrom t_otherTo t_least v1 v2 v3 v4 o_t_rest o_t_least hf; rw [fX6_goFrom] at hf; cases hf
  | succ dd ihd =>
  intro t_h t_a t_windows t_links t_prices t_rest t_goal t_otherFrom t_otherTo t_least v1 v2 v3 v4 o_t_rest o_t_least hf
  rw [fX6_goFrom] at hf
  intro sz
  refine Met.ofW (cc := cX6_goFrom) (maxL := 7) (ret := none) (by decide) rfl ?_
  intro p e s m args below meth c s₁ B hml hv
  obtain ⟨hargs, hsz, hP, hD0, hK⟩ := hv
  subst hsz
  obtain ⟨hx, hb, hr, hw, hown, hlk⟩ := fwB B
  refine fw_enter hargs (Nat.le_of_ble_eq_true rfl) (fun ls hl => ?_)
  have hl : lv_has ls 7 [(0, .ref t_h), (1, .int v1), (2, .int v2), (3, .int v3), (4, .int v4)] := hl
  refine fw_Q (P := fun Q => ∃ A : Nat → Prop, va_D A [oX6 t_h t_a t_windows t_goal t_otherFrom t_otherTo t_least, arI G (t_a 1) 12 t_links, arI G (t_a 2) 144 t_prices, arI G (t_a 3) 12 t_rest] ∧ va_S A s.heap s.heap [] ∧ (∀ q, s.heap.size ≤ q → A q) ∧ ∀ (n_t_rest : Nat → Int32) (n_t_least : Int32) (H : Heap) (locs : List Loc) (pc : Nat) (ls : Array Slot), some (n_t_rest, n_t_least) = some (o_t_rest, o_t_least) → va_P G.1 vwCl [oX6 t_h t_a t_windows t_goal t_otherFrom t_otherTo n_t_least, arI G (t_a 1) 12 t_links, arI G (t_a 2) 144 t_prices, arI G (t_a 3) 12 n_t_rest] H → va_S A s.heap H locs → decode cX6_goFrom pc = .ok (.return_, 1) → W p l e ({ frames := 3 + (dd + 1), cells := 0, slots := 0, locals := 80 + (dd + 1) * 26 } : Room) s m args below meth c H locs 0 0 Q (F0 m pc ls [])) ⟨va_A [oX6 t_h t_a t_windows t_goal t_otherFrom t_otherTo t_least, arI G (t_a 1) 12 t_links, arI G (t_a 2) 144 t_prices, arI G (t_a 3) 12 t_rest] s.heap.size, hD0.self (sz := s.heap.size), va_S.rf, fun q h => Or.inr h, ?_⟩ ?_
  · intro n_t_rest n_t_least H locs pc ls h hP hS hd
    cases h
    exact retWV hx hb hr hlk hS hP hd
  rintro Q ⟨A, hD, hS, hA, hRet⟩
  change W p l e ({ frames := 3 + (dd + 1), cells := 0, slots := 0, locals := 80 + (dd + 1) * 26 } : Room) s m args below meth c _ _ 0 0 Q _
  have L102 : ∀ (l5 : Int32) (K : (Nat → Int32) → Int32 → Option ((Nat → Int32) × Int32)) (n : Nat) (l6 : Int32) (t_rest : Nat → Int32) (t_least : Int32) (H : Heap) (locs : List Loc) (ls : Array Slot), va_P G.1 vwCl [oX6 t_h t_a t_windows t_goal t_otherFrom t_otherTo t_least, arI G (t_a 1) 12 t_links, arI G (t_a 2) 144 t_prices, arI G (t_a 3) 12 t_rest] H → va_D A [oX6 t_h t_a t_windows t_goal t_otherFrom t_otherTo t_least, arI G (t_a 1) 12 t_links, arI G (t_a 2) 144 t_prices, arI G (t_a 3) 12 t_rest] → va_S A s.heap H locs → lv_has ls 7 [(0, .ref t_h), (1, .int v1), (2, .int v2), (3, .int v3), (4, .int v4), (5, .int l5), (6, .int l6)] → fX6_goFrom_102 (fX6_goFrom dd) v1 v2 v3 v4 l5 t_windows t_links t_prices t_goal t_otherFrom t_otherTo K n l6 t_rest t_least = some (o_t_rest, o_t_least) → (∀ (kt_rest : Nat → Int32) (kt_least : Int32) (H : Heap) (locs : List Loc) (ls : Array Slot), va_P G.1 vwCl [oX6 t_h t_a t_windows t_goal t_otherFrom t_otherTo kt_least, arI G (t_a 1) 12 t_links, arI G (t_a 2) 144 t_prices, arI G (t_a 3) 12 kt_rest] H → va_D A [oX6 t_h t_a t_windows t_goal t_otherFrom t_otherTo kt_least, arI G (t_a 1) 12 t_links, arI G (t_a 2) 144 t_prices, arI G (t_a 3) 12 kt_rest] → va_S A s.heap H locs → lv_has ls 7 [] → K kt_rest kt_least = some (o_t_rest, o_t_least) → W p l e ({ frames := 3 + (dd + 1), cells := 0, slots := 0, locals := 80 + (dd + 1) * 26 } : Room) s m args below meth c H locs 0 0 Q (F0 m 155 ls [])) → W p l e ({ frames := 3 + (dd + 1), cells := 0, slots := 0, locals := 80 + (dd + 1) * 26 } : Room) s m args below meth c H locs 0 0 Q (F0 m 102 ls []) := by
    intro l5 K n
    induction n with
    | zero => intro l6 t_rest t_least H locs ls hP hD hS hl hf; rw [fX6_goFrom_102] at hf; cases hf
    | succ n ih =>
      intro l6 t_rest t_least H locs ls hP hD hS hl hf hX
      rw [fX6_goFrom_102] at hf
      refine lv_iload hx hb dX6_goFrom_102 (lv_at hl 6 rfl) ?_
      refine lv_aload_n hx hb dX6_goFrom_104 rfl (lv_at hl 0 rfl) ?_
      refine va_get (D := G.1) (ci := 6) (v := .int t_windows) (C := RX6) (T := TX6) (N := 9) hx hb hw inW6 hown hK.1 hP 0 rfl rfl 0 (by decide) (hw _ kw_18_14) (fun _ h9 => h9) rfl dX6_goFrom_105 ?_
      refine lv_icmp_ge (tgt := 155) hx hb dX6_goFrom_108 (by decide) (fun c_7 => ?_) (fun c_7 => ?_)
      · have hf := ip c_7 hf
        exact hX _ _ _ _ _ hP hD hS (lv_sub hl [] rfl) hf
      · have hf := iq c_7 hf
        refine lv_iload hx hb dX6_goFrom_111 (lv_at hl 5 rfl) ?_
        refine lv_iload hx hb dX6_goFrom_113 (lv_at hl 6 rfl) ?_
        refine lv_ishr hx hb dX6_goFrom_115 ?_
        refine lv_iconst (v := 1) hx hb dX6_goFrom_116 (by decide) ?_
        refine lv_iand hx hb dX6_goFrom_117 ?_
        refine lv_if_eq (tgt := 149) hx hb dX6_goFrom_118 (by decide) (fun c_8 => ?_) (fun c_8 => ?_)
        · have hf := ip c_8 hf
          refine lv_iinc (v := (l6 + 1)) (lv' := [(6, .int (l6 + 1)), (0, .ref t_h), (1, .int v1), (2, .int v2), (3, .int v3), (4, .int v4), (5, .int l5)]) hx hb dX6_goFrom_149 hl (k := 6) rfl (by rfl) (by decide) rfl (fun ls hl => ?_)
          refine lv_goto (tgt := 102) hx hb dX6_goFrom_152 (by decide) ?_
          exact ih _ _ _ _ _ _ hP hD hS (lv_sub hl [1, 2, 3, 4, 5, 6, 0] rfl) hf hX
        · have hf := iq c_8 hf
          refine lv_aload_n hx hb dX6_goFrom_121 rfl (lv_at hl 0 rfl) ?_
          refine lv_iload hx hb dX6_goFrom_122 (lv_at hl 6 rfl) ?_
          refine lv_iload_n hx hb dX6_goFrom_124 rfl (lv_at hl 2 rfl) ?_
          refine lv_iconst (v := 1) hx hb dX6_goFrom_125 (by decide) ?_
          refine lv_iload hx hb dX6_goFrom_126 (lv_at hl 6 rfl) ?_
          refine lv_ishl hx hb dX6_goFrom_128 ?_
          refine lv_ior hx hb dX6_goFrom_129 ?_
          refine lv_iload_n hx hb dX6_goFrom_130 rfl (lv_at hl 3 rfl) ?_
          refine lv_aload_n hx hb dX6_goFrom_131 rfl (lv_at hl 0 rfl) ?_
          refine lv_iload_n hx hb dX6_goFrom_132 rfl (lv_at hl 1 rfl) ?_
          refine lv_iload hx hb dX6_goFrom_133 (lv_at hl 6 rfl) ?_
          obtain ⟨r_9, hc_10, hf⟩ := bd1_in hf
          refine rcI (va_runV (As := [.int v1, .int l6]) (rest := [.int v3, .int (v2 ||| ((1 : Int32) <<< (l6 &&& 31))), .int l6, .ref t_h]) ⟨hx, hb, hml, hown, hw⟩ ((ctX6_priceOf l G t_h t_a t_windows t_prices t_goal t_otherFrom t_otherTo t_least v1 l6 _ hc_10) _) (kV hw calX6_priceOf kw_28_15 rfl rfl ⟨(by dsimp only; omega), (by dsimp only; omega)⟩) (rpV (hP.sub (ws' := [oX6 t_h t_a t_windows t_goal t_otherFrom t_otherTo t_least, arI G (t_a 2) 144 t_prices]) [0, 2] rfl) hK (ci := 6) (q0 := 0) rfl rfl) rfl rfl hl.1 rfl (lv_room (Nat.le_of_ble_eq_true rfl)) dX6_goFrom_135 ⟨Nat.zero_le _, Nat.zero_le _⟩) hS hA hP (fun H locs hP hS => ?_)
          refine lv_bipush (v := 16) hx hb dX6_goFrom_138 (by decide) ?_
          refine lv_idiv hx hb dX6_goFrom_140 (by decide) ?_
          refine lv_iadd hx hb dX6_goFrom_141 ?_
          refine lv_iload hx hb dX6_goFrom_142 (lv_at hl 4 rfl) ?_
          refine lv_iconst (v := 1) hx hb dX6_goFrom_144 (by decide) ?_
          refine lv_iadd hx hb dX6_goFrom_145 ?_
          obtain ⟨t_rest_11, t_least_12, hc_13, hf⟩ := bd2_in hf
          refine wcV (w1 := [oX6 t_h t_a t_windows t_goal t_otherFrom t_otherTo t_least_12, arI G (t_a 1) 12 t_links, arI G (t_a 2) 144 t_prices, arI G (t_a 3) 12 t_rest_11]) (va_runV (As := [.int l6, .int (v2 ||| ((1 : Int32) <<< (l6 &&& 31))), .int (v3 + (r_9 / 16)), .int (v4 + 1)]) (rest := []) ⟨hx, hb, hml, hown, hw⟩ ((ihd t_h t_a t_windows t_links t_prices t_rest t_goal t_otherFrom t_otherTo t_least l6 (v2 ||| ((1 : Int32) <<< (l6 &&& 31))) (v3 + (r_9 / 16)) (v4 + 1) _ _ hc_13) _) (kV hw calX6_goFrom kw_36_13 rfl rfl ⟨(by dsimp only; omega), (by dsimp only; omega)⟩) (wpV (hP.sub (ws' := [oX6 t_h t_a t_windows t_goal t_otherFrom t_otherTo t_least, arI G (t_a 1) 12 t_links, arI G (t_a 2) 144 t_prices, arI G (t_a 3) 12 t_rest]) [0, 1, 2, 3] rfl) (hD.sub (ws' := [oX6 t_h t_a t_windows t_goal t_otherFrom t_otherTo t_least, arI G (t_a 1) 12 t_links, arI G (t_a 2) 144 t_prices, arI G (t_a 3) 12 t_rest]) [0, 1, 2, 3] (by decide) rfl) hK (ci := 6) (q0 := 0) rfl rfl) rfl rfl hl.1 rfl (lv_room (Nat.le_of_ble_eq_true rfl)) dX6_goFrom_146 ⟨Nat.zero_le _, Nat.zero_le _⟩) hS hA hP hD [0, 1, 2, 3] rfl rfl (fun H locs hP hD hS => ?_)
          have hP : va_P G.1 vwCl [oX6 t_h t_a t_windows t_goal t_otherFrom t_otherTo t_least_12, arI G (t_a 1) 12 t_links, arI G (t_a 2) 144 t_prices, arI G (t_a 3) 12 t_rest_11] H := hP
          have hD : va_D A [oX6 t_h t_a t_windows t_goal t_otherFrom t_otherTo t_least_12, arI G (t_a 1) 12 t_links, arI G (t_a 2) 144 t_prices, arI G (t_a 3) 12 t_rest_11] := hD
          refine lv_iinc (v := (l6 + 1)) (lv' := [(6, .int (l6 + 1)), (0, .ref t_h), (1, .int v1), (2, .int v2), (3, .int v3), (4, .int v4), (5, .int l5)]) hx hb dX6_goFrom_149 hl (k := 6) rfl (by rfl) (by decide) rfl (fun ls hl => ?_)
          refine lv_goto (tgt := 102) hx hb dX6_goFrom_152 (by decide) ?_
          exact ih _ _ _ _ _ _ hP hD hS (lv_sub hl [1, 2, 3, 4, 5, 6, 0] rfl) hf hX
  unfold fX6_goFrom_b at hf
  refine lv_iload hx hb dX6_goFrom_0 (lv_at hl 4 rfl) ?_
  refine lv_bipush (v := 12) hx hb dX6_goFrom_2 (by decide) ?_
  refine lv_icmp_ge (tgt := 15) hx hb dX6_goFrom_4 (by decide) (fun c_1 => ?_) (fun c_1 => ?_)
  · have hf := ip c_1 hf
    exact hRet _ _ _ _ _ _ hf hP hS dX6_goFrom_15
  · have hf := iq c_1 hf
    refine lv_iload_n hx hb dX6_goFrom_7 rfl (lv_at hl 3 rfl) ?_
    refine lv_aload_n hx hb dX6_goFrom_8 rfl (lv_at hl 0 rfl) ?_
    refine va_get (D := G.1) (ci := 6) (v := .int t_least) (C := RX6) (T := TX6) (N := 9) hx hb hw inW6 hown hK.1 hP 0 rfl rfl 8 (by decide) (hw _ kw_36_12) (fun _ h9 => h9) rfl dX6_goFrom_9 ?_
    refine lv_icmp_lt (tgt := 16) hx hb dX6_goFrom_12 (by decide) (fun c_2 => ?_) (fun c_2 => ?_)
    · have hf := ip c_2 hf
      refine lv_iload_n hx hb dX6_goFrom_16 rfl (lv_at hl 1 rfl) ?_
      refine lv_aload_n hx hb dX6_goFrom_17 rfl (lv_at hl 0 rfl) ?_
      refine va_get (D := G.1) (ci := 6) (v := .int t_goal) (C := RX6) (T := TX6) (N := 9) hx hb hw inW6 hown hK.1 hP 0 rfl rfl 5 (by decide) (hw _ kw_36_9) (fun _ h9 => h9) rfl dX6_goFrom_18 ?_
      refine lv_icmp_ne (tgt := 69) hx hb dX6_goFrom_21 (by decide) (fun c_3 => ?_) (fun c_3 => ?_)
      · have hf := iq c_3 hf
        refine lv_aload_n hx hb dX6_goFrom_69 rfl (lv_at hl 0 rfl) ?_
        refine va_get (D := G.1) (ci := 6) (v := .ref (t_a 1)) (C := RX6) (T := TX6) (N := 9) hx hb hw inW6 hown hK.1 hP 0 rfl rfl 1 (by decide) (hw _ kw_4_7) (fun _ h9 => h9) rfl dX6_goFrom_70 ?_
        refine lv_iload_n hx hb dX6_goFrom_73 rfl (lv_at hl 1 rfl) ?_
        obtain ⟨hi_5, hf⟩ := rdI_in hf
        refine va_iald hx hb hK.1 hP 1 0 rfl rfl hi_5 dX6_goFrom_74 ?_
        refine lv_topi (fun x_4 ex_4 => ?_)
        have hf := hf x_4 ex_4
        refine lv_iload_n hx hb dX6_goFrom_75 rfl (lv_at hl 2 rfl) ?_
        refine lv_iconst (v := (-1)) hx hb dX6_goFrom_76 (by decide) ?_
        refine lv_ixor hx hb dX6_goFrom_77 ?_
        refine lv_iand hx hb dX6_goFrom_78 ?_
        refine lv_iconst (v := 1) hx hb dX6_goFrom_79 (by decide) ?_
        refine lv_aload_n hx hb dX6_goFrom_80 rfl (lv_at hl 0 rfl) ?_
        refine va_get (D := G.1) (ci := 6) (v := .int t_otherFrom) (C := RX6) (T := TX6) (N := 9) hx hb hw inW6 hown hK.1 hP 0 rfl rfl 6 (by decide) (hw _ kw_36_10) (fun _ h9 => h9) rfl dX6_goFrom_81 ?_
        refine lv_ishl hx hb dX6_goFrom_84 ?_
        refine lv_iconst (v := (-1)) hx hb dX6_goFrom_85 (by decide) ?_
        refine lv_ixor hx hb dX6_goFrom_86 ?_
        refine lv_iand hx hb dX6_goFrom_87 ?_
        refine lv_iconst (v := 1) hx hb dX6_goFrom_88 (by decide) ?_
        refine lv_aload_n hx hb dX6_goFrom_89 rfl (lv_at hl 0 rfl) ?_
        refine va_get (D := G.1) (ci := 6) (v := .int t_otherTo) (C := RX6) (T := TX6) (N := 9) hx hb hw inW6 hown hK.1 hP 0 rfl rfl 7 (by decide) (hw _ kw_36_11) (fun _ h9 => h9) rfl dX6_goFrom_90 ?_
        refine lv_ishl hx hb dX6_goFrom_93 ?_
        refine lv_iconst (v := (-1)) hx hb dX6_goFrom_94 (by decide) ?_
        refine lv_ixor hx hb dX6_goFrom_95 ?_
        refine lv_iand hx hb dX6_goFrom_96 ?_
        refine lv_topi (fun y_6 ey_6 => ?_)
        have hf := bnd_all hf y_6 ey_6
        refine lv_istore (lv' := [(5, .int y_6), (0, .ref t_h), (1, .int v1), (2, .int v2), (3, .int v3), (4, .int v4)]) hx hb dX6_goFrom_97 hl (by decide) rfl (fun ls hl => ?_)
        refine lv_iconst (v := 0) hx hb dX6_goFrom_99 (by decide) ?_
        refine lv_istore (lv' := [(6, .int 0), (5, .int y_6), (0, .ref t_h), (1, .int v1), (2, .int v2), (3, .int v3), (4, .int v4)]) hx hb dX6_goFrom_100 hl (by decide) rfl (fun ls hl => ?_)
        refine L102 _ _ _ _ _ _ _ _ _ hP hD hS (lv_sub hl [2, 3, 4, 5, 6, 1, 0] rfl) hf (fun t_rest_14 t_least_15 H locs ls hP hD hS hl hf => ?_)
        exact hRet _ _ _ _ _ _ hf hP hS dX6_goFrom_155
      · have hf := ip c_3 hf
        refine lv_aload_n hx hb dX6_goFrom_24 rfl (lv_at hl 0 rfl) ?_
        refine lv_aload_n hx hb dX6_goFrom_25 rfl (lv_at hl 0 rfl) ?_
        refine va_get (D := G.1) (ci := 6) (v := .int t_otherTo) (C := RX6) (T := TX6) (N := 9) hx hb hw inW6 hown hK.1 hP 0 rfl rfl 7 (by decide) (hw _ kw_36_11) (fun _ h9 => h9) rfl dX6_goFrom_26 ?_
        refine lv_iload_n hx hb dX6_goFrom_29 rfl (lv_at hl 2 rfl) ?_
        obtain ⟨t_rest_16, hc_17, hf⟩ := bd1_in hf
        refine wcV (w1 := [oX6 t_h t_a t_windows t_goal t_otherFrom t_otherTo t_least, arI G (t_a 1) 12 t_links, arI G (t_a 2) 144 t_prices, arI G (t_a 3) 12 t_rest_16]) (va_runV (As := [.int t_otherTo, .int v2]) (rest := []) ⟨hx, hb, hml, hown, hw⟩ ((ctX6_measure l G t_h t_a t_windows t_links t_prices t_rest t_goal t_otherFrom t_otherTo t_least t_otherTo v2 _ hc_17) _) (kV hw calX6_measure kw_36_17 rfl rfl ⟨(by dsimp only; omega), (by dsimp only; omega)⟩) (wpV (hP.sub (ws' := [oX6 t_h t_a t_windows t_goal t_otherFrom t_otherTo t_least, arI G (t_a 1) 12 t_links, arI G (t_a 2) 144 t_prices, arI G (t_a 3) 12 t_rest]) [0, 1, 2, 3] rfl) (hD.sub (ws' := [oX6 t_h t_a t_windows t_goal t_otherFrom t_otherTo t_least, arI G (t_a 1) 12 t_links, arI G (t_a 2) 144 t_prices, arI G (t_a 3) 12 t_rest]) [0, 1, 2, 3] (by decide) rfl) hK (ci := 6) (q0 := 0) rfl rfl) rfl rfl hl.1 rfl (lv_room (Nat.le_of_ble_eq_true rfl)) dX6_goFrom_30 ⟨Nat.zero_le _, Nat.zero_le _⟩) hS hA hP hD [0, 1, 2, 3] rfl rfl (fun H locs hP hD hS => ?_)
        have hP : va_P G.1 vwCl [oX6 t_h t_a t_windows t_goal t_otherFrom t_otherTo t_least, arI G (t_a 1) 12 t_links, arI G (t_a 2) 144 t_prices, arI G (t_a 3) 12 t_rest_16] H := hP
        have hD : va_D A [oX6 t_h t_a t_windows t_goal t_otherFrom t_otherTo t_least, arI G (t_a 1) 12 t_links, arI G (t_a 2) 144 t_prices, arI G (t_a 3) 12 t_rest_16] := hD
        refine lv_aload_n hx hb dX6_goFrom_33 rfl (lv_at hl 0 rfl) ?_
        refine va_get (D := G.1) (ci := 6) (v := .ref (t_a 3)) (C := RX6) (T := TX6) (N := 9) hx hb hw inW6 hown hK.1 hP 0 rfl rfl 3 (by decide) (hw _ kw_4_9) (fun _ h9 => h9) rfl dX6_goFrom_34 ?_
        refine lv_aload_n hx hb dX6_goFrom_37 rfl (lv_at hl 0 rfl) ?_
        refine va_get (D := G.1) (ci := 6) (v := .int t_otherFrom) (C := RX6) (T := TX6) (N := 9) hx hb hw inW6 hown hK.1 hP 0 rfl rfl 6 (by decide) (hw _ kw_36_10) (fun _ h9 => h9) rfl dX6_goFrom_38 ?_
        obtain ⟨hi_19, hf⟩ := rdI_in hf
        refine va_iald hx hb hK.1 hP 3 0 rfl rfl hi_19 dX6_goFrom_41 ?_
        refine lv_topi (fun x_18 ex_18 => ?_)
        have hf := hf x_18 ex_18
        refine lv_ldc hx hb hown (hw _ kw_28_5) dX6_goFrom_42 ?_
        refine lv_icmp_eq (tgt := 68) hx hb dX6_goFrom_44 (by decide) (fun c_20 => ?_) (fun c_20 => ?_)
        · have hf := ip c_20 hf
          exact hRet _ _ _ _ _ _ hf hP hS dX6_goFrom_68
        · have hf := iq c_20 hf
          refine lv_aload_n hx hb dX6_goFrom_47 rfl (lv_at hl 0 rfl) ?_
          refine lv_aload_n hx hb dX6_goFrom_48 rfl (lv_at hl 0 rfl) ?_
          refine va_get (D := G.1) (ci := 6) (v := .int t_least) (C := RX6) (T := TX6) (N := 9) hx hb hw inW6 hown hK.1 hP 0 rfl rfl 8 (by decide) (hw _ kw_36_12) (fun _ h9 => h9) rfl dX6_goFrom_49 ?_
          refine lv_iload_n hx hb dX6_goFrom_52 rfl (lv_at hl 3 rfl) ?_
          refine lv_aload_n hx hb dX6_goFrom_53 rfl (lv_at hl 0 rfl) ?_
          refine lv_aload_n hx hb dX6_goFrom_54 rfl (lv_at hl 0 rfl) ?_
          refine va_get (D := G.1) (ci := 6) (v := .int t_otherFrom) (C := RX6) (T := TX6) (N := 9) hx hb hw inW6 hown hK.1 hP 0 rfl rfl 6 (by decide) (hw _ kw_36_10) (fun _ h9 => h9) rfl dX6_goFrom_55 ?_
          obtain ⟨r_21, hc_22, hf⟩ := bd1_in hf
          refine rcI (va_runV (As := [.int t_otherFrom]) (rest := [.int v3, .int t_least, .ref t_h]) ⟨hx, hb, hml, hown, hw⟩ ((ctX6_lossFrom l G t_h t_a t_windows t_rest_16 t_goal t_otherFrom t_otherTo t_least t_otherFrom _ hc_22) _) (kV hw calX6_lossFrom kw_30_20 rfl rfl ⟨(by dsimp only; omega), (by dsimp only; omega)⟩) (rpV (hP.sub (ws' := [oX6 t_h t_a t_windows t_goal t_otherFrom t_otherTo t_least, arI G (t_a 3) 12 t_rest_16]) [0, 3] rfl) hK (ci := 6) (q0 := 0) rfl rfl) rfl rfl hl.1 rfl (lv_room (Nat.le_of_ble_eq_true rfl)) dX6_goFrom_58 ⟨Nat.zero_le _, Nat.zero_le _⟩) hS hA hP (fun H locs hP hS => ?_)
          refine lv_iadd hx hb dX6_goFrom_61 ?_
          refine va_mmin hx hb (by rw [hml]; exact hl.1.symm) hown (hw _ kw_28_14) (hw _ kw_7_8) (hw _ kw_7_9) (hw _ kw_7_10) ((by dsimp only; omega)) (by simp [Value.category]; omega) (Nat.zero_le _) (Nat.zero_le _) dX6_goFrom_62 ?_
          refine lv_topi (fun y_23 ey_23 => ?_)
          have hf := bnd_all hf y_23 ey_23
          refine va_put (D := G.1) (ci := 6) (v := .int y_23) (ty := .int) (C := RX6) (T := TX6) (N := 9) hx hb hw inW6 tyX6 tyX6_ok nmX6 hown hK.1 hP hD hS 0 rfl rfl 8 (by decide) (hw _ kw_36_12) (fun _ h9 => h9) rfl (by decide +kernel) rfl rfl (Nat.le_of_ble_eq_true rfl) dX6_goFrom_65 (fun H locs hP hD hS => ?_)
          have hP : va_P G.1 vwCl [oX6 t_h t_a t_windows t_goal t_otherFrom t_otherTo y_23, arI G (t_a 1) 12 t_links, arI G (t_a 2) 144 t_prices, arI G (t_a 3) 12 t_rest_16] H := hP
          have hD : va_D A [oX6 t_h t_a t_windows t_goal t_otherFrom t_otherTo y_23, arI G (t_a 1) 12 t_links, arI G (t_a 2) 144 t_prices, arI G (t_a 3) 12 t_rest_16] := hD
          exact hRet _ _ _ _ _ _ hf hP hS dX6_goFrom_68
    · have hf := iq c_2 hf
      exact hRet _ _ _ _ _ _ hf hP hS dX6_goFrom_15
theorem calX6_leastApart : CalV yX6_leastApart cX6_leastApart 3 (some .int) 2 := ⟨⟨kw_36_8, kw_2_0, by decide +kernel⟩, kw_36_6, kw_36_7⟩
set_option maxHeartbeats 8000000 in
set_option maxRecDepth 100000 in
theorem ctX6_leastApart (l : Launch) (G : GT) (t_h : Nat) (t_a : Nat → Nat) (t_windows : Int32) (t_links : Nat → Int32) (t_prices : Nat → Int32) (t_rest : Nat → Int32) (t_goal : Int32) (t_otherFrom : Int32) (t_otherTo : Int32) (t_least : Int32) (v1 : Int32) (v2 : Int32) (r : Int32) (o_t_rest : Nat → Int32) (o_t_goal : Int32) (o_t_otherFrom : Int32) (o_t_otherTo : Int32) (o_t_least : Int32) (hf : fX6_leastApart t_windows t_links t_prices t_rest t_goal t_otherFrom t_otherTo t_least v1 v2 = some (r, o_t_rest, o_t_goal, o_t_otherFrom, o_t_otherTo, o_t_least)) : WrI l yX6_leastApart (Cond.code yX6_leastApart cX6_leastApart 3 (some .int)) { frames := 20, cells := 0, slots := 0, locals := 522 } G [.ref t_h, .int v1, .int v2] [oX6 t_h t_a t_windows t_goal t_otherFrom t_otherTo t_least, arI G (t_a 1) 12 t_links, arI G (t_a 2) 144 t_prices, arI G (t_a 3) 12 t_rest] [oX6 t_h t_a t_windows o_t_goal o_t_otherFrom o_t_otherTo o_t_least, arI G (t_a 1) 12 t_links, arI G (t_a 2) 144 t_prices, arI G (t_a 3) 12 o_t_rest] r := by
  intro sz
  refine Met.ofW (cc := cX6_leastApart) (maxL := 3) (ret := (some .int)) (by decide) rfl ?_
  intro p e s m args below meth c s₁ B hml hv
  obtain ⟨hargs, hsz, hP, hD0, hK⟩ := hv
  subst hsz
  obtain ⟨hx, hb, hr, hw, hown, hlk⟩ := fwB B
  refine fw_enter hargs (Nat.le_of_ble_eq_true rfl) (fun ls hl => ?_)
  have hl : lv_has ls 3 [(0, .ref t_h), (1, .int v1), (2, .int v2)] := hl
  refine fw_Q (P := fun Q => ∃ A : Nat → Prop, va_D A [oX6 t_h t_a t_windows t_goal t_otherFrom t_otherTo t_least, arI G (t_a 1) 12 t_links, arI G (t_a 2) 144 t_prices, arI G (t_a 3) 12 t_rest] ∧ va_S A s.heap s.heap [] ∧ (∀ q, s.heap.size ≤ q → A q) ∧ ∀ (v : Int32) (n_t_rest : Nat → Int32) (n_t_goal : Int32) (n_t_otherFrom : Int32) (n_t_otherTo : Int32) (n_t_least : Int32) (H : Heap) (locs : List Loc) (pc : Nat) (ls : Array Slot), some (v, n_t_rest, n_t_goal, n_t_otherFrom, n_t_otherTo, n_t_least) = some (r, o_t_rest, o_t_goal, o_t_otherFrom, o_t_otherTo, o_t_least) → va_P G.1 vwCl [oX6 t_h t_a t_windows n_t_goal n_t_otherFrom n_t_otherTo n_t_least, arI G (t_a 1) 12 t_links, arI G (t_a 2) 144 t_prices, arI G (t_a 3) 12 n_t_rest] H → va_S A s.heap H locs → decode cX6_leastApart pc = .ok (.ireturn, 1) → W p l e ({ frames := 20, cells := 0, slots := 0, locals := 522 } : Room) s m args below meth c H locs 0 0 Q (F0 m pc ls [.int v])) ⟨va_A [oX6 t_h t_a t_windows t_goal t_otherFrom t_otherTo t_least, arI G (t_a 1) 12 t_links, arI G (t_a 2) 144 t_prices, arI G (t_a 3) 12 t_rest] s.heap.size, hD0.self (sz := s.heap.size), va_S.rf, fun q h => Or.inr h, ?_⟩ ?_
  · intro v n_t_rest n_t_goal n_t_otherFrom n_t_otherTo n_t_least H locs pc ls h hP hS hd
    cases h
    exact retWI hx hb hr hlk hS hP rfl hd
  rintro Q ⟨A, hD, hS, hA, hRet⟩
  change W p l e ({ frames := 20, cells := 0, slots := 0, locals := 522 } : Room) s m args below meth c _ _ 0 0 Q _
  unfold fX6_leastApart at hf
  refine lv_aload_n hx hb dX6_leastApart_0 rfl (lv_at hl 0 rfl) ?_
  refine lv_iload_n hx hb dX6_leastApart_1 rfl (lv_at hl 1 rfl) ?_
  obtain ⟨r_1, hc_2, hf⟩ := bd1_in hf
  refine rcI (va_runSN (As := [.int v1]) (rest := [.ref t_h]) ⟨hx, hb, hml, hown, hw⟩ ((ctX7_greater l G v1 _ hc_2) _) (kSN hw calX7_greater (nm_11 hK.2) rfl rfl ⟨Nat.le_of_ble_eq_true rfl, Nat.le_of_ble_eq_true rfl⟩) (rpS (hP.sub (ws' := []) [] rfl) hK) rfl rfl hl.1 rfl (lv_room (Nat.le_of_ble_eq_true rfl)) dX6_leastApart_2 ⟨Nat.zero_le _, Nat.zero_le _⟩) hS hA hP (fun H locs hP hS => ?_)
  refine va_put (D := G.1) (ci := 6) (v := .int r_1) (ty := .int) (C := RX6) (T := TX6) (N := 9) hx hb hw inW6 tyX6 tyX6_ok nmX6 hown hK.1 hP hD hS 0 rfl rfl 5 (by decide) (hw _ kw_36_9) (fun _ h9 => h9) rfl (by decide +kernel) rfl rfl (Nat.le_of_ble_eq_true rfl) dX6_leastApart_5 (fun H locs hP hD hS => ?_)
  have hP : va_P G.1 vwCl [oX6 t_h t_a t_windows r_1 t_otherFrom t_otherTo t_least, arI G (t_a 1) 12 t_links, arI G (t_a 2) 144 t_prices, arI G (t_a 3) 12 t_rest] H := hP
  have hD : va_D A [oX6 t_h t_a t_windows r_1 t_otherFrom t_otherTo t_least, arI G (t_a 1) 12 t_links, arI G (t_a 2) 144 t_prices, arI G (t_a 3) 12 t_rest] := hD
  refine lv_aload_n hx hb dX6_leastApart_8 rfl (lv_at hl 0 rfl) ?_
  refine lv_iload_n hx hb dX6_leastApart_9 rfl (lv_at hl 2 rfl) ?_
  obtain ⟨r_3, hc_4, hf⟩ := bd1_in hf
  refine rcI (va_runSN (As := [.int v2]) (rest := [.ref t_h]) ⟨hx, hb, hml, hown, hw⟩ ((ctX7_lesser l G v2 _ hc_4) _) (kSN hw calX7_lesser (nm_10 hK.2) rfl rfl ⟨Nat.le_of_ble_eq_true rfl, Nat.le_of_ble_eq_true rfl⟩) (rpS (hP.sub (ws' := []) [] rfl) hK) rfl rfl hl.1 rfl (lv_room (Nat.le_of_ble_eq_true rfl)) dX6_leastApart_10 ⟨Nat.zero_le _, Nat.zero_le _⟩) hS hA hP (fun H locs hP hS => ?_)
  refine va_put (D := G.1) (ci := 6) (v := .int r_3) (ty := .int) (C := RX6) (T := TX6) (N := 9) hx hb hw inW6 tyX6 tyX6_ok nmX6 hown hK.1 hP hD hS 0 rfl rfl 6 (by decide) (hw _ kw_36_10) (fun _ h9 => h9) rfl (by decide +kernel) rfl rfl (Nat.le_of_ble_eq_true rfl) dX6_leastApart_13 (fun H locs hP hD hS => ?_)
  have hP : va_P G.1 vwCl [oX6 t_h t_a t_windows r_1 r_3 t_otherTo t_least, arI G (t_a 1) 12 t_links, arI G (t_a 2) 144 t_prices, arI G (t_a 3) 12 t_rest] H := hP
  have hD : va_D A [oX6 t_h t_a t_windows r_1 r_3 t_otherTo t_least, arI G (t_a 1) 12 t_links, arI G (t_a 2) 144 t_prices, arI G (t_a 3) 12 t_rest] := hD
  refine lv_aload_n hx hb dX6_leastApart_16 rfl (lv_at hl 0 rfl) ?_
  refine lv_iload_n hx hb dX6_leastApart_17 rfl (lv_at hl 2 rfl) ?_
  obtain ⟨r_5, hc_6, hf⟩ := bd1_in hf
  refine rcI (va_runSN (As := [.int v2]) (rest := [.ref t_h]) ⟨hx, hb, hml, hown, hw⟩ ((ctX7_greater l G v2 _ hc_6) _) (kSN hw calX7_greater (nm_11 hK.2) rfl rfl ⟨Nat.le_of_ble_eq_true rfl, Nat.le_of_ble_eq_true rfl⟩) (rpS (hP.sub (ws' := []) [] rfl) hK) rfl rfl hl.1 rfl (lv_room (Nat.le_of_ble_eq_true rfl)) dX6_leastApart_18 ⟨Nat.zero_le _, Nat.zero_le _⟩) hS hA hP (fun H locs hP hS => ?_)
  refine va_put (D := G.1) (ci := 6) (v := .int r_5) (ty := .int) (C := RX6) (T := TX6) (N := 9) hx hb hw inW6 tyX6 tyX6_ok nmX6 hown hK.1 hP hD hS 0 rfl rfl 7 (by decide) (hw _ kw_36_11) (fun _ h9 => h9) rfl (by decide +kernel) rfl rfl (Nat.le_of_ble_eq_true rfl) dX6_leastApart_21 (fun H locs hP hD hS => ?_)
  have hP : va_P G.1 vwCl [oX6 t_h t_a t_windows r_1 r_3 r_5 t_least, arI G (t_a 1) 12 t_links, arI G (t_a 2) 144 t_prices, arI G (t_a 3) 12 t_rest] H := hP
  have hD : va_D A [oX6 t_h t_a t_windows r_1 r_3 r_5 t_least, arI G (t_a 1) 12 t_links, arI G (t_a 2) 144 t_prices, arI G (t_a 3) 12 t_rest] := hD
  refine lv_aload_n hx hb dX6_leastApart_24 rfl (lv_at hl 0 rfl) ?_
  refine lv_ldc hx hb hown (hw _ kw_28_5) dX6_leastApart_25 ?_
  refine va_put (D := G.1) (ci := 6) (v := .int 16777216) (ty := .int) (C := RX6) (T := TX6) (N := 9) hx hb hw inW6 tyX6 tyX6_ok nmX6 hown hK.1 hP hD hS 0 rfl rfl 8 (by decide) (hw _ kw_36_12) (fun _ h9 => h9) rfl (by decide +kernel) rfl rfl (Nat.le_of_ble_eq_true rfl) dX6_leastApart_27 (fun H locs hP hD hS => ?_)
  have hP : va_P G.1 vwCl [oX6 t_h t_a t_windows r_1 r_3 r_5 16777216, arI G (t_a 1) 12 t_links, arI G (t_a 2) 144 t_prices, arI G (t_a 3) 12 t_rest] H := hP
  have hD : va_D A [oX6 t_h t_a t_windows r_1 r_3 r_5 16777216, arI G (t_a 1) 12 t_links, arI G (t_a 2) 144 t_prices, arI G (t_a 3) 12 t_rest] := hD
  refine lv_aload_n hx hb dX6_leastApart_30 rfl (lv_at hl 0 rfl) ?_
  refine lv_iload_n hx hb dX6_leastApart_31 rfl (lv_at hl 1 rfl) ?_
  obtain ⟨r_7, hc_8, hf⟩ := bd1_in hf
  refine rcI (va_runSN (As := [.int v1]) (rest := [.ref t_h]) ⟨hx, hb, hml, hown, hw⟩ ((ctX7_lesser l G v1 _ hc_8) _) (kSN hw calX7_lesser (nm_10 hK.2) rfl rfl ⟨Nat.le_of_ble_eq_true rfl, Nat.le_of_ble_eq_true rfl⟩) (rpS (hP.sub (ws' := []) [] rfl) hK) rfl rfl hl.1 rfl (lv_room (Nat.le_of_ble_eq_true rfl)) dX6_leastApart_32 ⟨Nat.zero_le _, Nat.zero_le _⟩) hS hA hP (fun H locs hP hS => ?_)
  refine lv_iconst (v := 1) hx hb dX6_leastApart_35 (by decide) ?_
  refine lv_iload_n hx hb dX6_leastApart_36 rfl (lv_at hl 1 rfl) ?_
  obtain ⟨r_9, hc_10, hf⟩ := bd1_in hf
  refine rcI (va_runSN (As := [.int v1]) (rest := [.int 1, .int r_7, .ref t_h]) ⟨hx, hb, hml, hown, hw⟩ ((ctX7_lesser l G v1 _ hc_10) _) (kSN hw calX7_lesser (nm_10 hK.2) rfl rfl ⟨Nat.le_of_ble_eq_true rfl, Nat.le_of_ble_eq_true rfl⟩) (rpS (hP.sub (ws' := []) [] rfl) hK) rfl rfl hl.1 rfl (lv_room (Nat.le_of_ble_eq_true rfl)) dX6_leastApart_37 ⟨Nat.zero_le _, Nat.zero_le _⟩) hS hA hP (fun H locs hP hS => ?_)
  refine lv_ishl hx hb dX6_leastApart_40 ?_
  refine lv_iconst (v := 0) hx hb dX6_leastApart_41 (by decide) ?_
  refine lv_iconst (v := 0) hx hb dX6_leastApart_42 (by decide) ?_
  obtain ⟨t_rest_11, t_least_12, hc_13, hf⟩ := bd2_in hf
  refine wcV (w1 := [oX6 t_h t_a t_windows r_1 r_3 r_5 t_least_12, arI G (t_a 1) 12 t_links, arI G (t_a 2) 144 t_prices, arI G (t_a 3) 12 t_rest_11]) (va_runV (As := [.int r_7, .int ((1 : Int32) <<< (r_9 &&& 31)), .int 0, .int 0]) (rest := []) ⟨hx, hb, hml, hown, hw⟩ ((ctX6_goFrom l G 16 t_h t_a t_windows t_links t_prices t_rest r_1 r_3 r_5 16777216 r_7 ((1 : Int32) <<< (r_9 &&& 31)) 0 0 _ _ hc_13) _) (kV hw calX6_goFrom kw_36_13 rfl rfl ⟨Nat.le_of_ble_eq_true rfl, Nat.le_of_ble_eq_true rfl⟩) (wpV (hP.sub (ws' := [oX6 t_h t_a t_windows r_1 r_3 r_5 16777216, arI G (t_a 1) 12 t_links, arI G (t_a 2) 144 t_prices, arI G (t_a 3) 12 t_rest]) [0, 1, 2, 3] rfl) (hD.sub (ws' := [oX6 t_h t_a t_windows r_1 r_3 r_5 16777216, arI G (t_a 1) 12 t_links, arI G (t_a 2) 144 t_prices, arI G (t_a 3) 12 t_rest]) [0, 1, 2, 3] (by decide) rfl) hK (ci := 6) (q0 := 0) rfl rfl) rfl rfl hl.1 rfl (lv_room (Nat.le_of_ble_eq_true rfl)) dX6_leastApart_43 ⟨Nat.zero_le _, Nat.zero_le _⟩) hS hA hP hD [0, 1, 2, 3] rfl rfl (fun H locs hP hD hS => ?_)
  have hP : va_P G.1 vwCl [oX6 t_h t_a t_windows r_1 r_3 r_5 t_least_12, arI G (t_a 1) 12 t_links, arI G (t_a 2) 144 t_prices, arI G (t_a 3) 12 t_rest_11] H := hP
  have hD : va_D A [oX6 t_h t_a t_windows r_1 r_3 r_5 t_least_12, arI G (t_a 1) 12 t_links, arI G (t_a 2) 144 t_prices, arI G (t_a 3) 12 t_rest_11] := hD
  refine lv_aload_n hx hb dX6_leastApart_46 rfl (lv_at hl 0 rfl) ?_
  refine va_get (D := G.1) (ci := 6) (v := .int t_least_12) (C := RX6) (T := TX6) (N := 9) hx hb hw inW6 hown hK.1 hP 0 rfl rfl 8 (by decide) (hw _ kw_36_12) (fun _ h9 => h9) rfl dX6_leastApart_47 ?_
  refine lv_ldc hx hb hown (hw _ kw_28_5) dX6_leastApart_50 ?_
  refine lv_icmp_ne (tgt := 59) hx hb dX6_leastApart_52 (by decide) (fun c_14 => ?_) (fun c_14 => ?_)
  · have hf := iq c_14 hf
    refine lv_aload_n hx hb dX6_leastApart_59 rfl (lv_at hl 0 rfl) ?_
    refine va_get (D := G.1) (ci := 6) (v := .int t_least_12) (C := RX6) (T := TX6) (N := 9) hx hb hw inW6 hown hK.1 hP 0 rfl rfl 8 (by decide) (hw _ kw_36_12) (fun _ h9 => h9) rfl dX6_leastApart_60 ?_
    exact hRet _ _ _ _ _ _ _ _ _ _ hf hP hS dX6_leastApart_63
  · have hf := ip c_14 hf
    refine lv_iconst (v := (-1)) hx hb dX6_leastApart_55 (by decide) ?_
    refine lv_goto (tgt := 63) hx hb dX6_leastApart_56 (by decide) ?_
    exact hRet _ _ _ _ _ _ _ _ _ _ hf hP hS dX6_leastApart_63
theorem calX7_both : CalV yX7_both cX7_both 3 (some .int) 2 := ⟨⟨kw_36_1, kw_1_2, by decide +kernel⟩, kw_35_23, kw_36_0⟩
set_option maxHeartbeats 8000000 in
set_option maxRecDepth 100000 in
theorem ctX7_both (l : Launch) (G : GT) (t_h : Nat) (t_a : Nat → Nat) (now_h : Nat) (now_a : Nat → Nat) (wy_h : Nat) (wy_a : Nat → Nat) (rd_h : Nat) (sp_h : Nat) (gp_h : Nat) (ch_h : Nat) (sb_h : Nat) (now_windows : Int32) (now_washes : Int32) (now_damp : Int32) (now_heard : Int32) (now_lines : Int32) (now_hour : Int32) (now_strings : Int32) (now_washPairs : Nat → Int32) (now_washHours : Nat → Int32) (now_pairs : Nat → Int32) (now_knots : Nat → Int32) (wy_windows : Int32) (wy_links : Nat → Int32) (wy_prices : Nat → Int32) (wy_rest : Nat → Int32) (wy_goal : Int32) (wy_otherFrom : Int32) (wy_otherTo : Int32) (wy_least : Int32) (v1 : Int32) (v2 : Int32) (r : Int32) (o_wy_windows : Int32) (o_wy_links : Nat → Int32) (o_wy_prices : Nat → Int32) (o_wy_rest : Nat → Int32) (o_wy_goal : Int32) (o_wy_otherFrom : Int32) (o_wy_otherTo : Int32) (o_wy_least : Int32) (hf : fX7_both now_windows now_washes now_damp now_hour now_strings now_washPairs now_washHours now_pairs now_knots wy_windows wy_links wy_prices wy_rest wy_goal wy_otherFrom wy_otherTo wy_least v1 v2 = some (r, o_wy_windows, o_wy_links, o_wy_prices, o_wy_rest, o_wy_goal, o_wy_otherFrom, o_wy_otherTo, o_wy_least)) : WrI l yX7_both (Cond.code yX7_both cX7_both 3 (some .int)) { frames := 21, cells := 0, slots := 0, locals := 544 } G [.ref t_h, .int v1, .int v2] [oX7 t_h t_a rd_h now_h sp_h wy_h gp_h ch_h sb_h, oX1 now_h now_a now_windows now_washes now_damp now_heard now_lines now_hour now_strings, arI G (now_a 8) 8 now_washPairs, arI G (now_a 9) 8 now_washHours, arI G (now_a 10) 21 now_pairs, arI G (now_a 11) 21 now_knots, oX6 wy_h wy_a wy_windows wy_goal wy_otherFrom wy_otherTo wy_least, arI G (wy_a 1) 12 wy_links, arI G (wy_a 2) 144 wy_prices, arI G (wy_a 3) 12 wy_rest] [oX7 t_h t_a rd_h now_h sp_h wy_h gp_h ch_h sb_h, oX1 now_h now_a now_windows now_washes now_damp now_heard now_lines now_hour now_strings, arI G (now_a 8) 8 now_washPairs, arI G (now_a 9) 8 now_washHours, arI G (now_a 10) 21 now_pairs, arI G (now_a 11) 21 now_knots, oX6 wy_h wy_a o_wy_windows o_wy_goal o_wy_otherFrom o_wy_otherTo o_wy_least, arI G (wy_a 1) 12 o_wy_links, arI G (wy_a 2) 144 o_wy_prices, arI G (wy_a 3) 12 o_wy_rest] r := by
  intro sz
  refine Met.ofW (cc := cX7_both) (maxL := 3) (ret := (some .int)) (by decide) rfl ?_
  intro p e s m args below meth c s₁ B hml hv
  obtain ⟨hargs, hsz, hP, hD0, hK⟩ := hv
  subst hsz
  obtain ⟨hx, hb, hr, hw, hown, hlk⟩ := fwB B
  refine fw_enter hargs (Nat.le_of_ble_eq_true rfl) (fun ls hl => ?_)
  have hl : lv_has ls 3 [(0, .ref t_h), (1, .int v1), (2, .int v2)] := hl
  refine fw_Q (P := fun Q => ∃ A : Nat → Prop, va_D A [oX7 t_h t_a rd_h now_h sp_h wy_h gp_h ch_h sb_h, oX1 now_h now_a now_windows now_washes now_damp now_heard now_lines now_hour now_strings, arI G (now_a 8) 8 now_washPairs, arI G (now_a 9) 8 now_washHours, arI G (now_a 10) 21 now_pairs, arI G (now_a 11) 21 now_knots, oX6 wy_h wy_a wy_windows wy_goal wy_otherFrom wy_otherTo wy_least, arI G (wy_a 1) 12 wy_links, arI G (wy_a 2) 144 wy_prices, arI G (wy_a 3) 12 wy_rest] ∧ va_S A s.heap s.heap [] ∧ (∀ q, s.heap.size ≤ q → A q) ∧ ∀ (v : Int32) (n_wy_windows : Int32) (n_wy_links : Nat → Int32) (n_wy_prices : Nat → Int32) (n_wy_rest : Nat → Int32) (n_wy_goal : Int32) (n_wy_otherFrom : Int32) (n_wy_otherTo : Int32) (n_wy_least : Int32) (H : Heap) (locs : List Loc) (pc : Nat) (ls : Array Slot), some (v, n_wy_windows, n_wy_links, n_wy_prices, n_wy_rest, n_wy_goal, n_wy_otherFrom, n_wy_otherTo, n_wy_least) = some (r, o_wy_windows, o_wy_links, o_wy_prices, o_wy_rest, o_wy_goal, o_wy_otherFrom, o_wy_otherTo, o_wy_least) → va_P G.1 vwCl [oX7 t_h t_a rd_h now_h sp_h wy_h gp_h ch_h sb_h, oX1 now_h now_a now_windows now_washes now_damp now_heard now_lines now_hour now_strings, arI G (now_a 8) 8 now_washPairs, arI G (now_a 9) 8 now_washHours, arI G (now_a 10) 21 now_pairs, arI G (now_a 11) 21 now_knots, oX6 wy_h wy_a n_wy_windows n_wy_goal n_wy_otherFrom n_wy_otherTo n_wy_least, arI G (wy_a 1) 12 n_wy_links, arI G (wy_a 2) 144 n_wy_prices, arI G (wy_a 3) 12 n_wy_rest] H → va_S A s.heap H locs → decode cX7_both pc = .ok (.ireturn, 1) → W p l e ({ frames := 21, cells := 0, slots := 0, locals := 544 } : Room) s m args below meth c H locs 0 0 Q (F0 m pc ls [.int v])) ⟨va_A [oX7 t_h t_a rd_h now_h sp_h wy_h gp_h ch_h sb_h, oX1 now_h now_a now_windows now_washes now_damp now_heard now_lines now_hour now_strings, arI G (now_a 8) 8 now_washPairs, arI G (now_a 9) 8 now_washHours, arI G (now_a 10) 21 now_pairs, arI G (now_a 11) 21 now_knots, oX6 wy_h wy_a wy_windows wy_goal wy_otherFrom wy_otherTo wy_least, arI G (wy_a 1) 12 wy_links, arI G (wy_a 2) 144 wy_prices, arI G (wy_a 3) 12 wy_rest] s.heap.size, hD0.self (sz := s.heap.size), va_S.rf, fun q h => Or.inr h, ?_⟩ ?_
  · intro v n_wy_windows n_wy_links n_wy_prices n_wy_rest n_wy_goal n_wy_otherFrom n_wy_otherTo n_wy_least H locs pc ls h hP hS hd
    cases h
    exact retWI hx hb hr hlk hS hP rfl hd
  rintro Q ⟨A, hD, hS, hA, hRet⟩
  change W p l e ({ frames := 21, cells := 0, slots := 0, locals := 544 } : Room) s m args below meth c _ _ 0 0 Q _
  unfold fX7_both at hf
  refine lv_aload_n hx hb dX7_both_0 rfl (lv_at hl 0 rfl) ?_
  refine va_get (D := G.1) (ci := 7) (v := .ref now_h) (C := RX7) (T := TX7) (N := 10) hx hb hw inW7 hown hK.1 hP 0 rfl rfl 1 (by decide) (hw _ kw_1_20) (fun _ h9 => h9) rfl dX7_both_1 ?_
  refine lv_iload_n hx hb dX7_both_4 rfl (lv_at hl 1 rfl) ?_
  refine lv_i2l hx hb dX7_both_5 rfl ?_
  obtain ⟨r_1, hc_2, hf⟩ := bd1_in hf
  refine rcI (va_runV (As := [.long (Int32.toInt64 v1)]) (rest := []) ⟨hx, hb, hml, hown, hw⟩ ((ctX1_hasPair l G now_h now_a now_windows now_washes now_damp now_heard now_lines now_hour now_strings (Int32.toInt64 v1) _ hc_2) _) (kV hw calX1_hasPair kw_21_7 rfl rfl ⟨Nat.le_of_ble_eq_true rfl, Nat.le_of_ble_eq_true rfl⟩) (rpV (hP.sub (ws' := [oX1 now_h now_a now_windows now_washes now_damp now_heard now_lines now_hour now_strings]) [1] rfl) hK (ci := 1) (q0 := 0) rfl rfl) rfl rfl hl.1 rfl (lv_room (Nat.le_of_ble_eq_true rfl)) dX7_both_6 ⟨Nat.zero_le _, Nat.zero_le _⟩) hS hA hP (fun H locs hP hS => ?_)
  refine lv_if_eq (tgt := 24) hx hb dX7_both_9 (by decide) (fun c_3 => ?_) (fun c_3 => ?_)
  · have hf := ip c_3 hf
    refine lv_bipush (v := (-2)) hx hb dX7_both_24 (by decide) ?_
    exact hRet _ _ _ _ _ _ _ _ _ _ _ _ _ hf hP hS dX7_both_26
  · have hf := iq c_3 hf
    refine lv_aload_n hx hb dX7_both_12 rfl (lv_at hl 0 rfl) ?_
    refine va_get (D := G.1) (ci := 7) (v := .ref now_h) (C := RX7) (T := TX7) (N := 10) hx hb hw inW7 hown hK.1 hP 0 rfl rfl 1 (by decide) (hw _ kw_1_20) (fun _ h9 => h9) rfl dX7_both_13 ?_
    refine lv_iload_n hx hb dX7_both_16 rfl (lv_at hl 2 rfl) ?_
    refine lv_i2l hx hb dX7_both_17 rfl ?_
    obtain ⟨r_4, hc_5, hf⟩ := bd1_in hf
    refine rcI (va_runV (As := [.long (Int32.toInt64 v2)]) (rest := []) ⟨hx, hb, hml, hown, hw⟩ ((ctX1_hasPair l G now_h now_a now_windows now_washes now_damp now_heard now_lines now_hour now_strings (Int32.toInt64 v2) _ hc_5) _) (kV hw calX1_hasPair kw_21_7 rfl rfl ⟨Nat.le_of_ble_eq_true rfl, Nat.le_of_ble_eq_true rfl⟩) (rpV (hP.sub (ws' := [oX1 now_h now_a now_windows now_washes now_damp now_heard now_lines now_hour now_strings]) [1] rfl) hK (ci := 1) (q0 := 0) rfl rfl) rfl rfl hl.1 rfl (lv_room (Nat.le_of_ble_eq_true rfl)) dX7_both_18 ⟨Nat.zero_le _, Nat.zero_le _⟩) hS hA hP (fun H locs hP hS => ?_)
    refine lv_if_ne (tgt := 27) hx hb dX7_both_21 (by decide) (fun c_6 => ?_) (fun c_6 => ?_)
    · have hf := iq c_6 hf
      refine lv_iload_n hx hb dX7_both_27 rfl (lv_at hl 1 rfl) ?_
      obtain ⟨r_7, hc_8, hf⟩ := bd1_in hf
      refine rcI (va_runS (As := [.int v1]) (rest := []) ⟨hx, hb, hml, hown, hw⟩ ((ctX7_endsOf l G v1 _ hc_8) _) (kS hw calX7_endsOf kw_36_2 rfl rfl ⟨Nat.le_of_ble_eq_true rfl, Nat.le_of_ble_eq_true rfl⟩) (rpS (hP.sub (ws' := []) [] rfl) hK) rfl rfl hl.1 rfl (lv_room (Nat.le_of_ble_eq_true rfl)) dX7_both_28 ⟨Nat.zero_le _, Nat.zero_le _⟩) hS hA hP (fun H locs hP hS => ?_)
      refine lv_iload_n hx hb dX7_both_31 rfl (lv_at hl 2 rfl) ?_
      obtain ⟨r_9, hc_10, hf⟩ := bd1_in hf
      refine rcI (va_runS (As := [.int v2]) (rest := [.int r_7]) ⟨hx, hb, hml, hown, hw⟩ ((ctX7_endsOf l G v2 _ hc_10) _) (kS hw calX7_endsOf kw_36_2 rfl rfl ⟨Nat.le_of_ble_eq_true rfl, Nat.le_of_ble_eq_true rfl⟩) (rpS (hP.sub (ws' := []) [] rfl) hK) rfl rfl hl.1 rfl (lv_room (Nat.le_of_ble_eq_true rfl)) dX7_both_32 ⟨Nat.zero_le _, Nat.zero_le _⟩) hS hA hP (fun H locs hP hS => ?_)
      refine lv_iand hx hb dX7_both_35 ?_
      refine lv_if_eq (tgt := 42) hx hb dX7_both_36 (by decide) (fun c_11 => ?_) (fun c_11 => ?_)
      · have hf := ip c_11 hf
        refine lv_aload_n hx hb dX7_both_42 rfl (lv_at hl 0 rfl) ?_
        refine va_get (D := G.1) (ci := 7) (v := .ref wy_h) (C := RX7) (T := TX7) (N := 10) hx hb hw inW7 hown hK.1 hP 0 rfl rfl 3 (by decide) (hw _ kw_2_1) (fun _ h9 => h9) rfl dX7_both_43 ?_
        refine lv_aload_n hx hb dX7_both_46 rfl (lv_at hl 0 rfl) ?_
        refine va_get (D := G.1) (ci := 7) (v := .ref now_h) (C := RX7) (T := TX7) (N := 10) hx hb hw inW7 hown hK.1 hP 0 rfl rfl 1 (by decide) (hw _ kw_1_20) (fun _ h9 => h9) rfl dX7_both_47 ?_
        refine lv_aload_n hx hb dX7_both_50 rfl (lv_at hl 0 rfl) ?_
        refine va_get (D := G.1) (ci := 7) (v := .ref now_h) (C := RX7) (T := TX7) (N := 10) hx hb hw inW7 hown hK.1 hP 0 rfl rfl 1 (by decide) (hw _ kw_1_20) (fun _ h9 => h9) rfl dX7_both_51 ?_
        refine va_getN (D := G.1) (ci := 1) (v := .int now_hour) (C := RX1) (T := TX1) (N := 12) hx hb hw inW1 hown hK.1 hP 1 rfl rfl 5 (by decide) ((nf_16 hK.2).use rfl) (fun _ h9 => h9) rfl dX7_both_54 ?_
        obtain ⟨wy_windows_12, wy_links_13, wy_prices_14, hc_15, hf⟩ := bd3_in hf
        refine wcV (w1 := [oX6 wy_h wy_a wy_windows_12 wy_goal wy_otherFrom wy_otherTo wy_least, arI G (wy_a 1) 12 wy_links_13, arI G (wy_a 2) 144 wy_prices_14, oX1 now_h now_a now_windows now_washes now_damp now_heard now_lines now_hour now_strings, arI G (now_a 8) 8 now_washPairs, arI G (now_a 9) 8 now_washHours, arI G (now_a 10) 21 now_pairs, arI G (now_a 11) 21 now_knots]) (va_runV (As := [.ref now_h, .int now_hour]) (rest := []) ⟨hx, hb, hml, hown, hw⟩ ((ctX6_takeStrings l G wy_h wy_a now_h now_a wy_windows wy_links wy_prices wy_goal wy_otherFrom wy_otherTo wy_least now_windows now_washes now_damp now_heard now_lines now_hour now_strings now_washPairs now_washHours now_pairs now_knots now_hour _ _ _ hc_15) _) (kV hw calX6_takeStrings kw_18_10 rfl rfl ⟨Nat.le_of_ble_eq_true rfl, Nat.le_of_ble_eq_true rfl⟩) (wpV (hP.sub (ws' := [oX6 wy_h wy_a wy_windows wy_goal wy_otherFrom wy_otherTo wy_least, arI G (wy_a 1) 12 wy_links, arI G (wy_a 2) 144 wy_prices, oX1 now_h now_a now_windows now_washes now_damp now_heard now_lines now_hour now_strings, arI G (now_a 8) 8 now_washPairs, arI G (now_a 9) 8 now_washHours, arI G (now_a 10) 21 now_pairs, arI G (now_a 11) 21 now_knots]) [6, 7, 8, 1, 2, 3, 4, 5] rfl) (hD.sub (ws' := [oX6 wy_h wy_a wy_windows wy_goal wy_otherFrom wy_otherTo wy_least, arI G (wy_a 1) 12 wy_links, arI G (wy_a 2) 144 wy_prices, oX1 now_h now_a now_windows now_washes now_damp now_heard now_lines now_hour now_strings, arI G (now_a 8) 8 now_washPairs, arI G (now_a 9) 8 now_washHours, arI G (now_a 10) 21 now_pairs, arI G (now_a 11) 21 now_knots]) [6, 7, 8, 1, 2, 3, 4, 5] (by decide) rfl) hK (ci := 6) (q0 := 0) rfl rfl) rfl rfl hl.1 rfl (lv_room (Nat.le_of_ble_eq_true rfl)) dX7_both_57 ⟨Nat.zero_le _, Nat.zero_le _⟩) hS hA hP hD [6, 7, 8, 1, 2, 3, 4, 5] rfl rfl (fun H locs hP hD hS => ?_)
        have hP : va_P G.1 vwCl [oX7 t_h t_a rd_h now_h sp_h wy_h gp_h ch_h sb_h, oX1 now_h now_a now_windows now_washes now_damp now_heard now_lines now_hour now_strings, arI G (now_a 8) 8 now_washPairs, arI G (now_a 9) 8 now_washHours, arI G (now_a 10) 21 now_pairs, arI G (now_a 11) 21 now_knots, oX6 wy_h wy_a wy_windows_12 wy_goal wy_otherFrom wy_otherTo wy_least, arI G (wy_a 1) 12 wy_links_13, arI G (wy_a 2) 144 wy_prices_14, arI G (wy_a 3) 12 wy_rest] H := hP
        have hD : va_D A [oX7 t_h t_a rd_h now_h sp_h wy_h gp_h ch_h sb_h, oX1 now_h now_a now_windows now_washes now_damp now_heard now_lines now_hour now_strings, arI G (now_a 8) 8 now_washPairs, arI G (now_a 9) 8 now_washHours, arI G (now_a 10) 21 now_pairs, arI G (now_a 11) 21 now_knots, oX6 wy_h wy_a wy_windows_12 wy_goal wy_otherFrom wy_otherTo wy_least, arI G (wy_a 1) 12 wy_links_13, arI G (wy_a 2) 144 wy_prices_14, arI G (wy_a 3) 12 wy_rest] := hD
        refine lv_aload_n hx hb dX7_both_60 rfl (lv_at hl 0 rfl) ?_
        refine va_get (D := G.1) (ci := 7) (v := .ref wy_h) (C := RX7) (T := TX7) (N := 10) hx hb hw inW7 hown hK.1 hP 0 rfl rfl 3 (by decide) (hw _ kw_2_1) (fun _ h9 => h9) rfl dX7_both_61 ?_
        refine lv_iload_n hx hb dX7_both_64 rfl (lv_at hl 1 rfl) ?_
        refine lv_iload_n hx hb dX7_both_65 rfl (lv_at hl 2 rfl) ?_
        obtain ⟨r_21, wy_rest_16, wy_goal_17, wy_otherFrom_18, wy_otherTo_19, wy_least_20, hc_22, hf⟩ := bd6_in hf
        refine wcI (w1 := [oX6 wy_h wy_a wy_windows_12 wy_goal_17 wy_otherFrom_18 wy_otherTo_19 wy_least_20, arI G (wy_a 1) 12 wy_links_13, arI G (wy_a 2) 144 wy_prices_14, arI G (wy_a 3) 12 wy_rest_16]) (va_runV (As := [.int v1, .int v2]) (rest := []) ⟨hx, hb, hml, hown, hw⟩ ((ctX6_leastApart l G wy_h wy_a wy_windows_12 wy_links_13 wy_prices_14 wy_rest wy_goal wy_otherFrom wy_otherTo wy_least v1 v2 _ _ _ _ _ _ hc_22) _) (kV hw calX6_leastApart kw_36_5 rfl rfl ⟨Nat.le_of_ble_eq_true rfl, Nat.le_of_ble_eq_true rfl⟩) (wpV (hP.sub (ws' := [oX6 wy_h wy_a wy_windows_12 wy_goal wy_otherFrom wy_otherTo wy_least, arI G (wy_a 1) 12 wy_links_13, arI G (wy_a 2) 144 wy_prices_14, arI G (wy_a 3) 12 wy_rest]) [6, 7, 8, 9] rfl) (hD.sub (ws' := [oX6 wy_h wy_a wy_windows_12 wy_goal wy_otherFrom wy_otherTo wy_least, arI G (wy_a 1) 12 wy_links_13, arI G (wy_a 2) 144 wy_prices_14, arI G (wy_a 3) 12 wy_rest]) [6, 7, 8, 9] (by decide) rfl) hK (ci := 6) (q0 := 0) rfl rfl) rfl rfl hl.1 rfl (lv_room (Nat.le_of_ble_eq_true rfl)) dX7_both_66 ⟨Nat.zero_le _, Nat.zero_le _⟩) hS hA hP hD [6, 7, 8, 9] rfl rfl (fun H locs hP hD hS => ?_)
        have hP : va_P G.1 vwCl [oX7 t_h t_a rd_h now_h sp_h wy_h gp_h ch_h sb_h, oX1 now_h now_a now_windows now_washes now_damp now_heard now_lines now_hour now_strings, arI G (now_a 8) 8 now_washPairs, arI G (now_a 9) 8 now_washHours, arI G (now_a 10) 21 now_pairs, arI G (now_a 11) 21 now_knots, oX6 wy_h wy_a wy_windows_12 wy_goal_17 wy_otherFrom_18 wy_otherTo_19 wy_least_20, arI G (wy_a 1) 12 wy_links_13, arI G (wy_a 2) 144 wy_prices_14, arI G (wy_a 3) 12 wy_rest_16] H := hP
        have hD : va_D A [oX7 t_h t_a rd_h now_h sp_h wy_h gp_h ch_h sb_h, oX1 now_h now_a now_windows now_washes now_damp now_heard now_lines now_hour now_strings, arI G (now_a 8) 8 now_washPairs, arI G (now_a 9) 8 now_washHours, arI G (now_a 10) 21 now_pairs, arI G (now_a 11) 21 now_knots, oX6 wy_h wy_a wy_windows_12 wy_goal_17 wy_otherFrom_18 wy_otherTo_19 wy_least_20, arI G (wy_a 1) 12 wy_links_13, arI G (wy_a 2) 144 wy_prices_14, arI G (wy_a 3) 12 wy_rest_16] := hD
        exact hRet _ _ _ _ _ _ _ _ _ _ _ _ _ hf hP hS dX7_both_69
      · have hf := iq c_11 hf
        refine lv_bipush (v := (-3)) hx hb dX7_both_39 (by decide) ?_
        exact hRet _ _ _ _ _ _ _ _ _ _ _ _ _ hf hP hS dX7_both_41
    · have hf := ip c_6 hf
      refine lv_bipush (v := (-2)) hx hb dX7_both_24 (by decide) ?_
      exact hRet _ _ _ _ _ _ _ _ _ _ _ _ _ hf hP hS dX7_both_26
theorem calX0_decide : CalV yX0_decide cX0_decide 5 none 4 := ⟨⟨kw_40_15, kw_2_8, by decide +kernel⟩, kw_40_13, kw_40_14⟩
set_option maxHeartbeats 8000000 in
set_option maxRecDepth 100000 in
theorem ctX0_decide (l : Launch) (G : GT) : ∀ (dd : Nat) (t_h : Nat) (t_a : Nat → Nat) (t_lengths : Nat → Int32) (t_crossed : Nat → Int32) (t_places : Int32) (t_most : Int32) (t_leastLength : Int32) (t_leastPlaces : Int32) (v1 : Int32) (v2 : Int32) (v3 : Int32) (v4 : Int32) (o_t_most : Int32) (o_t_leastLength : Int32) (o_t_leastPlaces : Int32) (hf : fX0_decide dd t_lengths t_crossed t_places t_most t_leastLength t_leastPlaces v1 v2 v3 v4 = some (o_t_most, o_t_leastLength, o_t_leastPlaces)), WrV l yX0_decide (Cond.code yX0_decide cX0_decide 5 none) { frames := 1 + dd, cells := 0, slots := 0, locals := 24 + dd * 24 } G [.ref t_h, .int v1, .int v2, .int v3, .int v4] [oX0 t_h t_a t_places t_most t_leastLength t_leastPlaces, arI G (t_a 0) 12 t_lengths, arI G (t_a 1) 12 t_crossed] [oX0 t_h t_a t_places o_t_most o_t_leastLength o_t_leastPlaces, arI G (t_a 0) 12 t_lengths, arI G (t_a 1) 12 t_crossed] := by
  intro dd
  induction dd with
  | zero => intro t_h t_a t_lengths t_crossed t_places t_most t_leastLength t_leastPlaces v1 v2 v3 v4 o_t_most o_t_leastLength o_t_leastPlaces hf; rw [fX0_decide] at hf; cases hf
  | succ dd ihd =>
  intro t_h t_a t_lengths t_crossed t_places t_most t_leastLength t_leastPlaces v1 v2 v3 v4 o_t_most o_t_leastLength o_t_leastPlaces hf
  rw [fX0_decide] at hf
  intro sz
  refine Met.ofW (cc := cX0_decide) (maxL := 5) (ret := none) (by decide) rfl ?_
  intro p e s m args below meth c s₁ B hml hv
  obtain ⟨hargs, hsz, hP, hD0, hK⟩ := hv
  subst hsz
  obtain ⟨hx, hb, hr, hw, hown, hlk⟩ := fwB B
  refine fw_enter hargs (Nat.le_of_ble_eq_true rfl) (fun ls hl => ?_)
  have hl : lv_has ls 5 [(0, .ref t_h), (1, .int v1), (2, .int v2), (3, .int v3), (4, .int v4)] := hl
  refine fw_Q (P := fun Q => ∃ A : Nat → Prop, va_D A [oX0 t_h t_a t_places t_most t_leastLength t_leastPlaces, arI G (t_a 0) 12 t_lengths, arI G (t_a 1) 12 t_crossed] ∧ va_S A s.heap s.heap [] ∧ (∀ q, s.heap.size ≤ q → A q) ∧ ∀ (n_t_most : Int32) (n_t_leastLength : Int32) (n_t_leastPlaces : Int32) (H : Heap) (locs : List Loc) (pc : Nat) (ls : Array Slot), some (n_t_most, n_t_leastLength, n_t_leastPlaces) = some (o_t_most, o_t_leastLength, o_t_leastPlaces) → va_P G.1 vwCl [oX0 t_h t_a t_places n_t_most n_t_leastLength n_t_leastPlaces, arI G (t_a 0) 12 t_lengths, arI G (t_a 1) 12 t_crossed] H → va_S A s.heap H locs → decode cX0_decide pc = .ok (.return_, 1) → W p l e ({ frames := 1 + (dd + 1), cells := 0, slots := 0, locals := 24 + (dd + 1) * 24 } : Room) s m args below meth c H locs 0 0 Q (F0 m pc ls [])) ⟨va_A [oX0 t_h t_a t_places t_most t_leastLength t_leastPlaces, arI G (t_a 0) 12 t_lengths, arI G (t_a 1) 12 t_crossed] s.heap.size, hD0.self (sz := s.heap.size), va_S.rf, fun q h => Or.inr h, ?_⟩ ?_
  · intro n_t_most n_t_leastLength n_t_leastPlaces H locs pc ls h hP hS hd
    cases h
    exact retWV hx hb hr hlk hS hP hd
  rintro Q ⟨A, hD, hS, hA, hRet⟩
  change W p l e ({ frames := 1 + (dd + 1), cells := 0, slots := 0, locals := 24 + (dd + 1) * 24 } : Room) s m args below meth c _ _ 0 0 Q _
  unfold fX0_decide_b at hf
  refine lv_iload_n hx hb dX0_decide_0 rfl (lv_at hl 2 rfl) ?_
  refine lv_aload_n hx hb dX0_decide_1 rfl (lv_at hl 0 rfl) ?_
  refine va_get (D := G.1) (ci := 0) (v := .int t_places) (C := RX0) (T := TX0) (N := 6) hx hb hw inW0 hown hK.1 hP 0 rfl rfl 2 (by decide) (hw _ kw_40_8) (fun _ h9 => h9) rfl dX0_decide_2 ?_
  refine lv_iadd hx hb dX0_decide_5 ?_
  refine lv_iload_n hx hb dX0_decide_6 rfl (lv_at hl 1 rfl) ?_
  refine lv_isub hx hb dX0_decide_7 ?_
  refine lv_aload_n hx hb dX0_decide_8 rfl (lv_at hl 0 rfl) ?_
  refine va_get (D := G.1) (ci := 0) (v := .int t_most) (C := RX0) (T := TX0) (N := 6) hx hb hw inW0 hown hK.1 hP 0 rfl rfl 3 (by decide) (hw _ kw_40_9) (fun _ h9 => h9) rfl dX0_decide_9 ?_
  refine lv_icmp_ge (tgt := 16) hx hb dX0_decide_12 (by decide) (fun c_1 => ?_) (fun c_1 => ?_)
  · have hf := ip c_1 hf
    refine lv_iload_n hx hb dX0_decide_16 rfl (lv_at hl 1 rfl) ?_
    refine lv_aload_n hx hb dX0_decide_17 rfl (lv_at hl 0 rfl) ?_
    refine va_get (D := G.1) (ci := 0) (v := .int t_places) (C := RX0) (T := TX0) (N := 6) hx hb hw inW0 hown hK.1 hP 0 rfl rfl 2 (by decide) (hw _ kw_40_8) (fun _ h9 => h9) rfl dX0_decide_18 ?_
    refine lv_icmp_lt (tgt := 33) hx hb dX0_decide_21 (by decide) (fun c_2 => ?_) (fun c_2 => ?_)
    · have hf := ip c_2 hf
      refine lv_aload_n hx hb dX0_decide_33 rfl (lv_at hl 0 rfl) ?_
      refine va_get (D := G.1) (ci := 0) (v := .ref (t_a 1)) (C := RX0) (T := TX0) (N := 6) hx hb hw inW0 hown hK.1 hP 0 rfl rfl 1 (by decide) (hw _ kw_4_18) (fun _ h9 => h9) rfl dX0_decide_34 ?_
      refine lv_iload_n hx hb dX0_decide_37 rfl (lv_at hl 1 rfl) ?_
      obtain ⟨hi_4, hf⟩ := rdI_in hf
      refine va_iald hx hb hK.1 hP 2 0 rfl rfl hi_4 dX0_decide_38 ?_
      refine lv_topi (fun x_3 ex_3 => ?_)
      have hf := hf x_3 ex_3
      refine lv_iload hx hb dX0_decide_39 (lv_at hl 4 rfl) ?_
      refine lv_iand hx hb dX0_decide_41 ?_
      refine jn_el hf (fun k_8 ek_8 hf => ?_)
      have J69 : ∀ (t_most_5 : Int32) (t_leastLength_6 : Int32) (t_leastPlaces_7 : Int32) (H : Heap) (locs : List Loc) (ls : Array Slot), va_P G.1 vwCl [oX0 t_h t_a t_places t_most_5 t_leastLength_6 t_leastPlaces_7, arI G (t_a 0) 12 t_lengths, arI G (t_a 1) 12 t_crossed] H → va_D A [oX0 t_h t_a t_places t_most_5 t_leastLength_6 t_leastPlaces_7, arI G (t_a 0) 12 t_lengths, arI G (t_a 1) 12 t_crossed] → va_S A s.heap H locs → lv_has ls 5 [(0, .ref t_h), (1, .int v1), (2, .int v2), (3, .int v3), (4, .int v4)] → k_8 t_most_5 t_leastLength_6 t_leastPlaces_7 = some (o_t_most, o_t_leastLength, o_t_leastPlaces) → W p l e ({ frames := 1 + (dd + 1), cells := 0, slots := 0, locals := 24 + (dd + 1) * 24 } : Room) s m args below meth c H locs 0 0 Q (F0 m 69 ls []) := by
        intro t_most_5 t_leastLength_6 t_leastPlaces_7 H locs ls hP hD hS hl hf
        rw [ek_8] at hf
        refine lv_aload_n hx hb dX0_decide_69 rfl (lv_at hl 0 rfl) ?_
        refine lv_iload_n hx hb dX0_decide_70 rfl (lv_at hl 1 rfl) ?_
        refine lv_iconst (v := 1) hx hb dX0_decide_71 (by decide) ?_
        refine lv_iadd hx hb dX0_decide_72 ?_
        refine lv_iload_n hx hb dX0_decide_73 rfl (lv_at hl 2 rfl) ?_
        refine lv_iload_n hx hb dX0_decide_74 rfl (lv_at hl 3 rfl) ?_
        refine lv_iload hx hb dX0_decide_75 (lv_at hl 4 rfl) ?_
        obtain ⟨t_most_9, t_leastLength_10, t_leastPlaces_11, hc_12, hf⟩ := bd3_in hf
        refine wcV (w1 := [oX0 t_h t_a t_places t_most_9 t_leastLength_10 t_leastPlaces_11, arI G (t_a 0) 12 t_lengths, arI G (t_a 1) 12 t_crossed]) (va_runV (As := [.int (v1 + 1), .int v2, .int v3, .int v4]) (rest := []) ⟨hx, hb, hml, hown, hw⟩ ((ihd t_h t_a t_lengths t_crossed t_places t_most_5 t_leastLength_6 t_leastPlaces_7 (v1 + 1) v2 v3 v4 _ _ _ hc_12) _) (kV hw calX0_decide kw_40_12 rfl rfl ⟨(by dsimp only; omega), (by dsimp only; omega)⟩) (wpV (hP.sub (ws' := [oX0 t_h t_a t_places t_most_5 t_leastLength_6 t_leastPlaces_7, arI G (t_a 0) 12 t_lengths, arI G (t_a 1) 12 t_crossed]) [0, 1, 2] rfl) (hD.sub (ws' := [oX0 t_h t_a t_places t_most_5 t_leastLength_6 t_leastPlaces_7, arI G (t_a 0) 12 t_lengths, arI G (t_a 1) 12 t_crossed]) [0, 1, 2] (by decide) rfl) hK (ci := 0) (q0 := 0) rfl rfl) rfl rfl hl.1 rfl (lv_room (Nat.le_of_ble_eq_true rfl)) dX0_decide_77 ⟨Nat.zero_le _, Nat.zero_le _⟩) hS hA hP hD [0, 1, 2] rfl rfl (fun H locs hP hD hS => ?_)
        have hP : va_P G.1 vwCl [oX0 t_h t_a t_places t_most_9 t_leastLength_10 t_leastPlaces_11, arI G (t_a 0) 12 t_lengths, arI G (t_a 1) 12 t_crossed] H := hP
        have hD : va_D A [oX0 t_h t_a t_places t_most_9 t_leastLength_10 t_leastPlaces_11, arI G (t_a 0) 12 t_lengths, arI G (t_a 1) 12 t_crossed] := hD
        exact hRet _ _ _ _ _ _ _ hf hP hS dX0_decide_80
      refine lv_if_ne (tgt := 69) hx hb dX0_decide_42 (by decide) (fun c_13 => ?_) (fun c_13 => ?_)
      · have hf := iq c_13 hf
        exact J69 _ _ _ _ _ _ hP hD hS (lv_sub hl [0, 1, 2, 3, 4] rfl) hf
      · have hf := ip c_13 hf
        refine lv_aload_n hx hb dX0_decide_45 rfl (lv_at hl 0 rfl) ?_
        refine lv_iload_n hx hb dX0_decide_46 rfl (lv_at hl 1 rfl) ?_
        refine lv_iconst (v := 1) hx hb dX0_decide_47 (by decide) ?_
        refine lv_iadd hx hb dX0_decide_48 ?_
        refine lv_iload_n hx hb dX0_decide_49 rfl (lv_at hl 2 rfl) ?_
        refine lv_iconst (v := 1) hx hb dX0_decide_50 (by decide) ?_
        refine lv_iadd hx hb dX0_decide_51 ?_
        refine lv_iload_n hx hb dX0_decide_52 rfl (lv_at hl 3 rfl) ?_
        refine lv_aload_n hx hb dX0_decide_53 rfl (lv_at hl 0 rfl) ?_
        refine va_get (D := G.1) (ci := 0) (v := .ref (t_a 0)) (C := RX0) (T := TX0) (N := 6) hx hb hw inW0 hown hK.1 hP 0 rfl rfl 0 (by decide) (hw _ kw_4_17) (fun _ h9 => h9) rfl dX0_decide_54 ?_
        refine lv_iload_n hx hb dX0_decide_57 rfl (lv_at hl 1 rfl) ?_
        obtain ⟨hi_15, hf⟩ := rdI_in hf
        refine va_iald hx hb hK.1 hP 1 0 rfl rfl hi_15 dX0_decide_58 ?_
        refine lv_topi (fun x_14 ex_14 => ?_)
        have hf := hf x_14 ex_14
        refine lv_iadd hx hb dX0_decide_59 ?_
        refine lv_iload hx hb dX0_decide_60 (lv_at hl 4 rfl) ?_
        refine lv_iconst (v := 1) hx hb dX0_decide_62 (by decide) ?_
        refine lv_iload_n hx hb dX0_decide_63 rfl (lv_at hl 1 rfl) ?_
        refine lv_ishl hx hb dX0_decide_64 ?_
        refine lv_ior hx hb dX0_decide_65 ?_
        obtain ⟨t_most_16, t_leastLength_17, t_leastPlaces_18, hc_19, hf⟩ := bd3_in hf
        refine wcV (w1 := [oX0 t_h t_a t_places t_most_16 t_leastLength_17 t_leastPlaces_18, arI G (t_a 0) 12 t_lengths, arI G (t_a 1) 12 t_crossed]) (va_runV (As := [.int (v1 + 1), .int (v2 + 1), .int (v3 + x_14), .int (v4 ||| ((1 : Int32) <<< (v1 &&& 31)))]) (rest := []) ⟨hx, hb, hml, hown, hw⟩ ((ihd t_h t_a t_lengths t_crossed t_places t_most t_leastLength t_leastPlaces (v1 + 1) (v2 + 1) (v3 + x_14) (v4 ||| ((1 : Int32) <<< (v1 &&& 31))) _ _ _ hc_19) _) (kV hw calX0_decide kw_40_12 rfl rfl ⟨(by dsimp only; omega), (by dsimp only; omega)⟩) (wpV (hP.sub (ws' := [oX0 t_h t_a t_places t_most t_leastLength t_leastPlaces, arI G (t_a 0) 12 t_lengths, arI G (t_a 1) 12 t_crossed]) [0, 1, 2] rfl) (hD.sub (ws' := [oX0 t_h t_a t_places t_most t_leastLength t_leastPlaces, arI G (t_a 0) 12 t_lengths, arI G (t_a 1) 12 t_crossed]) [0, 1, 2] (by decide) rfl) hK (ci := 0) (q0 := 0) rfl rfl) rfl rfl hl.1 rfl (lv_room (Nat.le_of_ble_eq_true rfl)) dX0_decide_66 ⟨Nat.zero_le _, Nat.zero_le _⟩) hS hA hP hD [0, 1, 2] rfl rfl (fun H locs hP hD hS => ?_)
        have hP : va_P G.1 vwCl [oX0 t_h t_a t_places t_most_16 t_leastLength_17 t_leastPlaces_18, arI G (t_a 0) 12 t_lengths, arI G (t_a 1) 12 t_crossed] H := hP
        have hD : va_D A [oX0 t_h t_a t_places t_most_16 t_leastLength_17 t_leastPlaces_18, arI G (t_a 0) 12 t_lengths, arI G (t_a 1) 12 t_crossed] := hD
        exact J69 _ _ _ _ _ _ hP hD hS (lv_sub hl [0, 1, 2, 3, 4] rfl) hf
    · have hf := iq c_2 hf
      refine lv_aload_n hx hb dX0_decide_24 rfl (lv_at hl 0 rfl) ?_
      refine lv_iload_n hx hb dX0_decide_25 rfl (lv_at hl 2 rfl) ?_
      refine lv_iload_n hx hb dX0_decide_26 rfl (lv_at hl 3 rfl) ?_
      refine lv_iload hx hb dX0_decide_27 (lv_at hl 4 rfl) ?_
      obtain ⟨t_most_20, t_leastLength_21, t_leastPlaces_22, hc_23, hf⟩ := bd3_in hf
      refine wcV (w1 := [oX0 t_h t_a t_places t_most_20 t_leastLength_21 t_leastPlaces_22]) (va_runV (As := [.int v2, .int v3, .int v4]) (rest := []) ⟨hx, hb, hml, hown, hw⟩ ((ctX0_compare l G t_h t_a t_places t_most t_leastLength t_leastPlaces v2 v3 v4 _ _ _ hc_23) _) (kV hw calX0_compare kw_40_16 rfl rfl ⟨(by dsimp only; omega), (by dsimp only; omega)⟩) (wpV (hP.sub (ws' := [oX0 t_h t_a t_places t_most t_leastLength t_leastPlaces]) [0] rfl) (hD.sub (ws' := [oX0 t_h t_a t_places t_most t_leastLength t_leastPlaces]) [0] (by decide) rfl) hK (ci := 0) (q0 := 0) rfl rfl) rfl rfl hl.1 rfl (lv_room (Nat.le_of_ble_eq_true rfl)) dX0_decide_29 ⟨Nat.zero_le _, Nat.zero_le _⟩) hS hA hP hD [0] rfl rfl (fun H locs hP hD hS => ?_)
      have hP : va_P G.1 vwCl [oX0 t_h t_a t_places t_most_20 t_leastLength_21 t_leastPlaces_22, arI G (t_a 0) 12 t_lengths, arI G (t_a 1) 12 t_crossed] H := hP
      have hD : va_D A [oX0 t_h t_a t_places t_most_20 t_leastLength_21 t_leastPlaces_22, arI G (t_a 0) 12 t_lengths, arI G (t_a 1) 12 t_crossed] := hD
      exact hRet _ _ _ _ _ _ _ hf hP hS dX0_decide_32
  · have hf := iq c_1 hf
    exact hRet _ _ _ _ _ _ _ hf hP hS dX0_decide_15
theorem calX0_choose : CalV yX0_choose cX0_choose 5 none 2 := ⟨⟨kw_40_6, kw_2_8, by decide +kernel⟩, kw_40_4, kw_40_5⟩
set_option maxHeartbeats 8000000 in
set_option maxRecDepth 100000 in
theorem ctX0_choose (l : Launch) (G : GT) (t_h : Nat) (t_a : Nat → Nat) (p1_h : Nat) (p1_a : Nat → Nat) (p2_h : Nat) (p2_a : Nat → Nat) (t_lengths : Nat → Int32) (t_crossed : Nat → Int32) (t_places : Int32) (t_most : Int32) (t_leastLength : Int32) (t_leastPlaces : Int32) (p1_windows : Int32) (p1_washes : Int32) (p1_damp : Int32) (p1_heard : Int32) (p1_lines : Int32) (p1_hour : Int32) (p1_strings : Int32) (p2_values : Nat → Int64) (p2_sort : Int32) (p2_size : Int32) (o_t_lengths : Nat → Int32) (o_t_crossed : Nat → Int32) (o_t_places : Int32) (o_t_most : Int32) (o_t_leastLength : Int32) (o_t_leastPlaces : Int32) (hf : fX0_choose t_lengths t_crossed t_places t_most t_leastLength t_leastPlaces p1_windows p2_values p2_size = some (o_t_lengths, o_t_crossed, o_t_places, o_t_most, o_t_leastLength, o_t_leastPlaces)) : WrV l yX0_choose (Cond.code yX0_choose cX0_choose 5 none) { frames := 18, cells := 0, slots := 0, locals := 432 } G [.ref t_h, .ref p1_h, .ref p2_h] [oX0 t_h t_a t_places t_most t_leastLength t_leastPlaces, arI G (t_a 0) 12 t_lengths, arI G (t_a 1) 12 t_crossed, oX1 p1_h p1_a p1_windows p1_washes p1_damp p1_heard p1_lines p1_hour p1_strings, oX4 p2_h p2_a p2_sort p2_size, arJ G (p2_a 0) 40 p2_values] [oX0 t_h t_a o_t_places o_t_most o_t_leastLength o_t_leastPlaces, arI G (t_a 0) 12 o_t_lengths, arI G (t_a 1) 12 o_t_crossed, oX1 p1_h p1_a p1_windows p1_washes p1_damp p1_heard p1_lines p1_hour p1_strings, oX4 p2_h p2_a p2_sort p2_size, arJ G (p2_a 0) 40 p2_values] := by
  intro sz
  refine Met.ofW (cc := cX0_choose) (maxL := 5) (ret := none) (by decide) rfl ?_
  intro p e s m args below meth c s₁ B hml hv
  obtain ⟨hargs, hsz, hP, hD0, hK⟩ := hv
  subst hsz
  obtain ⟨hx, hb, hr, hw, hown, hlk⟩ := fwB B
  refine fw_enter hargs (Nat.le_of_ble_eq_true rfl) (fun ls hl => ?_)
  have hl : lv_has ls 5 [(0, .ref t_h), (1, .ref p1_h), (2, .ref p2_h)] := hl
  refine fw_Q (P := fun Q => ∃ A : Nat → Prop, va_D A [oX0 t_h t_a t_places t_most t_leastLength t_leastPlaces, arI G (t_a 0) 12 t_lengths, arI G (t_a 1) 12 t_crossed, oX1 p1_h p1_a p1_windows p1_washes p1_damp p1_heard p1_lines p1_hour p1_strings, oX4 p2_h p2_a p2_sort p2_size, arJ G (p2_a 0) 40 p2_values] ∧ va_S A s.heap s.heap [] ∧ (∀ q, s.heap.size ≤ q → A q) ∧ ∀ (n_t_lengths : Nat → Int32) (n_t_crossed : Nat → Int32) (n_t_places : Int32) (n_t_most : Int32) (n_t_leastLength : Int32) (n_t_leastPlaces : Int32) (H : Heap) (locs : List Loc) (pc : Nat) (ls : Array Slot), some (n_t_lengths, n_t_crossed, n_t_places, n_t_most, n_t_leastLength, n_t_leastPlaces) = some (o_t_lengths, o_t_crossed, o_t_places, o_t_most, o_t_leastLength, o_t_leastPlaces) → va_P G.1 vwCl [oX0 t_h t_a n_t_places n_t_most n_t_leastLength n_t_leastPlaces, arI G (t_a 0) 12 n_t_lengths, arI G (t_a 1) 12 n_t_crossed, oX1 p1_h p1_a p1_windows p1_washes p1_damp p1_heard p1_lines p1_hour p1_strings, oX4 p2_h p2_a p2_sort p2_size, arJ G (p2_a 0) 40 p2_values] H → va_S A s.heap H locs → decode cX0_choose pc = .ok (.return_, 1) → W p l e ({ frames := 18, cells := 0, slots := 0, locals := 432 } : Room) s m args below meth c H locs 0 0 Q (F0 m pc ls [])) ⟨va_A [oX0 t_h t_a t_places t_most t_leastLength t_leastPlaces, arI G (t_a 0) 12 t_lengths, arI G (t_a 1) 12 t_crossed, oX1 p1_h p1_a p1_windows p1_washes p1_damp p1_heard p1_lines p1_hour p1_strings, oX4 p2_h p2_a p2_sort p2_size, arJ G (p2_a 0) 40 p2_values] s.heap.size, hD0.self (sz := s.heap.size), va_S.rf, fun q h => Or.inr h, ?_⟩ ?_
  · intro n_t_lengths n_t_crossed n_t_places n_t_most n_t_leastLength n_t_leastPlaces H locs pc ls h hP hS hd
    cases h
    exact retWV hx hb hr hlk hS hP hd
  rintro Q ⟨A, hD, hS, hA, hRet⟩
  change W p l e ({ frames := 18, cells := 0, slots := 0, locals := 432 } : Room) s m args below meth c _ _ 0 0 Q _
  have L49 : ∀ (l3 : Int32) (t_lengths : Nat → Int32) (t_places : Int32) (t_most : Int32) (t_leastLength : Int32) (t_leastPlaces : Int32) (K : (Nat → Int32) → Option ((Nat → Int32) × (Nat → Int32) × Int32 × Int32 × Int32 × Int32)) (n : Nat) (l4 : Int32) (t_crossed : Nat → Int32) (H : Heap) (locs : List Loc) (ls : Array Slot), va_P G.1 vwCl [oX0 t_h t_a t_places t_most t_leastLength t_leastPlaces, arI G (t_a 0) 12 t_lengths, arI G (t_a 1) 12 t_crossed, oX1 p1_h p1_a p1_windows p1_washes p1_damp p1_heard p1_lines p1_hour p1_strings, oX4 p2_h p2_a p2_sort p2_size, arJ G (p2_a 0) 40 p2_values] H → va_D A [oX0 t_h t_a t_places t_most t_leastLength t_leastPlaces, arI G (t_a 0) 12 t_lengths, arI G (t_a 1) 12 t_crossed, oX1 p1_h p1_a p1_windows p1_washes p1_damp p1_heard p1_lines p1_hour p1_strings, oX4 p2_h p2_a p2_sort p2_size, arJ G (p2_a 0) 40 p2_values] → va_S A s.heap H locs → lv_has ls 5 [(0, .ref t_h), (1, .ref p1_h), (2, .ref p2_h), (3, .int l3), (4, .int l4)] → fX0_choose_49 l3 t_places p2_values p2_size K n l4 t_crossed = some (o_t_lengths, o_t_crossed, o_t_places, o_t_most, o_t_leastLength, o_t_leastPlaces) → (∀ (kt_crossed : Nat → Int32) (H : Heap) (locs : List Loc) (ls : Array Slot), va_P G.1 vwCl [oX0 t_h t_a t_places t_most t_leastLength t_leastPlaces, arI G (t_a 0) 12 t_lengths, arI G (t_a 1) 12 kt_crossed, oX1 p1_h p1_a p1_windows p1_washes p1_damp p1_heard p1_lines p1_hour p1_strings, oX4 p2_h p2_a p2_sort p2_size, arJ G (p2_a 0) 40 p2_values] H → va_D A [oX0 t_h t_a t_places t_most t_leastLength t_leastPlaces, arI G (t_a 0) 12 t_lengths, arI G (t_a 1) 12 kt_crossed, oX1 p1_h p1_a p1_windows p1_washes p1_damp p1_heard p1_lines p1_hour p1_strings, oX4 p2_h p2_a p2_sort p2_size, arJ G (p2_a 0) 40 p2_values] → va_S A s.heap H locs → lv_has ls 5 [(0, .ref t_h), (1, .ref p1_h), (2, .ref p2_h), (3, .int l3)] → K kt_crossed = some (o_t_lengths, o_t_crossed, o_t_places, o_t_most, o_t_leastLength, o_t_leastPlaces) → W p l e ({ frames := 18, cells := 0, slots := 0, locals := 432 } : Room) s m args below meth c H locs 0 0 Q (F0 m 96 ls [])) → W p l e ({ frames := 18, cells := 0, slots := 0, locals := 432 } : Room) s m args below meth c H locs 0 0 Q (F0 m 49 ls []) := by
    intro l3 t_lengths t_places t_most t_leastLength t_leastPlaces K n
    induction n with
    | zero => intro l4 t_crossed H locs ls hP hD hS hl hf; rw [fX0_choose_49] at hf; cases hf
    | succ n ih =>
      intro l4 t_crossed H locs ls hP hD hS hl hf hX
      rw [fX0_choose_49] at hf
      refine lv_iload hx hb dX0_choose_49 (lv_at hl 4 rfl) ?_
      refine lv_aload_n hx hb dX0_choose_51 rfl (lv_at hl 0 rfl) ?_
      refine va_get (D := G.1) (ci := 0) (v := .int t_places) (C := RX0) (T := TX0) (N := 6) hx hb hw inW0 hown hK.1 hP 0 rfl rfl 2 (by decide) (hw _ kw_40_8) (fun _ h9 => h9) rfl dX0_choose_52 ?_
      refine lv_icmp_ge (tgt := 96) hx hb dX0_choose_55 (by decide) (fun c_11 => ?_) (fun c_11 => ?_)
      · have hf := ip c_11 hf
        exact hX _ _ _ _ hP hD hS (lv_sub hl [0, 1, 2, 3] rfl) hf
      · have hf := iq c_11 hf
        refine lv_aload_n hx hb dX0_choose_58 rfl (lv_at hl 2 rfl) ?_
        refine lv_iload_n hx hb dX0_choose_59 rfl (lv_at hl 3 rfl) ?_
        obtain ⟨r_12, hc_13, hf⟩ := bd1_in hf
        refine rcL (va_runV (As := [.int l3]) (rest := []) ⟨hx, hb, hml, hown, hw⟩ ((ctX4_numberAt l G p2_h p2_a p2_values p2_sort p2_size l3 _ hc_13) _) (kV hw calX4_numberAt kw_40_10 rfl rfl ⟨Nat.le_of_ble_eq_true rfl, Nat.le_of_ble_eq_true rfl⟩) (rpV (hP.sub (ws' := [oX4 p2_h p2_a p2_sort p2_size, arJ G (p2_a 0) 40 p2_values]) [4, 5] rfl) hK (ci := 4) (q0 := 0) rfl rfl) rfl rfl hl.1 rfl (lv_room (Nat.le_of_ble_eq_true rfl)) dX0_choose_60 ⟨Nat.zero_le _, Nat.zero_le _⟩) hS hA hP (fun H locs hP hS => ?_)
        refine lv_l2i hx hb dX0_choose_63 rfl ?_
        refine lv_aload_n hx hb dX0_choose_64 rfl (lv_at hl 2 rfl) ?_
        refine lv_iload hx hb dX0_choose_65 (lv_at hl 4 rfl) ?_
        obtain ⟨r_14, hc_15, hf⟩ := bd1_in hf
        refine rcL (va_runV (As := [.int l4]) (rest := [.int (Int64.toInt32 r_12)]) ⟨hx, hb, hml, hown, hw⟩ ((ctX4_numberAt l G p2_h p2_a p2_values p2_sort p2_size l4 _ hc_15) _) (kV hw calX4_numberAt kw_40_10 rfl rfl ⟨Nat.le_of_ble_eq_true rfl, Nat.le_of_ble_eq_true rfl⟩) (rpV (hP.sub (ws' := [oX4 p2_h p2_a p2_sort p2_size, arJ G (p2_a 0) 40 p2_values]) [4, 5] rfl) hK (ci := 4) (q0 := 0) rfl rfl) rfl rfl hl.1 rfl (lv_room (Nat.le_of_ble_eq_true rfl)) dX0_choose_67 ⟨Nat.zero_le _, Nat.zero_le _⟩) hS hA hP (fun H locs hP hS => ?_)
        refine lv_l2i hx hb dX0_choose_70 rfl ?_
        obtain ⟨r_16, hc_17, hf⟩ := bd1_in hf
        refine rcI (va_runSN (As := [.int (Int64.toInt32 r_12), .int (Int64.toInt32 r_14)]) (rest := []) ⟨hx, hb, hml, hown, hw⟩ ((ctX7_crossing l G (Int64.toInt32 r_12) (Int64.toInt32 r_14) _ hc_17) _) (kSN hw calX7_crossing (nm_14 hK.2) rfl rfl ⟨Nat.le_of_ble_eq_true rfl, Nat.le_of_ble_eq_true rfl⟩) (rpS (hP.sub (ws' := []) [] rfl) hK) rfl rfl hl.1 rfl (lv_room (Nat.le_of_ble_eq_true rfl)) dX0_choose_71 ⟨Nat.zero_le _, Nat.zero_le _⟩) hS hA hP (fun H locs hP hS => ?_)
        refine lv_if_eq (tgt := 90) hx hb dX0_choose_74 (by decide) (fun c_18 => ?_) (fun c_18 => ?_)
        · have hf := ip c_18 hf
          refine lv_iinc (v := (l4 + 1)) (lv' := [(4, .int (l4 + 1)), (0, .ref t_h), (1, .ref p1_h), (2, .ref p2_h), (3, .int l3)]) hx hb dX0_choose_90 hl (k := 4) rfl (by rfl) (by decide) rfl (fun ls hl => ?_)
          refine lv_goto (tgt := 49) hx hb dX0_choose_93 (by decide) ?_
          exact ih _ _ _ _ _ hP hD hS (lv_sub hl [1, 2, 3, 4, 0] rfl) hf hX
        · have hf := iq c_18 hf
          refine lv_aload_n hx hb dX0_choose_77 rfl (lv_at hl 0 rfl) ?_
          refine va_get (D := G.1) (ci := 0) (v := .ref (t_a 1)) (C := RX0) (T := TX0) (N := 6) hx hb hw inW0 hown hK.1 hP 0 rfl rfl 1 (by decide) (hw _ kw_4_18) (fun _ h9 => h9) rfl dX0_choose_78 ?_
          refine lv_iload_n hx hb dX0_choose_81 rfl (lv_at hl 3 rfl) ?_
          refine lv_dup2_11 hx hb dX0_choose_82 rfl rfl ?_
          obtain ⟨hi_20, hf⟩ := rdI_in hf
          refine va_iald hx hb hK.1 hP 2 0 rfl rfl hi_20 dX0_choose_83 ?_
          refine lv_topi (fun x_19 ex_19 => ?_)
          have hf := hf x_19 ex_19
          refine lv_iconst (v := 1) hx hb dX0_choose_84 (by decide) ?_
          refine lv_iload hx hb dX0_choose_85 (lv_at hl 4 rfl) ?_
          refine lv_ishl hx hb dX0_choose_87 ?_
          refine lv_ior hx hb dX0_choose_88 ?_
          obtain ⟨hi_22, hf⟩ := wrI_in hf
          refine xiast hx hb hK.1 hP hD hS 2 0 rfl rfl hi_22 dX0_choose_89 (fun t_crossed_21 H locs et_crossed_21 hP hD hS => ?_)
          have hf := hf t_crossed_21 et_crossed_21
          have hP : va_P G.1 vwCl [oX0 t_h t_a t_places t_most t_leastLength t_leastPlaces, arI G (t_a 0) 12 t_lengths, arI G (t_a 1) 12 t_crossed_21, oX1 p1_h p1_a p1_windows p1_washes p1_damp p1_heard p1_lines p1_hour p1_strings, oX4 p2_h p2_a p2_sort p2_size, arJ G (p2_a 0) 40 p2_values] H := hP
          have hD : va_D A [oX0 t_h t_a t_places t_most t_leastLength t_leastPlaces, arI G (t_a 0) 12 t_lengths, arI G (t_a 1) 12 t_crossed_21, oX1 p1_h p1_a p1_windows p1_washes p1_damp p1_heard p1_lines p1_hour p1_strings, oX4 p2_h p2_a p2_sort p2_size, arJ G (p2_a 0) 40 p2_values] := hD
          refine lv_iinc (v := (l4 + 1)) (lv' := [(4, .int (l4 + 1)), (0, .ref t_h), (1, .ref p1_h), (2, .ref p2_h), (3, .int l3)]) hx hb dX0_choose_90 hl (k := 4) rfl (by rfl) (by decide) rfl (fun ls hl => ?_)
          refine lv_goto (tgt := 49) hx hb dX0_choose_93 (by decide) ?_
          exact ih _ _ _ _ _ hP hD hS (lv_sub hl [1, 2, 3, 4, 0] rfl) hf hX
  have L15 : ∀ (t_places : Int32) (t_most : Int32) (t_leastLength : Int32) (t_leastPlaces : Int32) (K : (Nat → Int32) → (Nat → Int32) → Option ((Nat → Int32) × (Nat → Int32) × Int32 × Int32 × Int32 × Int32)) (n : Nat) (l3 : Int32) (t_lengths : Nat → Int32) (t_crossed : Nat → Int32) (H : Heap) (locs : List Loc) (ls : Array Slot), va_P G.1 vwCl [oX0 t_h t_a t_places t_most t_leastLength t_leastPlaces, arI G (t_a 0) 12 t_lengths, arI G (t_a 1) 12 t_crossed, oX1 p1_h p1_a p1_windows p1_washes p1_damp p1_heard p1_lines p1_hour p1_strings, oX4 p2_h p2_a p2_sort p2_size, arJ G (p2_a 0) 40 p2_values] H → va_D A [oX0 t_h t_a t_places t_most t_leastLength t_leastPlaces, arI G (t_a 0) 12 t_lengths, arI G (t_a 1) 12 t_crossed, oX1 p1_h p1_a p1_windows p1_washes p1_damp p1_heard p1_lines p1_hour p1_strings, oX4 p2_h p2_a p2_sort p2_size, arJ G (p2_a 0) 40 p2_values] → va_S A s.heap H locs → lv_has ls 5 [(0, .ref t_h), (1, .ref p1_h), (2, .ref p2_h), (3, .int l3)] → fX0_choose_15 t_places p1_windows p2_values p2_size K n l3 t_lengths t_crossed = some (o_t_lengths, o_t_crossed, o_t_places, o_t_most, o_t_leastLength, o_t_leastPlaces) → (∀ (kt_lengths : Nat → Int32) (kt_crossed : Nat → Int32) (H : Heap) (locs : List Loc) (ls : Array Slot), va_P G.1 vwCl [oX0 t_h t_a t_places t_most t_leastLength t_leastPlaces, arI G (t_a 0) 12 kt_lengths, arI G (t_a 1) 12 kt_crossed, oX1 p1_h p1_a p1_windows p1_washes p1_damp p1_heard p1_lines p1_hour p1_strings, oX4 p2_h p2_a p2_sort p2_size, arJ G (p2_a 0) 40 p2_values] H → va_D A [oX0 t_h t_a t_places t_most t_leastLength t_leastPlaces, arI G (t_a 0) 12 kt_lengths, arI G (t_a 1) 12 kt_crossed, oX1 p1_h p1_a p1_windows p1_washes p1_damp p1_heard p1_lines p1_hour p1_strings, oX4 p2_h p2_a p2_sort p2_size, arJ G (p2_a 0) 40 p2_values] → va_S A s.heap H locs → lv_has ls 5 [(0, .ref t_h)] → K kt_lengths kt_crossed = some (o_t_lengths, o_t_crossed, o_t_places, o_t_most, o_t_leastLength, o_t_leastPlaces) → W p l e ({ frames := 18, cells := 0, slots := 0, locals := 432 } : Room) s m args below meth c H locs 0 0 Q (F0 m 102 ls [])) → W p l e ({ frames := 18, cells := 0, slots := 0, locals := 432 } : Room) s m args below meth c H locs 0 0 Q (F0 m 15 ls []) := by
    intro t_places t_most t_leastLength t_leastPlaces K n
    induction n with
    | zero => intro l3 t_lengths t_crossed H locs ls hP hD hS hl hf; rw [fX0_choose_15] at hf; cases hf
    | succ n ih =>
      intro l3 t_lengths t_crossed H locs ls hP hD hS hl hf hX
      rw [fX0_choose_15] at hf
      refine lv_iload_n hx hb dX0_choose_15 rfl (lv_at hl 3 rfl) ?_
      refine lv_aload_n hx hb dX0_choose_16 rfl (lv_at hl 0 rfl) ?_
      refine va_get (D := G.1) (ci := 0) (v := .int t_places) (C := RX0) (T := TX0) (N := 6) hx hb hw inW0 hown hK.1 hP 0 rfl rfl 2 (by decide) (hw _ kw_40_8) (fun _ h9 => h9) rfl dX0_choose_17 ?_
      refine lv_icmp_ge (tgt := 102) hx hb dX0_choose_20 (by decide) (fun c_2 => ?_) (fun c_2 => ?_)
      · have hf := ip c_2 hf
        exact hX _ _ _ _ _ hP hD hS (lv_sub hl [0] rfl) hf
      · have hf := iq c_2 hf
        refine lv_aload_n hx hb dX0_choose_23 rfl (lv_at hl 0 rfl) ?_
        refine va_get (D := G.1) (ci := 0) (v := .ref (t_a 0)) (C := RX0) (T := TX0) (N := 6) hx hb hw inW0 hown hK.1 hP 0 rfl rfl 0 (by decide) (hw _ kw_4_17) (fun _ h9 => h9) rfl dX0_choose_24 ?_
        refine lv_iload_n hx hb dX0_choose_27 rfl (lv_at hl 3 rfl) ?_
        refine lv_aload_n hx hb dX0_choose_28 rfl (lv_at hl 1 rfl) ?_
        refine lv_aload_n hx hb dX0_choose_29 rfl (lv_at hl 2 rfl) ?_
        refine lv_iload_n hx hb dX0_choose_30 rfl (lv_at hl 3 rfl) ?_
        obtain ⟨r_3, hc_4, hf⟩ := bd1_in hf
        refine rcL (va_runV (As := [.int l3]) (rest := [.ref p1_h, .int l3, .ref (t_a 0)]) ⟨hx, hb, hml, hown, hw⟩ ((ctX4_numberAt l G p2_h p2_a p2_values p2_sort p2_size l3 _ hc_4) _) (kV hw calX4_numberAt kw_40_10 rfl rfl ⟨Nat.le_of_ble_eq_true rfl, Nat.le_of_ble_eq_true rfl⟩) (rpV (hP.sub (ws' := [oX4 p2_h p2_a p2_sort p2_size, arJ G (p2_a 0) 40 p2_values]) [4, 5] rfl) hK (ci := 4) (q0 := 0) rfl rfl) rfl rfl hl.1 rfl (lv_room (Nat.le_of_ble_eq_true rfl)) dX0_choose_31 ⟨Nat.zero_le _, Nat.zero_le _⟩) hS hA hP (fun H locs hP hS => ?_)
        refine lv_l2i hx hb dX0_choose_34 rfl ?_
        obtain ⟨r_5, hc_6, hf⟩ := bd1_in hf
        refine rcI (va_runV (As := [.int (Int64.toInt32 r_3)]) (rest := [.int l3, .ref (t_a 0)]) ⟨hx, hb, hml, hown, hw⟩ ((ctX1_lengthOf l G p1_h p1_a p1_windows p1_washes p1_damp p1_heard p1_lines p1_hour p1_strings (Int64.toInt32 r_3) _ hc_6) _) (kV hw calX1_lengthOf kw_40_11 rfl rfl ⟨Nat.le_of_ble_eq_true rfl, Nat.le_of_ble_eq_true rfl⟩) (rpV (hP.sub (ws' := [oX1 p1_h p1_a p1_windows p1_washes p1_damp p1_heard p1_lines p1_hour p1_strings]) [3] rfl) hK (ci := 1) (q0 := 0) rfl rfl) rfl rfl hl.1 rfl (lv_room (Nat.le_of_ble_eq_true rfl)) dX0_choose_35 ⟨Nat.zero_le _, Nat.zero_le _⟩) hS hA hP (fun H locs hP hS => ?_)
        obtain ⟨hi_8, hf⟩ := wrI_in hf
        refine xiast hx hb hK.1 hP hD hS 1 0 rfl rfl hi_8 dX0_choose_38 (fun t_lengths_7 H locs et_lengths_7 hP hD hS => ?_)
        have hf := hf t_lengths_7 et_lengths_7
        have hP : va_P G.1 vwCl [oX0 t_h t_a t_places t_most t_leastLength t_leastPlaces, arI G (t_a 0) 12 t_lengths_7, arI G (t_a 1) 12 t_crossed, oX1 p1_h p1_a p1_windows p1_washes p1_damp p1_heard p1_lines p1_hour p1_strings, oX4 p2_h p2_a p2_sort p2_size, arJ G (p2_a 0) 40 p2_values] H := hP
        have hD : va_D A [oX0 t_h t_a t_places t_most t_leastLength t_leastPlaces, arI G (t_a 0) 12 t_lengths_7, arI G (t_a 1) 12 t_crossed, oX1 p1_h p1_a p1_windows p1_washes p1_damp p1_heard p1_lines p1_hour p1_strings, oX4 p2_h p2_a p2_sort p2_size, arJ G (p2_a 0) 40 p2_values] := hD
        refine lv_aload_n hx hb dX0_choose_39 rfl (lv_at hl 0 rfl) ?_
        refine va_get (D := G.1) (ci := 0) (v := .ref (t_a 1)) (C := RX0) (T := TX0) (N := 6) hx hb hw inW0 hown hK.1 hP 0 rfl rfl 1 (by decide) (hw _ kw_4_18) (fun _ h9 => h9) rfl dX0_choose_40 ?_
        refine lv_iload_n hx hb dX0_choose_43 rfl (lv_at hl 3 rfl) ?_
        refine lv_iconst (v := 0) hx hb dX0_choose_44 (by decide) ?_
        obtain ⟨hi_10, hf⟩ := wrI_in hf
        refine xiast hx hb hK.1 hP hD hS 2 0 rfl rfl hi_10 dX0_choose_45 (fun t_crossed_9 H locs et_crossed_9 hP hD hS => ?_)
        have hf := hf t_crossed_9 et_crossed_9
        have hP : va_P G.1 vwCl [oX0 t_h t_a t_places t_most t_leastLength t_leastPlaces, arI G (t_a 0) 12 t_lengths_7, arI G (t_a 1) 12 t_crossed_9, oX1 p1_h p1_a p1_windows p1_washes p1_damp p1_heard p1_lines p1_hour p1_strings, oX4 p2_h p2_a p2_sort p2_size, arJ G (p2_a 0) 40 p2_values] H := hP
        have hD : va_D A [oX0 t_h t_a t_places t_most t_leastLength t_leastPlaces, arI G (t_a 0) 12 t_lengths_7, arI G (t_a 1) 12 t_crossed_9, oX1 p1_h p1_a p1_windows p1_washes p1_damp p1_heard p1_lines p1_hour p1_strings, oX4 p2_h p2_a p2_sort p2_size, arJ G (p2_a 0) 40 p2_values] := hD
        refine lv_iconst (v := 0) hx hb dX0_choose_46 (by decide) ?_
        refine lv_istore (lv' := [(4, .int 0), (0, .ref t_h), (1, .ref p1_h), (2, .ref p2_h), (3, .int l3)]) hx hb dX0_choose_47 hl (by decide) rfl (fun ls hl => ?_)
        refine L49 _ _ _ _ _ _ _ _ _ _ _ _ _ hP hD hS (lv_sub hl [1, 2, 3, 4, 0] rfl) hf (fun t_crossed_23 H locs ls hP hD hS hl hf => ?_)
        refine lv_iinc (v := (l3 + 1)) (lv' := [(3, .int (l3 + 1)), (0, .ref t_h), (1, .ref p1_h), (2, .ref p2_h)]) hx hb dX0_choose_96 hl (k := 3) rfl (by rfl) (by decide) rfl (fun ls hl => ?_)
        refine lv_goto (tgt := 15) hx hb dX0_choose_99 (by decide) ?_
        exact ih _ _ _ _ _ _ hP hD hS (lv_sub hl [1, 2, 3, 0] rfl) hf hX
  unfold fX0_choose at hf
  refine lv_aload_n hx hb dX0_choose_0 rfl (lv_at hl 0 rfl) ?_
  refine lv_aload_n hx hb dX0_choose_1 rfl (lv_at hl 2 rfl) ?_
  refine va_getN (D := G.1) (ci := 4) (v := .int p2_size) (C := RX4) (T := TX4) (N := 3) hx hb hw inW4 hown hK.1 hP 4 rfl rfl 2 (by decide) ((nf_37 hK.2).use rfl) (fun _ h9 => h9) rfl dX0_choose_2 ?_
  refine lv_bipush (v := 12) hx hb dX0_choose_5 (by decide) ?_
  refine va_mmin hx hb (by rw [hml]; exact hl.1.symm) hown (hw _ kw_40_7) (hw _ kw_7_8) (hw _ kw_7_9) (hw _ kw_7_10) (by exact Nat.le_of_ble_eq_true rfl) (by exact Nat.le_of_ble_eq_true rfl) (Nat.zero_le _) (Nat.zero_le _) dX0_choose_7 ?_
  refine lv_topi (fun y_1 ey_1 => ?_)
  have hf := bnd_all hf y_1 ey_1
  refine va_put (D := G.1) (ci := 0) (v := .int y_1) (ty := .int) (C := RX0) (T := TX0) (N := 6) hx hb hw inW0 tyX0 tyX0_ok nmX0 hown hK.1 hP hD hS 0 rfl rfl 2 (by decide) (hw _ kw_40_8) (fun _ h9 => h9) rfl (by decide +kernel) rfl rfl (Nat.le_of_ble_eq_true rfl) dX0_choose_10 (fun H locs hP hD hS => ?_)
  have hP : va_P G.1 vwCl [oX0 t_h t_a y_1 t_most t_leastLength t_leastPlaces, arI G (t_a 0) 12 t_lengths, arI G (t_a 1) 12 t_crossed, oX1 p1_h p1_a p1_windows p1_washes p1_damp p1_heard p1_lines p1_hour p1_strings, oX4 p2_h p2_a p2_sort p2_size, arJ G (p2_a 0) 40 p2_values] H := hP
  have hD : va_D A [oX0 t_h t_a y_1 t_most t_leastLength t_leastPlaces, arI G (t_a 0) 12 t_lengths, arI G (t_a 1) 12 t_crossed, oX1 p1_h p1_a p1_windows p1_washes p1_damp p1_heard p1_lines p1_hour p1_strings, oX4 p2_h p2_a p2_sort p2_size, arJ G (p2_a 0) 40 p2_values] := hD
  refine lv_iconst (v := 0) hx hb dX0_choose_13 (by decide) ?_
  refine lv_istore_n (lv' := [(3, .int 0), (0, .ref t_h), (1, .ref p1_h), (2, .ref p2_h)]) hx hb dX0_choose_14 rfl hl (by decide) rfl (fun ls hl => ?_)
  refine L15 _ _ _ _ _ _ _ _ _ _ _ _ hP hD hS (lv_sub hl [1, 2, 3, 0] rfl) hf (fun t_lengths_24 t_crossed_25 H locs ls hP hD hS hl hf => ?_)
  refine lv_aload_n hx hb dX0_choose_102 rfl (lv_at hl 0 rfl) ?_
  refine lv_iconst (v := (-1)) hx hb dX0_choose_103 (by decide) ?_
  refine va_put (D := G.1) (ci := 0) (v := .int (-1)) (ty := .int) (C := RX0) (T := TX0) (N := 6) hx hb hw inW0 tyX0 tyX0_ok nmX0 hown hK.1 hP hD hS 0 rfl rfl 3 (by decide) (hw _ kw_40_9) (fun _ h9 => h9) rfl (by decide +kernel) rfl rfl (Nat.le_of_ble_eq_true rfl) dX0_choose_104 (fun H locs hP hD hS => ?_)
  have hP : va_P G.1 vwCl [oX0 t_h t_a y_1 (-1) t_leastLength t_leastPlaces, arI G (t_a 0) 12 t_lengths_24, arI G (t_a 1) 12 t_crossed_25, oX1 p1_h p1_a p1_windows p1_washes p1_damp p1_heard p1_lines p1_hour p1_strings, oX4 p2_h p2_a p2_sort p2_size, arJ G (p2_a 0) 40 p2_values] H := hP
  have hD : va_D A [oX0 t_h t_a y_1 (-1) t_leastLength t_leastPlaces, arI G (t_a 0) 12 t_lengths_24, arI G (t_a 1) 12 t_crossed_25, oX1 p1_h p1_a p1_windows p1_washes p1_damp p1_heard p1_lines p1_hour p1_strings, oX4 p2_h p2_a p2_sort p2_size, arJ G (p2_a 0) 40 p2_values] := hD
  refine lv_aload_n hx hb dX0_choose_107 rfl (lv_at hl 0 rfl) ?_
  refine lv_iconst (v := 0) hx hb dX0_choose_108 (by decide) ?_
  refine lv_iconst (v := 0) hx hb dX0_choose_109 (by decide) ?_
  refine lv_iconst (v := 0) hx hb dX0_choose_110 (by decide) ?_
  refine lv_iconst (v := 0) hx hb dX0_choose_111 (by decide) ?_
  obtain ⟨t_most_26, t_leastLength_27, t_leastPlaces_28, hc_29, hf⟩ := bd3_in hf
  refine wcV (w1 := [oX0 t_h t_a y_1 t_most_26 t_leastLength_27 t_leastPlaces_28, arI G (t_a 0) 12 t_lengths_24, arI G (t_a 1) 12 t_crossed_25]) (va_runV (As := [.int 0, .int 0, .int 0, .int 0]) (rest := []) ⟨hx, hb, hml, hown, hw⟩ ((ctX0_decide l G 16 t_h t_a t_lengths_24 t_crossed_25 y_1 (-1) t_leastLength t_leastPlaces 0 0 0 0 _ _ _ hc_29) _) (kV hw calX0_decide kw_40_12 rfl rfl ⟨Nat.le_of_ble_eq_true rfl, Nat.le_of_ble_eq_true rfl⟩) (wpV (hP.sub (ws' := [oX0 t_h t_a y_1 (-1) t_leastLength t_leastPlaces, arI G (t_a 0) 12 t_lengths_24, arI G (t_a 1) 12 t_crossed_25]) [0, 1, 2] rfl) (hD.sub (ws' := [oX0 t_h t_a y_1 (-1) t_leastLength t_leastPlaces, arI G (t_a 0) 12 t_lengths_24, arI G (t_a 1) 12 t_crossed_25]) [0, 1, 2] (by decide) rfl) hK (ci := 0) (q0 := 0) rfl rfl) rfl rfl hl.1 rfl (lv_room (Nat.le_of_ble_eq_true rfl)) dX0_choose_112 ⟨Nat.zero_le _, Nat.zero_le _⟩) hS hA hP hD [0, 1, 2] rfl rfl (fun H locs hP hD hS => ?_)
  have hP : va_P G.1 vwCl [oX0 t_h t_a y_1 t_most_26 t_leastLength_27 t_leastPlaces_28, arI G (t_a 0) 12 t_lengths_24, arI G (t_a 1) 12 t_crossed_25, oX1 p1_h p1_a p1_windows p1_washes p1_damp p1_heard p1_lines p1_hour p1_strings, oX4 p2_h p2_a p2_sort p2_size, arJ G (p2_a 0) 40 p2_values] H := hP
  have hD : va_D A [oX0 t_h t_a y_1 t_most_26 t_leastLength_27 t_leastPlaces_28, arI G (t_a 0) 12 t_lengths_24, arI G (t_a 1) 12 t_crossed_25, oX1 p1_h p1_a p1_windows p1_washes p1_damp p1_heard p1_lines p1_hour p1_strings, oX4 p2_h p2_a p2_sort p2_size, arJ G (p2_a 0) 40 p2_values] := hD
  exact hRet _ _ _ _ _ _ _ _ _ _ hf hP hS dX0_choose_115
theorem calX7_together : CalV yX7_together cX7_together 4 (some .int) 2 := ⟨⟨kw_39_22, kw_1_2, by decide +kernel⟩, kw_39_20, kw_39_21⟩
set_option maxHeartbeats 8000000 in
set_option maxRecDepth 100000 in
theorem ctX7_together (l : Launch) (G : GT) (t_h : Nat) (t_a : Nat → Nat) (now_h : Nat) (now_a : Nat → Nat) (ch_h : Nat) (ch_a : Nat → Nat) (row_h : Nat) (row_a : Nat → Nat) (rd_h : Nat) (sp_h : Nat) (wy_h : Nat) (gp_h : Nat) (sb_h : Nat) (t_rows : Nat → Option Nat) (now_windows : Int32) (now_washes : Int32) (now_damp : Int32) (now_heard : Int32) (now_lines : Int32) (now_hour : Int32) (now_strings : Int32) (ch_lengths : Nat → Int32) (ch_crossed : Nat → Int32) (ch_places : Int32) (ch_most : Int32) (ch_leastLength : Int32) (ch_leastPlaces : Int32) (row_values : Nat → Int64) (row_sort : Int32) (row_size : Int32) (v1 : Int32) (v2 : Int32) (h_row : vp_in v1 4 → va_rf (t_rows v1.toNatClampNeg) = .ref row_h) (r : Int32) (o_ch_lengths : Nat → Int32) (o_ch_crossed : Nat → Int32) (o_ch_places : Int32) (o_ch_most : Int32) (o_ch_leastLength : Int32) (o_ch_leastPlaces : Int32) (hf : fX7_together now_windows ch_lengths ch_crossed ch_places ch_most ch_leastLength ch_leastPlaces row_values row_size v1 v2 = some (r, o_ch_lengths, o_ch_crossed, o_ch_places, o_ch_most, o_ch_leastLength, o_ch_leastPlaces)) : WrI l yX7_together (Cond.code yX7_together cX7_together 4 (some .int)) { frames := 19, cells := 0, slots := 0, locals := 456 } G [.ref t_h, .int v1, .int v2] [oX7 t_h t_a rd_h now_h sp_h wy_h gp_h ch_h sb_h, arR G (t_a 7) 4 t_rows, oX1 now_h now_a now_windows now_washes now_damp now_heard now_lines now_hour now_strings, oX0 ch_h ch_a ch_places ch_most ch_leastLength ch_leastPlaces, arI G (ch_a 0) 12 ch_lengths, arI G (ch_a 1) 12 ch_crossed, oX4 row_h row_a row_sort row_size, arJ G (row_a 0) 40 row_values] [oX7 t_h t_a rd_h now_h sp_h wy_h gp_h ch_h sb_h, arR G (t_a 7) 4 t_rows, oX1 now_h now_a now_windows now_washes now_damp now_heard now_lines now_hour now_strings, oX0 ch_h ch_a o_ch_places o_ch_most o_ch_leastLength o_ch_leastPlaces, arI G (ch_a 0) 12 o_ch_lengths, arI G (ch_a 1) 12 o_ch_crossed, oX4 row_h row_a row_sort row_size, arJ G (row_a 0) 40 row_values] r := by
  intro sz
  refine Met.ofW (cc := cX7_together) (maxL := 4) (ret := (some .int)) (by decide) rfl ?_
  intro p e s m args below meth c s₁ B hml hv
  obtain ⟨hargs, hsz, hP, hD0, hK⟩ := hv
  subst hsz
  obtain ⟨hx, hb, hr, hw, hown, hlk⟩ := fwB B
  refine fw_enter hargs (Nat.le_of_ble_eq_true rfl) (fun ls hl => ?_)
  have hl : lv_has ls 4 [(0, .ref t_h), (1, .int v1), (2, .int v2)] := hl
  refine fw_Q (P := fun Q => ∃ A : Nat → Prop, va_D A [oX7 t_h t_a rd_h now_h sp_h wy_h gp_h ch_h sb_h, arR G (t_a 7) 4 t_rows, oX1 now_h now_a now_windows now_washes now_damp now_heard now_lines now_hour now_strings, oX0 ch_h ch_a ch_places ch_most ch_leastLength ch_leastPlaces, arI G (ch_a 0) 12 ch_lengths, arI G (ch_a 1) 12 ch_crossed, oX4 row_h row_a row_sort row_size, arJ G (row_a 0) 40 row_values] ∧ va_S A s.heap s.heap [] ∧ (∀ q, s.heap.size ≤ q → A q) ∧ ∀ (v : Int32) (n_ch_lengths : Nat → Int32) (n_ch_crossed : Nat → Int32) (n_ch_places : Int32) (n_ch_most : Int32) (n_ch_leastLength : Int32) (n_ch_leastPlaces : Int32) (H : Heap) (locs : List Loc) (pc : Nat) (ls : Array Slot), some (v, n_ch_lengths, n_ch_crossed, n_ch_places, n_ch_most, n_ch_leastLength, n_ch_leastPlaces) = some (r, o_ch_lengths, o_ch_crossed, o_ch_places, o_ch_most, o_ch_leastLength, o_ch_leastPlaces) → va_P G.1 vwCl [oX7 t_h t_a rd_h now_h sp_h wy_h gp_h ch_h sb_h, arR G (t_a 7) 4 t_rows, oX1 now_h now_a now_windows now_washes now_damp now_heard now_lines now_hour now_strings, oX0 ch_h ch_a n_ch_places n_ch_most n_ch_leastLength n_ch_leastPlaces, arI G (ch_a 0) 12 n_ch_lengths, arI G (ch_a 1) 12 n_ch_crossed, oX4 row_h row_a row_sort row_size, arJ G (row_a 0) 40 row_values] H → va_S A s.heap H locs → decode cX7_together pc = .ok (.ireturn, 1) → W p l e ({ frames := 19, cells := 0, slots := 0, locals := 456 } : Room) s m args below meth c H locs 0 0 Q (F0 m pc ls [.int v])) ⟨va_A [oX7 t_h t_a rd_h now_h sp_h wy_h gp_h ch_h sb_h, arR G (t_a 7) 4 t_rows, oX1 now_h now_a now_windows now_washes now_damp now_heard now_lines now_hour now_strings, oX0 ch_h ch_a ch_places ch_most ch_leastLength ch_leastPlaces, arI G (ch_a 0) 12 ch_lengths, arI G (ch_a 1) 12 ch_crossed, oX4 row_h row_a row_sort row_size, arJ G (row_a 0) 40 row_values] s.heap.size, hD0.self (sz := s.heap.size), va_S.rf, fun q h => Or.inr h, ?_⟩ ?_
  · intro v n_ch_lengths n_ch_crossed n_ch_places n_ch_most n_ch_leastLength n_ch_leastPlaces H locs pc ls h hP hS hd
    cases h
    exact retWI hx hb hr hlk hS hP rfl hd
  rintro Q ⟨A, hD, hS, hA, hRet⟩
  change W p l e ({ frames := 19, cells := 0, slots := 0, locals := 456 } : Room) s m args below meth c _ _ 0 0 Q _
  unfold fX7_together at hf
  refine lv_iload_n hx hb dX7_together_0 rfl (lv_at hl 1 rfl) ?_
  obtain ⟨r_1, hc_2, hf⟩ := bd1_in hf
  refine rcI (va_runS (As := [.int v1]) (rest := []) ⟨hx, hb, hml, hown, hw⟩ ((ctX7_isRow l G v1 _ hc_2) _) (kS hw calX7_isRow kw_25_6 rfl rfl ⟨Nat.le_of_ble_eq_true rfl, Nat.le_of_ble_eq_true rfl⟩) (rpS (hP.sub (ws' := []) [] rfl) hK) rfl rfl hl.1 rfl (lv_room (Nat.le_of_ble_eq_true rfl)) dX7_together_1 ⟨Nat.zero_le _, Nat.zero_le _⟩) hS hA hP (fun H locs hP hS => ?_)
  refine lv_if_eq (tgt := 16) hx hb dX7_together_4 (by decide) (fun c_3 => ?_) (fun c_3 => ?_)
  · have hf := ip c_3 hf
    refine lv_bipush (v := (-2)) hx hb dX7_together_16 (by decide) ?_
    exact hRet _ _ _ _ _ _ _ _ _ _ _ hf hP hS dX7_together_18
  · have hf := iq c_3 hf
    refine lv_iload_n hx hb dX7_together_7 rfl (lv_at hl 2 rfl) ?_
    refine lv_if_lt (tgt := 16) hx hb dX7_together_8 (by decide) (fun c_4 => ?_) (fun c_4 => ?_)
    · have hf := ip c_4 hf
      refine lv_bipush (v := (-2)) hx hb dX7_together_16 (by decide) ?_
      exact hRet _ _ _ _ _ _ _ _ _ _ _ hf hP hS dX7_together_18
    · have hf := iq c_4 hf
      refine lv_iload_n hx hb dX7_together_11 rfl (lv_at hl 2 rfl) ?_
      refine lv_iconst (v := 2) hx hb dX7_together_12 (by decide) ?_
      refine lv_icmp_le (tgt := 19) hx hb dX7_together_13 (by decide) (fun c_5 => ?_) (fun c_5 => ?_)
      · have hf := ip c_5 hf
        refine lv_aload_n hx hb dX7_together_19 rfl (lv_at hl 0 rfl) ?_
        refine lv_iload_n hx hb dX7_together_20 rfl (lv_at hl 1 rfl) ?_
        obtain ⟨r_6, hc_7, hf⟩ := bd1_in hf
        refine rcI (va_runV (As := [.int v1]) (rest := []) ⟨hx, hb, hml, hown, hw⟩ ((ctX7_pairsRefusal l G t_h t_a now_h now_a row_h row_a rd_h sp_h wy_h gp_h ch_h sb_h t_rows now_windows now_washes now_damp now_heard now_lines now_hour now_strings row_values row_sort row_size v1 h_row _ hc_7) _) (kV hw calX7_pairsRefusal kw_39_23 rfl rfl ⟨Nat.le_of_ble_eq_true rfl, Nat.le_of_ble_eq_true rfl⟩) (rpV (hP.sub (ws' := [oX7 t_h t_a rd_h now_h sp_h wy_h gp_h ch_h sb_h, arR G (t_a 7) 4 t_rows, oX1 now_h now_a now_windows now_washes now_damp now_heard now_lines now_hour now_strings, oX4 row_h row_a row_sort row_size, arJ G (row_a 0) 40 row_values]) [0, 1, 2, 6, 7] rfl) hK (ci := 7) (q0 := 0) rfl rfl) rfl rfl hl.1 rfl (lv_room (Nat.le_of_ble_eq_true rfl)) dX7_together_21 ⟨Nat.zero_le _, Nat.zero_le _⟩) hS hA hP (fun H locs hP hS => ?_)
        refine lv_istore_n (lv' := [(3, .int r_6), (0, .ref t_h), (1, .int v1), (2, .int v2)]) hx hb dX7_together_24 rfl hl (by decide) rfl (fun ls hl => ?_)
        refine lv_iload_n hx hb dX7_together_25 rfl (lv_at hl 0 rfl) ?_
        refine lv_if_eq (tgt := 31) hx hb dX7_together_26 (by decide) (fun c_8 => ?_) (fun c_8 => ?_)
        · have hf := ip c_8 hf
          refine lv_aload_n hx hb dX7_together_31 rfl (lv_at hl 1 rfl) ?_
          refine va_get (D := G.1) (ci := 7) (v := .ref (t_a 7)) (C := RX7) (T := TX7) (N := 10) hx hb hw inW7 hown hK.1 hP 0 rfl rfl 7 (by decide) (hw _ kw_2_15) (fun _ h9 => h9) rfl dX7_together_32 ?_
          refine lv_iload_n hx hb dX7_together_35 rfl (lv_at hl 2 rfl) ?_
          obtain ⟨hi_q, hf⟩ := ckI_in hf
          refine va_aldq hx hb hK.1 hP 1 5 rfl rfl hi_q dX7_together_36 ?_
          rw [h_row hi_q]
          refine va_getN (D := G.1) (ci := 4) (v := .int row_size) (C := RX4) (T := TX4) (N := 3) hx hb hw inW4 hown hK.1 hP 6 rfl rfl 2 (by decide) ((nf_39 hK.2).use rfl) (fun _ h9 => h9) rfl dX7_together_37 ?_
          refine lv_bipush (v := 12) hx hb dX7_together_40 (by decide) ?_
          refine lv_icmp_le (tgt := 48) hx hb dX7_together_42 (by decide) (fun c_9 => ?_) (fun c_9 => ?_)
          · have hf := ip c_9 hf
            refine lv_aload_n hx hb dX7_together_48 rfl (lv_at hl 1 rfl) ?_
            refine va_get (D := G.1) (ci := 7) (v := .ref ch_h) (C := RX7) (T := TX7) (N := 10) hx hb hw inW7 hown hK.1 hP 0 rfl rfl 5 (by decide) (hw _ kw_2_9) (fun _ h9 => h9) rfl dX7_together_49 ?_
            refine lv_aload_n hx hb dX7_together_52 rfl (lv_at hl 1 rfl) ?_
            refine va_get (D := G.1) (ci := 7) (v := .ref now_h) (C := RX7) (T := TX7) (N := 10) hx hb hw inW7 hown hK.1 hP 0 rfl rfl 1 (by decide) (hw _ kw_1_20) (fun _ h9 => h9) rfl dX7_together_53 ?_
            refine lv_aload_n hx hb dX7_together_56 rfl (lv_at hl 1 rfl) ?_
            refine va_get (D := G.1) (ci := 7) (v := .ref (t_a 7)) (C := RX7) (T := TX7) (N := 10) hx hb hw inW7 hown hK.1 hP 0 rfl rfl 7 (by decide) (hw _ kw_2_15) (fun _ h9 => h9) rfl dX7_together_57 ?_
            refine lv_iload_n hx hb dX7_together_60 rfl (lv_at hl 2 rfl) ?_
            obtain ⟨hi_q, hf⟩ := ckI_in hf
            refine va_aldq hx hb hK.1 hP 1 5 rfl rfl hi_q dX7_together_61 ?_
            rw [h_row hi_q]
            obtain ⟨ch_lengths_10, ch_crossed_11, ch_places_12, ch_most_13, ch_leastLength_14, ch_leastPlaces_15, hc_16, hf⟩ := bd6_in hf
            refine wcV (w1 := [oX0 ch_h ch_a ch_places_12 ch_most_13 ch_leastLength_14 ch_leastPlaces_15, arI G (ch_a 0) 12 ch_lengths_10, arI G (ch_a 1) 12 ch_crossed_11, oX1 now_h now_a now_windows now_washes now_damp now_heard now_lines now_hour now_strings, oX4 row_h row_a row_sort row_size, arJ G (row_a 0) 40 row_values]) (va_runV (As := [.ref now_h, .ref row_h]) (rest := []) ⟨hx, hb, hml, hown, hw⟩ ((ctX0_choose l G ch_h ch_a now_h now_a row_h row_a ch_lengths ch_crossed ch_places ch_most ch_leastLength ch_leastPlaces now_windows now_washes now_damp now_heard now_lines now_hour now_strings row_values row_sort row_size _ _ _ _ _ _ hc_16) _) (kV hw calX0_choose kw_40_3 rfl rfl ⟨Nat.le_of_ble_eq_true rfl, Nat.le_of_ble_eq_true rfl⟩) (wpV (hP.sub (ws' := [oX0 ch_h ch_a ch_places ch_most ch_leastLength ch_leastPlaces, arI G (ch_a 0) 12 ch_lengths, arI G (ch_a 1) 12 ch_crossed, oX1 now_h now_a now_windows now_washes now_damp now_heard now_lines now_hour now_strings, oX4 row_h row_a row_sort row_size, arJ G (row_a 0) 40 row_values]) [3, 4, 5, 2, 6, 7] rfl) (hD.sub (ws' := [oX0 ch_h ch_a ch_places ch_most ch_leastLength ch_leastPlaces, arI G (ch_a 0) 12 ch_lengths, arI G (ch_a 1) 12 ch_crossed, oX1 now_h now_a now_windows now_washes now_damp now_heard now_lines now_hour now_strings, oX4 row_h row_a row_sort row_size, arJ G (row_a 0) 40 row_values]) [3, 4, 5, 2, 6, 7] (by decide) rfl) hK (ci := 0) (q0 := 0) rfl rfl) rfl rfl hl.1 rfl (lv_room (Nat.le_of_ble_eq_true rfl)) dX7_together_62 ⟨Nat.zero_le _, Nat.zero_le _⟩) hS hA hP hD [3, 4, 5, 2, 6, 7] rfl rfl (fun H locs hP hD hS => ?_)
            have hP : va_P G.1 vwCl [oX7 t_h t_a rd_h now_h sp_h wy_h gp_h ch_h sb_h, arR G (t_a 7) 4 t_rows, oX1 now_h now_a now_windows now_washes now_damp now_heard now_lines now_hour now_strings, oX0 ch_h ch_a ch_places_12 ch_most_13 ch_leastLength_14 ch_leastPlaces_15, arI G (ch_a 0) 12 ch_lengths_10, arI G (ch_a 1) 12 ch_crossed_11, oX4 row_h row_a row_sort row_size, arJ G (row_a 0) 40 row_values] H := hP
            have hD : va_D A [oX7 t_h t_a rd_h now_h sp_h wy_h gp_h ch_h sb_h, arR G (t_a 7) 4 t_rows, oX1 now_h now_a now_windows now_washes now_damp now_heard now_lines now_hour now_strings, oX0 ch_h ch_a ch_places_12 ch_most_13 ch_leastLength_14 ch_leastPlaces_15, arI G (ch_a 0) 12 ch_lengths_10, arI G (ch_a 1) 12 ch_crossed_11, oX4 row_h row_a row_sort row_size, arJ G (row_a 0) 40 row_values] := hD
            refine lv_iload_n hx hb dX7_together_65 rfl (lv_at hl 3 rfl) ?_
            refine lv_if_ne (tgt := 77) hx hb dX7_together_66 (by decide) (fun c_17 => ?_) (fun c_17 => ?_)
            · have hf := iq c_17 hf
              refine lv_iload_n hx hb dX7_together_77 rfl (lv_at hl 3 rfl) ?_
              refine lv_iconst (v := 1) hx hb dX7_together_78 (by decide) ?_
              refine lv_icmp_ne (tgt := 92) hx hb dX7_together_79 (by decide) (fun c_18 => ?_) (fun c_18 => ?_)
              · have hf := iq c_18 hf
                refine lv_aload_n hx hb dX7_together_92 rfl (lv_at hl 1 rfl) ?_
                refine va_get (D := G.1) (ci := 7) (v := .ref ch_h) (C := RX7) (T := TX7) (N := 10) hx hb hw inW7 hown hK.1 hP 0 rfl rfl 5 (by decide) (hw _ kw_2_9) (fun _ h9 => h9) rfl dX7_together_93 ?_
                refine va_getN (D := G.1) (ci := 0) (v := .int ch_leastPlaces_15) (C := RX0) (T := TX0) (N := 6) hx hb hw inW0 hown hK.1 hP 3 rfl rfl 5 (by decide) ((nf_33 hK.2).use rfl) (fun _ h9 => h9) rfl dX7_together_96 ?_
                exact hRet _ _ _ _ _ _ _ _ _ _ _ hf hP hS dX7_together_99
              · have hf := ip c_18 hf
                refine lv_aload_n hx hb dX7_together_82 rfl (lv_at hl 1 rfl) ?_
                refine va_get (D := G.1) (ci := 7) (v := .ref ch_h) (C := RX7) (T := TX7) (N := 10) hx hb hw inW7 hown hK.1 hP 0 rfl rfl 5 (by decide) (hw _ kw_2_9) (fun _ h9 => h9) rfl dX7_together_83 ?_
                refine va_getN (D := G.1) (ci := 0) (v := .int ch_leastLength_14) (C := RX0) (T := TX0) (N := 6) hx hb hw inW0 hown hK.1 hP 3 rfl rfl 4 (by decide) ((nf_32 hK.2).use rfl) (fun _ h9 => h9) rfl dX7_together_86 ?_
                refine lv_goto (tgt := 99) hx hb dX7_together_89 (by decide) ?_
                exact hRet _ _ _ _ _ _ _ _ _ _ _ hf hP hS dX7_together_99
            · have hf := ip c_17 hf
              refine lv_aload_n hx hb dX7_together_69 rfl (lv_at hl 1 rfl) ?_
              refine va_get (D := G.1) (ci := 7) (v := .ref ch_h) (C := RX7) (T := TX7) (N := 10) hx hb hw inW7 hown hK.1 hP 0 rfl rfl 5 (by decide) (hw _ kw_2_9) (fun _ h9 => h9) rfl dX7_together_70 ?_
              refine va_getN (D := G.1) (ci := 0) (v := .int ch_most_13) (C := RX0) (T := TX0) (N := 6) hx hb hw inW0 hown hK.1 hP 3 rfl rfl 3 (by decide) ((nf_31 hK.2).use rfl) (fun _ h9 => h9) rfl dX7_together_73 ?_
              exact hRet _ _ _ _ _ _ _ _ _ _ _ hf hP hS dX7_together_76
          · have hf := iq c_9 hf
            refine lv_bipush (v := (-4)) hx hb dX7_together_45 (by decide) ?_
            exact hRet _ _ _ _ _ _ _ _ _ _ _ hf hP hS dX7_together_47
        · have hf := iq c_8 hf
          refine lv_iload_n hx hb dX7_together_29 rfl (lv_at hl 0 rfl) ?_
          exact hRet _ _ _ _ _ _ _ _ _ _ _ hf hP hS dX7_together_30
      · have hf := iq c_5 hf
        refine lv_bipush (v := (-2)) hx hb dX7_together_16 (by decide) ?_
        exact hRet _ _ _ _ _ _ _ _ _ _ _ hf hP hS dX7_together_18
theorem calX8_keyAt : CalV yX8_keyAt cX8_keyAt 4 (some .int) 0 := ⟨⟨kw_14_21, kw_1_5, by decide +kernel⟩, kw_14_19, kw_14_20⟩
set_option maxHeartbeats 8000000 in
set_option maxRecDepth 100000 in
theorem ctX8_keyAt (l : Launch) (G : GT) (ad : Nat → Nat) (av : Nat → Nat) (t_h : Nat) (t_a : Nat → Nat) (t_thrown : Int32) (t_tape : Nat → Int32) (t_taped : Int32) (t_at : Int32) (t_behind : Int32) (t_size : Int32) (t_kind : Int32) (t_number : Int32) (t_wrong : Int32) (t_wrongAt : Int32) (t_faultKind : Int32) (t_faultPlace : Int32) (t_x : Int32) (t_wayLong : Int32) (t_bothLeast : Int32) (r : Int32) (hf : fX8_keyAt t_tape t_at t_behind = some r) : RsI l yX8_keyAt (Cond.code yX8_keyAt cX8_keyAt 4 (some .int)) { frames := 4, cells := 0, slots := 0, locals := 120 } G ad av [.ref t_h] [oX8 t_h t_a t_thrown t_taped t_at t_behind t_size t_kind t_number t_wrong t_wrongAt t_faultKind t_faultPlace t_x t_wayLong t_bothLeast, arI G (t_a 3) 900 t_tape] r := by
  intro sz
  refine Met.ofW (cc := cX8_keyAt) (maxL := 4) (ret := (some .int)) (by decide) rfl ?_
  intro p e s m args below meth c s₁ B hml hv
  obtain ⟨hargs, hsz, hP, hE0, hK⟩ := hv
  subst hsz
  obtain ⟨hx, hb, hr, hw, hown, hlk⟩ := fwB B
  refine fw_enter hargs (Nat.le_of_ble_eq_true rfl) (fun ls hl => ?_)
  have hl : lv_has ls 4 [(0, .ref t_h)] := hl
  refine fw_Q (P := fun Q => ∃ A : Nat → Prop, va_S A s.heap s.heap [] ∧ (∀ q, s.heap.size ≤ q → A q) ∧ SE ad av A s s.heap ∧ ∀ (v : Int32) (H : Heap) (locs : List Loc) (pc : Nat) (ls : Array Slot), some v = some r → va_S A s.heap H locs → decode cX8_keyAt pc = .ok (.ireturn, 1) → W p l e ({ frames := 4, cells := 0, slots := 0, locals := 120 } : Room) s m args below meth c H locs 0 0 Q (F0 m pc ls [.int v])) ⟨fun q => s.heap.size ≤ q, va_S.rf, fun q h => h, hE0, fun v H locs pc ls h hS hd => retRI hx hb hr hlk hS h hd⟩ ?_
  rintro Q ⟨A, hS, hA, hE, hRet⟩
  change W p l e ({ frames := 4, cells := 0, slots := 0, locals := 120 } : Room) s m args below meth c _ _ 0 0 Q _
  have L15 : ∀ (l1 : Int32) (l2 : Int32) (K : Int32 → Option Int32) (n : Nat) (l3 : Int32) (H : Heap) (locs : List Loc) (ls : Array Slot), va_P G.1 vwCl [oX8 t_h t_a t_thrown t_taped t_at t_behind t_size t_kind t_number t_wrong t_wrongAt t_faultKind t_faultPlace t_x t_wayLong t_bothLeast, arI G (t_a 3) 900 t_tape] H → va_S A s.heap H locs → lv_has ls 4 [(0, .ref t_h), (1, .int l1), (2, .int l2), (3, .int l3)] → fX8_keyAt_15 l2 t_tape t_at t_behind K n l3 = some r → (∀ (k3 : Int32) (H : Heap) (locs : List Loc) (ls : Array Slot), va_P G.1 vwCl [oX8 t_h t_a t_thrown t_taped t_at t_behind t_size t_kind t_number t_wrong t_wrongAt t_faultKind t_faultPlace t_x t_wayLong t_bothLeast, arI G (t_a 3) 900 t_tape] H → va_S A s.heap H locs → lv_has ls 4 [(0, .ref t_h), (1, .int l1), (2, .int l2), (3, .int k3)] → K k3 = some r → W p l e ({ frames := 4, cells := 0, slots := 0, locals := 120 } : Room) s m args below meth c H locs 0 0 Q (F0 m 69 ls [])) → W p l e ({ frames := 4, cells := 0, slots := 0, locals := 120 } : Room) s m args below meth c H locs 0 0 Q (F0 m 15 ls []) := by
    intro l1 l2 K n
    induction n with
    | zero => intro l3 H locs ls hP hS hl hf; rw [fX8_keyAt_15] at hf; cases hf
    | succ n ih =>
      intro l3 H locs ls hP hS hl hf hX
      rw [fX8_keyAt_15] at hf
      refine va_ldcS hx hb hown (hE.2.1 7 (RX8, 83, " windows cans wash damp heard string knots ") rfl) dX8_keyAt_15 ?_
      refine lv_iload_n hx hb dX8_keyAt_17 rfl (lv_at hl 2 rfl) ?_
      refine lv_iload_n hx hb dX8_keyAt_18 rfl (lv_at hl 3 rfl) ?_
      refine lv_iadd hx hb dX8_keyAt_19 ?_
      obtain ⟨hi_2, hf⟩ := rdI_in hf
      refine rcI (va_runV (As := [.int (l2 + l3)]) (rest := []) ⟨hx, hb, hml, hown, hw⟩ (ctJ0_charAt l G ad av 7 (by decide) (l2 + l3) hi_2 _) (kV hw calJ0_charAt kw_14_23 rfl rfl ⟨Nat.le_of_ble_eq_true rfl, Nat.le_of_ble_eq_true rfl⟩) (rsK (by decide) hE hS hA hK) rfl rfl hl.1 rfl (lv_room (Nat.le_of_ble_eq_true rfl)) dX8_keyAt_20 ⟨Nat.zero_le _, Nat.zero_le _⟩) hS hA hP (fun H locs hP hS => ?_)
      refine lv_topi (fun x_3 ex_3 => ?_)
      have hf := hf x_3 ex_3
      refine lv_bipush (v := 32) hx hb dX8_keyAt_23 (by decide) ?_
      refine lv_icmp_eq (tgt := 69) hx hb dX8_keyAt_25 (by decide) (fun c_4 => ?_) (fun c_4 => ?_)
      · have hf := ip c_4 hf
        exact hX _ _ _ _ hP hS (lv_sub hl [0, 1, 2, 3] rfl) hf
      · have hf := iq c_4 hf
        refine lv_aload_n hx hb dX8_keyAt_28 rfl (lv_at hl 0 rfl) ?_
        refine va_get (D := G.1) (ci := 8) (v := .int t_at) (C := RX8) (T := TX8) (N := 33) hx hb hw inW8 hown hK.1 hP 0 rfl rfl 6 (by decide) (hw _ kw_14_9) (fun _ h9 => h9) rfl dX8_keyAt_29 ?_
        refine lv_iload_n hx hb dX8_keyAt_32 rfl (lv_at hl 3 rfl) ?_
        refine lv_iadd hx hb dX8_keyAt_33 ?_
        refine lv_aload_n hx hb dX8_keyAt_34 rfl (lv_at hl 0 rfl) ?_
        refine va_get (D := G.1) (ci := 8) (v := .int t_behind) (C := RX8) (T := TX8) (N := 33) hx hb hw inW8 hown hK.1 hP 0 rfl rfl 7 (by decide) (hw _ kw_13_21) (fun _ h9 => h9) rfl dX8_keyAt_35 ?_
        refine lv_icmp_ge (tgt := 69) hx hb dX8_keyAt_38 (by decide) (fun c_5 => ?_) (fun c_5 => ?_)
        · have hf := ip c_5 hf
          exact hX _ _ _ _ hP hS (lv_sub hl [0, 1, 2, 3] rfl) hf
        · have hf := iq c_5 hf
          refine lv_aload_n hx hb dX8_keyAt_41 rfl (lv_at hl 0 rfl) ?_
          refine va_get (D := G.1) (ci := 8) (v := .ref (t_a 3)) (C := RX8) (T := TX8) (N := 33) hx hb hw inW8 hown hK.1 hP 0 rfl rfl 3 (by decide) (hw _ kw_5_13) (fun _ h9 => h9) rfl dX8_keyAt_42 ?_
          refine lv_aload_n hx hb dX8_keyAt_45 rfl (lv_at hl 0 rfl) ?_
          refine va_get (D := G.1) (ci := 8) (v := .int t_at) (C := RX8) (T := TX8) (N := 33) hx hb hw inW8 hown hK.1 hP 0 rfl rfl 6 (by decide) (hw _ kw_14_9) (fun _ h9 => h9) rfl dX8_keyAt_46 ?_
          refine lv_iload_n hx hb dX8_keyAt_49 rfl (lv_at hl 3 rfl) ?_
          refine lv_iadd hx hb dX8_keyAt_50 ?_
          obtain ⟨hi_7, hf⟩ := rdI_in hf
          refine va_iald hx hb hK.1 hP 1 0 rfl rfl hi_7 dX8_keyAt_51 ?_
          refine lv_topi (fun x_6 ex_6 => ?_)
          have hf := hf x_6 ex_6
          refine va_ldcS hx hb hown (hE.2.1 7 (RX8, 83, " windows cans wash damp heard string knots ") rfl) dX8_keyAt_52 ?_
          refine lv_iload_n hx hb dX8_keyAt_54 rfl (lv_at hl 2 rfl) ?_
          refine lv_iload_n hx hb dX8_keyAt_55 rfl (lv_at hl 3 rfl) ?_
          refine lv_iadd hx hb dX8_keyAt_56 ?_
          obtain ⟨hi_8, hf⟩ := rdI_in hf
          refine rcI (va_runV (As := [.int (l2 + l3)]) (rest := [.int x_6]) ⟨hx, hb, hml, hown, hw⟩ (ctJ0_charAt l G ad av 7 (by decide) (l2 + l3) hi_8 _) (kV hw calJ0_charAt kw_14_23 rfl rfl ⟨Nat.le_of_ble_eq_true rfl, Nat.le_of_ble_eq_true rfl⟩) (rsK (by decide) hE hS hA hK) rfl rfl hl.1 rfl (lv_room (Nat.le_of_ble_eq_true rfl)) dX8_keyAt_57 ⟨Nat.zero_le _, Nat.zero_le _⟩) hS hA hP (fun H locs hP hS => ?_)
          refine lv_topi (fun x_9 ex_9 => ?_)
          have hf := hf x_9 ex_9
          refine lv_icmp_ne (tgt := 69) hx hb dX8_keyAt_60 (by decide) (fun c_10 => ?_) (fun c_10 => ?_)
          · have hf := iq c_10 hf
            exact hX _ _ _ _ hP hS (lv_sub hl [0, 1, 2, 3] rfl) hf
          · have hf := ip c_10 hf
            refine lv_iinc (v := (l3 + 1)) (lv' := [(3, .int (l3 + 1)), (0, .ref t_h), (1, .int l1), (2, .int l2)]) hx hb dX8_keyAt_63 hl (k := 3) rfl (by rfl) (by decide) rfl (fun ls hl => ?_)
            refine lv_goto (tgt := 15) hx hb dX8_keyAt_66 (by decide) ?_
            exact ih _ _ _ _ hP hS (lv_sub hl [1, 2, 3, 0] rfl) hf hX
  have L97 : ∀ (l1 : Int32) (K : Int32 → Option Int32) (n : Nat) (l2 : Int32) (H : Heap) (locs : List Loc) (ls : Array Slot), va_P G.1 vwCl [oX8 t_h t_a t_thrown t_taped t_at t_behind t_size t_kind t_number t_wrong t_wrongAt t_faultKind t_faultPlace t_x t_wayLong t_bothLeast, arI G (t_a 3) 900 t_tape] H → va_S A s.heap H locs → lv_has ls 4 [(0, .ref t_h), (1, .int l1), (2, .int l2)] → fX8_keyAt_97  K n l2 = some r → (∀ (k2 : Int32) (H : Heap) (locs : List Loc) (ls : Array Slot), va_P G.1 vwCl [oX8 t_h t_a t_thrown t_taped t_at t_behind t_size t_kind t_number t_wrong t_wrongAt t_faultKind t_faultPlace t_x t_wayLong t_bothLeast, arI G (t_a 3) 900 t_tape] H → va_S A s.heap H locs → lv_has ls 4 [(0, .ref t_h), (1, .int l1), (2, .int k2)] → K k2 = some r → W p l e ({ frames := 4, cells := 0, slots := 0, locals := 120 } : Room) s m args below meth c H locs 0 0 Q (F0 m 114 ls [])) → W p l e ({ frames := 4, cells := 0, slots := 0, locals := 120 } : Room) s m args below meth c H locs 0 0 Q (F0 m 97 ls []) := by
    intro l1 K n
    induction n with
    | zero => intro l2 H locs ls hP hS hl hf; rw [fX8_keyAt_97] at hf; cases hf
    | succ n ih =>
      intro l2 H locs ls hP hS hl hf hX
      rw [fX8_keyAt_97] at hf
      refine va_ldcS hx hb hown (hE.2.1 7 (RX8, 83, " windows cans wash damp heard string knots ") rfl) dX8_keyAt_97 ?_
      refine lv_iload_n hx hb dX8_keyAt_99 rfl (lv_at hl 2 rfl) ?_
      obtain ⟨hi_15, hf⟩ := rdI_in hf
      refine rcI (va_runV (As := [.int l2]) (rest := []) ⟨hx, hb, hml, hown, hw⟩ (ctJ0_charAt l G ad av 7 (by decide) l2 hi_15 _) (kV hw calJ0_charAt kw_14_23 rfl rfl ⟨Nat.le_of_ble_eq_true rfl, Nat.le_of_ble_eq_true rfl⟩) (rsK (by decide) hE hS hA hK) rfl rfl hl.1 rfl (lv_room (Nat.le_of_ble_eq_true rfl)) dX8_keyAt_100 ⟨Nat.zero_le _, Nat.zero_le _⟩) hS hA hP (fun H locs hP hS => ?_)
      refine lv_topi (fun x_16 ex_16 => ?_)
      have hf := hf x_16 ex_16
      refine lv_bipush (v := 32) hx hb dX8_keyAt_103 (by decide) ?_
      refine lv_icmp_eq (tgt := 114) hx hb dX8_keyAt_105 (by decide) (fun c_17 => ?_) (fun c_17 => ?_)
      · have hf := ip c_17 hf
        exact hX _ _ _ _ hP hS (lv_sub hl [0, 1, 2] rfl) hf
      · have hf := iq c_17 hf
        refine lv_iinc (v := (l2 + 1)) (lv' := [(2, .int (l2 + 1)), (0, .ref t_h), (1, .int l1)]) hx hb dX8_keyAt_108 hl (k := 2) rfl (by rfl) (by decide) rfl (fun ls hl => ?_)
        refine lv_goto (tgt := 97) hx hb dX8_keyAt_111 (by decide) ?_
        exact ih _ _ _ _ hP hS (lv_sub hl [1, 2, 0] rfl) hf hX
  have L4 : ∀  (K : Option Int32) (n : Nat) (l1 : Int32) (l2 : Int32) (H : Heap) (locs : List Loc) (ls : Array Slot), va_P G.1 vwCl [oX8 t_h t_a t_thrown t_taped t_at t_behind t_size t_kind t_number t_wrong t_wrongAt t_faultKind t_faultPlace t_x t_wayLong t_bothLeast, arI G (t_a 3) 900 t_tape] H → va_S A s.heap H locs → lv_has ls 4 [(0, .ref t_h), (1, .int l1), (2, .int l2)] → fX8_keyAt_4 t_tape t_at t_behind K n l1 l2 = some r → (∀  (H : Heap) (locs : List Loc) (ls : Array Slot), va_P G.1 vwCl [oX8 t_h t_a t_thrown t_taped t_at t_behind t_size t_kind t_number t_wrong t_wrongAt t_faultKind t_faultPlace t_x t_wayLong t_bothLeast, arI G (t_a 3) 900 t_tape] H → va_S A s.heap H locs → lv_has ls 4 [] → K = some r → W p l e ({ frames := 4, cells := 0, slots := 0, locals := 120 } : Room) s m args below meth c H locs 0 0 Q (F0 m 123 ls [])) → W p l e ({ frames := 4, cells := 0, slots := 0, locals := 120 } : Room) s m args below meth c H locs 0 0 Q (F0 m 4 ls []) := by
    intro  K n
    induction n with
    | zero => intro l1 l2 H locs ls hP hS hl hf; rw [fX8_keyAt_4] at hf; cases hf
    | succ n ih =>
      intro l1 l2 H locs ls hP hS hl hf hX
      rw [fX8_keyAt_4] at hf
      refine lv_iload_n hx hb dX8_keyAt_4 rfl (lv_at hl 2 rfl) ?_
      refine va_ldcS hx hb hown (hE.2.1 7 (RX8, 83, " windows cans wash damp heard string knots ") rfl) dX8_keyAt_5 ?_
      refine rcI (va_runV (As := []) (rest := [.int l2]) ⟨hx, hb, hml, hown, hw⟩ (ctJ0_length l G ad av 7 (by decide) _) (kV hw calJ0_length kw_14_22 rfl rfl ⟨Nat.le_of_ble_eq_true rfl, Nat.le_of_ble_eq_true rfl⟩) (rsK (by decide) hE hS hA hK) rfl rfl hl.1 rfl (lv_room (Nat.le_of_ble_eq_true rfl)) dX8_keyAt_7 ⟨Nat.zero_le _, Nat.zero_le _⟩) hS hA hP (fun H locs hP hS => ?_)
      refine lv_icmp_ge (tgt := 123) hx hb dX8_keyAt_10 (by decide) (fun c_1 => ?_) (fun c_1 => ?_)
      · have hf := ip c_1 hf
        exact hX  _ _ _ hP hS (lv_sub hl [] rfl) hf
      · have hf := iq c_1 hf
        refine lv_iconst (v := 0) hx hb dX8_keyAt_13 (by decide) ?_
        refine lv_istore_n (lv' := [(3, .int 0), (0, .ref t_h), (1, .int l1), (2, .int l2)]) hx hb dX8_keyAt_14 rfl hl (by decide) rfl (fun ls hl => ?_)
        refine L15 _ _ _ _ _ _ _ _ hP hS (lv_sub hl [1, 2, 3, 0] rfl) hf (fun w_11 H locs ls hP hS hl hf => ?_)
        refine va_ldcS hx hb hown (hE.2.1 7 (RX8, 83, " windows cans wash damp heard string knots ") rfl) dX8_keyAt_69 ?_
        refine lv_iload_n hx hb dX8_keyAt_71 rfl (lv_at hl 2 rfl) ?_
        refine lv_iload_n hx hb dX8_keyAt_72 rfl (lv_at hl 3 rfl) ?_
        refine lv_iadd hx hb dX8_keyAt_73 ?_
        obtain ⟨hi_12, hf⟩ := rdI_in hf
        refine rcI (va_runV (As := [.int (l2 + w_11)]) (rest := []) ⟨hx, hb, hml, hown, hw⟩ (ctJ0_charAt l G ad av 7 (by decide) (l2 + w_11) hi_12 _) (kV hw calJ0_charAt kw_14_23 rfl rfl ⟨Nat.le_of_ble_eq_true rfl, Nat.le_of_ble_eq_true rfl⟩) (rsK (by decide) hE hS hA hK) rfl rfl hl.1 rfl (lv_room (Nat.le_of_ble_eq_true rfl)) dX8_keyAt_74 ⟨Nat.zero_le _, Nat.zero_le _⟩) hS hA hP (fun H locs hP hS => ?_)
        refine lv_topi (fun x_13 ex_13 => ?_)
        have hf := hf x_13 ex_13
        refine lv_bipush (v := 32) hx hb dX8_keyAt_77 (by decide) ?_
        refine jn_el hf (fun k_14 ek_14 hf => ?_)
        have J97 : ∀  (H : Heap) (locs : List Loc) (ls : Array Slot), va_P G.1 vwCl [oX8 t_h t_a t_thrown t_taped t_at t_behind t_size t_kind t_number t_wrong t_wrongAt t_faultKind t_faultPlace t_x t_wayLong t_bothLeast, arI G (t_a 3) 900 t_tape] H → va_S A s.heap H locs → lv_has ls 4 [(0, .ref t_h), (1, .int l1), (2, .int l2)] → k_14 = some r → W p l e ({ frames := 4, cells := 0, slots := 0, locals := 120 } : Room) s m args below meth c H locs 0 0 Q (F0 m 97 ls []) := by
          intro  H locs ls hP hS hl hf
          rw [ek_14] at hf
          refine L97 _ _ _ _ _ _ _ hP hS (lv_sub hl [0, 1, 2] rfl) hf (fun w_18 H locs ls hP hS hl hf => ?_)
          refine lv_iinc (v := (w_18 + 1)) (lv' := [(2, .int (w_18 + 1)), (0, .ref t_h), (1, .int l1)]) hx hb dX8_keyAt_114 hl (k := 2) rfl (by rfl) (by decide) rfl (fun ls hl => ?_)
          refine lv_iinc (v := (l1 + 1)) (lv' := [(1, .int (l1 + 1)), (2, .int (w_18 + 1)), (0, .ref t_h)]) hx hb dX8_keyAt_117 hl (k := 2) rfl (by rfl) (by decide) rfl (fun ls hl => ?_)
          refine lv_goto (tgt := 4) hx hb dX8_keyAt_120 (by decide) ?_
          exact ih _ _ _ _ _ hP hS (lv_sub hl [2, 0, 1] rfl) hf hX
        refine lv_icmp_ne (tgt := 97) hx hb dX8_keyAt_79 (by decide) (fun c_19 => ?_) (fun c_19 => ?_)
        · have hf := iq c_19 hf
          exact J97  _ _ _ hP hS (lv_sub hl [0, 1, 2] rfl) hf
        · have hf := ip c_19 hf
          refine lv_aload_n hx hb dX8_keyAt_82 rfl (lv_at hl 0 rfl) ?_
          refine va_get (D := G.1) (ci := 8) (v := .int t_at) (C := RX8) (T := TX8) (N := 33) hx hb hw inW8 hown hK.1 hP 0 rfl rfl 6 (by decide) (hw _ kw_14_9) (fun _ h9 => h9) rfl dX8_keyAt_83 ?_
          refine lv_iload_n hx hb dX8_keyAt_86 rfl (lv_at hl 3 rfl) ?_
          refine lv_iadd hx hb dX8_keyAt_87 ?_
          refine lv_aload_n hx hb dX8_keyAt_88 rfl (lv_at hl 0 rfl) ?_
          refine va_get (D := G.1) (ci := 8) (v := .int t_behind) (C := RX8) (T := TX8) (N := 33) hx hb hw inW8 hown hK.1 hP 0 rfl rfl 7 (by decide) (hw _ kw_13_21) (fun _ h9 => h9) rfl dX8_keyAt_89 ?_
          refine lv_icmp_ne (tgt := 97) hx hb dX8_keyAt_92 (by decide) (fun c_20 => ?_) (fun c_20 => ?_)
          · have hf := iq c_20 hf
            exact J97  _ _ _ hP hS (lv_sub hl [0, 1, 2] rfl) hf
          · have hf := ip c_20 hf
            refine lv_iload_n hx hb dX8_keyAt_95 rfl (lv_at hl 1 rfl) ?_
            exact hRet _ _ _ _ _ hf hS dX8_keyAt_96
  unfold fX8_keyAt at hf
  refine lv_iconst (v := 0) hx hb dX8_keyAt_0 (by decide) ?_
  refine lv_istore_n (lv' := [(1, .int 0), (0, .ref t_h)]) hx hb dX8_keyAt_1 rfl hl (by decide) rfl (fun ls hl => ?_)
  refine lv_iconst (v := 1) hx hb dX8_keyAt_2 (by decide) ?_
  refine lv_istore_n (lv' := [(2, .int 1), (1, .int 0), (0, .ref t_h)]) hx hb dX8_keyAt_3 rfl hl (by decide) rfl (fun ls hl => ?_)
  refine L4  _ _ _ _ _ _ _ hP hS (lv_sub hl [2, 1, 0] rfl) hf (fun  H locs ls hP hS hl hf => ?_)
  refine lv_bipush (v := 7) hx hb dX8_keyAt_123 (by decide) ?_
  exact hRet _ _ _ _ _ hf hS dX8_keyAt_125
theorem calX8_next : CalV yX8_next cX8_next 1 none 0 := ⟨⟨kw_14_8, kw_1_5, by decide +kernel⟩, kw_14_6, kw_14_7⟩
set_option maxHeartbeats 8000000 in
set_option maxRecDepth 100000 in
theorem ctX8_next (l : Launch) (G : GT) (ad : Nat → Nat) (av : Nat → Nat) (t_h : Nat) (t_a : Nat → Nat) (t_thrown : Int32) (t_tape : Nat → Int32) (t_taped : Int32) (t_at : Int32) (t_behind : Int32) (t_size : Int32) (t_kind : Int32) (t_number : Int32) (t_wrong : Int32) (t_wrongAt : Int32) (t_faultKind : Int32) (t_faultPlace : Int32) (t_x : Int32) (t_wayLong : Int32) (t_bothLeast : Int32) (o_t_at : Int32) (o_t_behind : Int32) (o_t_kind : Int32) (o_t_number : Int32) (hf : fX8_next t_tape t_at t_behind t_size t_kind t_number = some (o_t_at, o_t_behind, o_t_kind, o_t_number)) : WsV l yX8_next (Cond.code yX8_next cX8_next 1 none) { frames := 5, cells := 0, slots := 0, locals := 143 } G ad av [.ref t_h] [oX8 t_h t_a t_thrown t_taped t_at t_behind t_size t_kind t_number t_wrong t_wrongAt t_faultKind t_faultPlace t_x t_wayLong t_bothLeast, arI G (t_a 3) 900 t_tape] [oX8 t_h t_a t_thrown t_taped o_t_at o_t_behind t_size o_t_kind o_t_number t_wrong t_wrongAt t_faultKind t_faultPlace t_x t_wayLong t_bothLeast, arI G (t_a 3) 900 t_tape] := by
  intro sz
  refine Met.ofW (cc := cX8_next) (maxL := 1) (ret := none) (by decide) rfl ?_
  intro p e s m args below meth c s₁ B hml hv
  obtain ⟨hargs, hsz, hP, hD0, hE0, hK⟩ := hv
  subst hsz
  obtain ⟨hx, hb, hr, hw, hown, hlk⟩ := fwB B
  refine fw_enter hargs (Nat.le_of_ble_eq_true rfl) (fun ls hl => ?_)
  have hl : lv_has ls 1 [(0, .ref t_h)] := hl
  refine fw_Q (P := fun Q => ∃ A : Nat → Prop, va_D A [oX8 t_h t_a t_thrown t_taped t_at t_behind t_size t_kind t_number t_wrong t_wrongAt t_faultKind t_faultPlace t_x t_wayLong t_bothLeast, arI G (t_a 3) 900 t_tape] ∧ va_S A s.heap s.heap [] ∧ (∀ q, s.heap.size ≤ q → A q) ∧ SE ad av A s s.heap ∧ ∀ (n_t_at : Int32) (n_t_behind : Int32) (n_t_kind : Int32) (n_t_number : Int32) (H : Heap) (locs : List Loc) (pc : Nat) (ls : Array Slot), some (n_t_at, n_t_behind, n_t_kind, n_t_number) = some (o_t_at, o_t_behind, o_t_kind, o_t_number) → va_P G.1 vwCl [oX8 t_h t_a t_thrown t_taped n_t_at n_t_behind t_size n_t_kind n_t_number t_wrong t_wrongAt t_faultKind t_faultPlace t_x t_wayLong t_bothLeast, arI G (t_a 3) 900 t_tape] H → va_S A s.heap H locs → decode cX8_next pc = .ok (.return_, 1) → W p l e ({ frames := 5, cells := 0, slots := 0, locals := 143 } : Room) s m args below meth c H locs 0 0 Q (F0 m pc ls [])) ⟨va_A [oX8 t_h t_a t_thrown t_taped t_at t_behind t_size t_kind t_number t_wrong t_wrongAt t_faultKind t_faultPlace t_x t_wayLong t_bothLeast, arI G (t_a 3) 900 t_tape] s.heap.size, hD0.self (sz := s.heap.size), va_S.rf, fun q h => Or.inr h, hE0, ?_⟩ ?_
  · intro n_t_at n_t_behind n_t_kind n_t_number H locs pc ls h hP hS hd
    cases h
    exact retWV hx hb hr hlk hS hP hd
  rintro Q ⟨A, hD, hS, hA, hE, hRet⟩
  change W p l e ({ frames := 5, cells := 0, slots := 0, locals := 143 } : Room) s m args below meth c _ _ 0 0 Q _
  have L8 : ∀ (t_behind : Int32) (t_kind : Int32) (t_number : Int32) (K : Int32 → Option (Int32 × Int32 × Int32 × Int32)) (n : Nat) (t_at : Int32) (H : Heap) (locs : List Loc) (ls : Array Slot), va_P G.1 vwCl [oX8 t_h t_a t_thrown t_taped t_at t_behind t_size t_kind t_number t_wrong t_wrongAt t_faultKind t_faultPlace t_x t_wayLong t_bothLeast, arI G (t_a 3) 900 t_tape] H → va_D A [oX8 t_h t_a t_thrown t_taped t_at t_behind t_size t_kind t_number t_wrong t_wrongAt t_faultKind t_faultPlace t_x t_wayLong t_bothLeast, arI G (t_a 3) 900 t_tape] → va_S A s.heap H locs → lv_has ls 1 [(0, .ref t_h)] → fX8_next_8 t_tape t_size K n t_at = some (o_t_at, o_t_behind, o_t_kind, o_t_number) → (∀ (kt_at : Int32) (H : Heap) (locs : List Loc) (ls : Array Slot), va_P G.1 vwCl [oX8 t_h t_a t_thrown t_taped kt_at t_behind t_size t_kind t_number t_wrong t_wrongAt t_faultKind t_faultPlace t_x t_wayLong t_bothLeast, arI G (t_a 3) 900 t_tape] H → va_D A [oX8 t_h t_a t_thrown t_taped kt_at t_behind t_size t_kind t_number t_wrong t_wrongAt t_faultKind t_faultPlace t_x t_wayLong t_bothLeast, arI G (t_a 3) 900 t_tape] → va_S A s.heap H locs → lv_has ls 1 [(0, .ref t_h)] → K kt_at = some (o_t_at, o_t_behind, o_t_kind, o_t_number) → W p l e ({ frames := 5, cells := 0, slots := 0, locals := 143 } : Room) s m args below meth c H locs 0 0 Q (F0 m 47 ls [])) → W p l e ({ frames := 5, cells := 0, slots := 0, locals := 143 } : Room) s m args below meth c H locs 0 0 Q (F0 m 8 ls []) := by
    intro t_behind t_kind t_number K n
    induction n with
    | zero => intro t_at H locs ls hP hD hS hl hf; rw [fX8_next_8] at hf; cases hf
    | succ n ih =>
      intro t_at H locs ls hP hD hS hl hf hX
      rw [fX8_next_8] at hf
      refine lv_aload_n hx hb dX8_next_8 rfl (lv_at hl 0 rfl) ?_
      refine lv_aload_n hx hb dX8_next_9 rfl (lv_at hl 0 rfl) ?_
      refine va_get (D := G.1) (ci := 8) (v := .int t_at) (C := RX8) (T := TX8) (N := 33) hx hb hw inW8 hown hK.1 hP 0 rfl rfl 6 (by decide) (hw _ kw_14_9) (fun _ h9 => h9) rfl dX8_next_10 ?_
      obtain ⟨r_1, hc_2, hf⟩ := bd1_in hf
      refine rcI (va_runV (As := [.int t_at]) (rest := []) ⟨hx, hb, hml, hown, hw⟩ ((ctX8_see l G t_h t_a t_thrown t_tape t_taped t_at t_behind t_size t_kind t_number t_wrong t_wrongAt t_faultKind t_faultPlace t_x t_wayLong t_bothLeast t_at _ hc_2) _) (kV hw calX8_see kw_14_11 rfl rfl ⟨Nat.le_of_ble_eq_true rfl, Nat.le_of_ble_eq_true rfl⟩) (rpV (hP.sub (ws' := [oX8 t_h t_a t_thrown t_taped t_at t_behind t_size t_kind t_number t_wrong t_wrongAt t_faultKind t_faultPlace t_x t_wayLong t_bothLeast, arI G (t_a 3) 900 t_tape]) [0, 1] rfl) hK (ci := 8) (q0 := 0) rfl rfl) rfl rfl hl.1 rfl (lv_room (Nat.le_of_ble_eq_true rfl)) dX8_next_13 ⟨Nat.zero_le _, Nat.zero_le _⟩) hS hA hP (fun H locs hP hS => ?_)
      refine lv_bipush (v := 10) hx hb dX8_next_16 (by decide) ?_
      refine jn_el hf (fun k_3 ek_3 hf => ?_)
      have J34 : ∀  (H : Heap) (locs : List Loc) (ls : Array Slot), va_P G.1 vwCl [oX8 t_h t_a t_thrown t_taped t_at t_behind t_size t_kind t_number t_wrong t_wrongAt t_faultKind t_faultPlace t_x t_wayLong t_bothLeast, arI G (t_a 3) 900 t_tape] H → va_D A [oX8 t_h t_a t_thrown t_taped t_at t_behind t_size t_kind t_number t_wrong t_wrongAt t_faultKind t_faultPlace t_x t_wayLong t_bothLeast, arI G (t_a 3) 900 t_tape] → va_S A s.heap H locs → lv_has ls 1 [(0, .ref t_h)] → k_3 = some (o_t_at, o_t_behind, o_t_kind, o_t_number) → W p l e ({ frames := 5, cells := 0, slots := 0, locals := 143 } : Room) s m args below meth c H locs 0 0 Q (F0 m 34 ls []) := by
        intro  H locs ls hP hD hS hl hf
        rw [ek_3] at hf
        refine lv_aload_n hx hb dX8_next_34 rfl (lv_at hl 0 rfl) ?_
        refine lv_dup hx hb dX8_next_35 rfl ?_
        refine va_get (D := G.1) (ci := 8) (v := .int t_at) (C := RX8) (T := TX8) (N := 33) hx hb hw inW8 hown hK.1 hP 0 rfl rfl 6 (by decide) (hw _ kw_14_9) (fun _ h9 => h9) rfl dX8_next_36 ?_
        refine lv_iconst (v := 1) hx hb dX8_next_39 (by decide) ?_
        refine lv_iadd hx hb dX8_next_40 ?_
        refine lv_topi (fun y_4 ey_4 => ?_)
        have hf := bnd_all hf y_4 ey_4
        refine va_put (D := G.1) (ci := 8) (v := .int y_4) (ty := .int) (C := RX8) (T := TX8) (N := 33) hx hb hw inW8 tyX8 tyX8_ok nmX8 hown hK.1 hP hD hS 0 rfl rfl 6 (by decide) (hw _ kw_14_9) (fun _ h9 => h9) rfl (by decide +kernel) rfl rfl (Nat.le_of_ble_eq_true rfl) dX8_next_41 (fun H locs hP hD hS => ?_)
        have hP : va_P G.1 vwCl [oX8 t_h t_a t_thrown t_taped y_4 t_behind t_size t_kind t_number t_wrong t_wrongAt t_faultKind t_faultPlace t_x t_wayLong t_bothLeast, arI G (t_a 3) 900 t_tape] H := hP
        have hD : va_D A [oX8 t_h t_a t_thrown t_taped y_4 t_behind t_size t_kind t_number t_wrong t_wrongAt t_faultKind t_faultPlace t_x t_wayLong t_bothLeast, arI G (t_a 3) 900 t_tape] := hD
        refine lv_goto (tgt := 8) hx hb dX8_next_44 (by decide) ?_
        exact ih _ _ _ _ hP hD hS (lv_sub hl [0] rfl) hf hX
      refine lv_icmp_eq (tgt := 34) hx hb dX8_next_18 (by decide) (fun c_5 => ?_) (fun c_5 => ?_)
      · have hf := ip c_5 hf
        exact J34  _ _ _ hP hD hS (lv_sub hl [0] rfl) hf
      · have hf := iq c_5 hf
        refine lv_aload_n hx hb dX8_next_21 rfl (lv_at hl 0 rfl) ?_
        refine lv_aload_n hx hb dX8_next_22 rfl (lv_at hl 0 rfl) ?_
        refine va_get (D := G.1) (ci := 8) (v := .int t_at) (C := RX8) (T := TX8) (N := 33) hx hb hw inW8 hown hK.1 hP 0 rfl rfl 6 (by decide) (hw _ kw_14_9) (fun _ h9 => h9) rfl dX8_next_23 ?_
        obtain ⟨r_6, hc_7, hf⟩ := bd1_in hf
        refine rcI (va_runV (As := [.int t_at]) (rest := []) ⟨hx, hb, hml, hown, hw⟩ ((ctX8_see l G t_h t_a t_thrown t_tape t_taped t_at t_behind t_size t_kind t_number t_wrong t_wrongAt t_faultKind t_faultPlace t_x t_wayLong t_bothLeast t_at _ hc_7) _) (kV hw calX8_see kw_14_11 rfl rfl ⟨Nat.le_of_ble_eq_true rfl, Nat.le_of_ble_eq_true rfl⟩) (rpV (hP.sub (ws' := [oX8 t_h t_a t_thrown t_taped t_at t_behind t_size t_kind t_number t_wrong t_wrongAt t_faultKind t_faultPlace t_x t_wayLong t_bothLeast, arI G (t_a 3) 900 t_tape]) [0, 1] rfl) hK (ci := 8) (q0 := 0) rfl rfl) rfl rfl hl.1 rfl (lv_room (Nat.le_of_ble_eq_true rfl)) dX8_next_26 ⟨Nat.zero_le _, Nat.zero_le _⟩) hS hA hP (fun H locs hP hS => ?_)
        refine lv_bipush (v := 32) hx hb dX8_next_29 (by decide) ?_
        refine lv_icmp_ne (tgt := 47) hx hb dX8_next_31 (by decide) (fun c_8 => ?_) (fun c_8 => ?_)
        · have hf := iq c_8 hf
          exact hX _ _ _ _ hP hD hS (lv_sub hl [0] rfl) hf
        · have hf := ip c_8 hf
          exact J34  _ _ _ hP hD hS (lv_sub hl [0] rfl) hf
  have L146 : ∀ (t_at : Int32) (t_kind : Int32) (K : Int32 → Int32 → Option (Int32 × Int32 × Int32 × Int32)) (n : Nat) (t_behind : Int32) (t_number : Int32) (H : Heap) (locs : List Loc) (ls : Array Slot), va_P G.1 vwCl [oX8 t_h t_a t_thrown t_taped t_at t_behind t_size t_kind t_number t_wrong t_wrongAt t_faultKind t_faultPlace t_x t_wayLong t_bothLeast, arI G (t_a 3) 900 t_tape] H → va_D A [oX8 t_h t_a t_thrown t_taped t_at t_behind t_size t_kind t_number t_wrong t_wrongAt t_faultKind t_faultPlace t_x t_wayLong t_bothLeast, arI G (t_a 3) 900 t_tape] → va_S A s.heap H locs → lv_has ls 1 [(0, .ref t_h)] → fX8_next_146 t_tape t_at t_size K n t_behind t_number = some (o_t_at, o_t_behind, o_t_kind, o_t_number) → (∀ (kt_behind : Int32) (kt_number : Int32) (H : Heap) (locs : List Loc) (ls : Array Slot), va_P G.1 vwCl [oX8 t_h t_a t_thrown t_taped t_at kt_behind t_size t_kind kt_number t_wrong t_wrongAt t_faultKind t_faultPlace t_x t_wayLong t_bothLeast, arI G (t_a 3) 900 t_tape] H → va_D A [oX8 t_h t_a t_thrown t_taped t_at kt_behind t_size t_kind kt_number t_wrong t_wrongAt t_faultKind t_faultPlace t_x t_wayLong t_bothLeast, arI G (t_a 3) 900 t_tape] → va_S A s.heap H locs → lv_has ls 1 [(0, .ref t_h)] → K kt_behind kt_number = some (o_t_at, o_t_behind, o_t_kind, o_t_number) → W p l e ({ frames := 5, cells := 0, slots := 0, locals := 143 } : Room) s m args below meth c H locs 0 0 Q (F0 m 209 ls [])) → W p l e ({ frames := 5, cells := 0, slots := 0, locals := 143 } : Room) s m args below meth c H locs 0 0 Q (F0 m 146 ls []) := by
    intro t_at t_kind K n
    induction n with
    | zero => intro t_behind t_number H locs ls hP hD hS hl hf; rw [fX8_next_146] at hf; cases hf
    | succ n ih =>
      intro t_behind t_number H locs ls hP hD hS hl hf hX
      rw [fX8_next_146] at hf
      refine lv_aload_n hx hb dX8_next_146 rfl (lv_at hl 0 rfl) ?_
      refine lv_aload_n hx hb dX8_next_147 rfl (lv_at hl 0 rfl) ?_
      refine va_get (D := G.1) (ci := 8) (v := .int t_behind) (C := RX8) (T := TX8) (N := 33) hx hb hw inW8 hown hK.1 hP 0 rfl rfl 7 (by decide) (hw _ kw_13_21) (fun _ h9 => h9) rfl dX8_next_148 ?_
      obtain ⟨r_27, hc_28, hf⟩ := bd1_in hf
      refine rcI (va_runV (As := [.int t_behind]) (rest := []) ⟨hx, hb, hml, hown, hw⟩ ((ctX8_see l G t_h t_a t_thrown t_tape t_taped t_at t_behind t_size t_kind t_number t_wrong t_wrongAt t_faultKind t_faultPlace t_x t_wayLong t_bothLeast t_behind _ hc_28) _) (kV hw calX8_see kw_14_11 rfl rfl ⟨Nat.le_of_ble_eq_true rfl, Nat.le_of_ble_eq_true rfl⟩) (rpV (hP.sub (ws' := [oX8 t_h t_a t_thrown t_taped t_at t_behind t_size t_kind t_number t_wrong t_wrongAt t_faultKind t_faultPlace t_x t_wayLong t_bothLeast, arI G (t_a 3) 900 t_tape]) [0, 1] rfl) hK (ci := 8) (q0 := 0) rfl rfl) rfl rfl hl.1 rfl (lv_room (Nat.le_of_ble_eq_true rfl)) dX8_next_151 ⟨Nat.zero_le _, Nat.zero_le _⟩) hS hA hP (fun H locs hP hS => ?_)
      obtain ⟨r_29, hc_30, hf⟩ := bd1_in hf
      refine rcI (va_runS (As := [.int r_27]) (rest := []) ⟨hx, hb, hml, hown, hw⟩ ((ctX8_isDigit l G r_27 _ hc_30) _) (kS hw calX8_isDigit kw_15_0 rfl rfl ⟨Nat.le_of_ble_eq_true rfl, Nat.le_of_ble_eq_true rfl⟩) (rpS (hP.sub (ws' := []) [] rfl) hK) rfl rfl hl.1 rfl (lv_room (Nat.le_of_ble_eq_true rfl)) dX8_next_154 ⟨Nat.zero_le _, Nat.zero_le _⟩) hS hA hP (fun H locs hP hS => ?_)
      refine lv_if_eq (tgt := 209) hx hb dX8_next_157 (by decide) (fun c_31 => ?_) (fun c_31 => ?_)
      · have hf := ip c_31 hf
        exact hX _ _ _ _ _ hP hD hS (lv_sub hl [0] rfl) hf
      · have hf := iq c_31 hf
        refine lv_aload_n hx hb dX8_next_160 rfl (lv_at hl 0 rfl) ?_
        refine va_get (D := G.1) (ci := 8) (v := .int t_behind) (C := RX8) (T := TX8) (N := 33) hx hb hw inW8 hown hK.1 hP 0 rfl rfl 7 (by decide) (hw _ kw_13_21) (fun _ h9 => h9) rfl dX8_next_161 ?_
        refine lv_aload_n hx hb dX8_next_164 rfl (lv_at hl 0 rfl) ?_
        refine va_get (D := G.1) (ci := 8) (v := .int t_at) (C := RX8) (T := TX8) (N := 33) hx hb hw inW8 hown hK.1 hP 0 rfl rfl 6 (by decide) (hw _ kw_14_9) (fun _ h9 => h9) rfl dX8_next_165 ?_
        refine lv_isub hx hb dX8_next_168 ?_
        refine lv_iconst (v := 4) hx hb dX8_next_169 (by decide) ?_
        refine jn_el hf (fun k_33 ek_33 hf => ?_)
        have J196 : ∀ (t_number_32 : Int32) (H : Heap) (locs : List Loc) (ls : Array Slot), va_P G.1 vwCl [oX8 t_h t_a t_thrown t_taped t_at t_behind t_size t_kind t_number_32 t_wrong t_wrongAt t_faultKind t_faultPlace t_x t_wayLong t_bothLeast, arI G (t_a 3) 900 t_tape] H → va_D A [oX8 t_h t_a t_thrown t_taped t_at t_behind t_size t_kind t_number_32 t_wrong t_wrongAt t_faultKind t_faultPlace t_x t_wayLong t_bothLeast, arI G (t_a 3) 900 t_tape] → va_S A s.heap H locs → lv_has ls 1 [(0, .ref t_h)] → k_33 t_number_32 = some (o_t_at, o_t_behind, o_t_kind, o_t_number) → W p l e ({ frames := 5, cells := 0, slots := 0, locals := 143 } : Room) s m args below meth c H locs 0 0 Q (F0 m 196 ls []) := by
          intro t_number_32 H locs ls hP hD hS hl hf
          rw [ek_33] at hf
          refine lv_aload_n hx hb dX8_next_196 rfl (lv_at hl 0 rfl) ?_
          refine lv_dup hx hb dX8_next_197 rfl ?_
          refine va_get (D := G.1) (ci := 8) (v := .int t_behind) (C := RX8) (T := TX8) (N := 33) hx hb hw inW8 hown hK.1 hP 0 rfl rfl 7 (by decide) (hw _ kw_13_21) (fun _ h9 => h9) rfl dX8_next_198 ?_
          refine lv_iconst (v := 1) hx hb dX8_next_201 (by decide) ?_
          refine lv_iadd hx hb dX8_next_202 ?_
          refine lv_topi (fun y_34 ey_34 => ?_)
          have hf := bnd_all hf y_34 ey_34
          refine va_put (D := G.1) (ci := 8) (v := .int y_34) (ty := .int) (C := RX8) (T := TX8) (N := 33) hx hb hw inW8 tyX8 tyX8_ok nmX8 hown hK.1 hP hD hS 0 rfl rfl 7 (by decide) (hw _ kw_13_21) (fun _ h9 => h9) rfl (by decide +kernel) rfl rfl (Nat.le_of_ble_eq_true rfl) dX8_next_203 (fun H locs hP hD hS => ?_)
          have hP : va_P G.1 vwCl [oX8 t_h t_a t_thrown t_taped t_at y_34 t_size t_kind t_number_32 t_wrong t_wrongAt t_faultKind t_faultPlace t_x t_wayLong t_bothLeast, arI G (t_a 3) 900 t_tape] H := hP
          have hD : va_D A [oX8 t_h t_a t_thrown t_taped t_at y_34 t_size t_kind t_number_32 t_wrong t_wrongAt t_faultKind t_faultPlace t_x t_wayLong t_bothLeast, arI G (t_a 3) 900 t_tape] := hD
          refine lv_goto (tgt := 146) hx hb dX8_next_206 (by decide) ?_
          exact ih _ _ _ _ _ hP hD hS (lv_sub hl [0] rfl) hf hX
        refine lv_icmp_ge (tgt := 196) hx hb dX8_next_170 (by decide) (fun c_35 => ?_) (fun c_35 => ?_)
        · have hf := ip c_35 hf
          exact J196 _ _ _ _ hP hD hS (lv_sub hl [0] rfl) hf
        · have hf := iq c_35 hf
          refine lv_aload_n hx hb dX8_next_173 rfl (lv_at hl 0 rfl) ?_
          refine lv_bipush (v := 10) hx hb dX8_next_174 (by decide) ?_
          refine lv_aload_n hx hb dX8_next_176 rfl (lv_at hl 0 rfl) ?_
          refine va_get (D := G.1) (ci := 8) (v := .int t_number) (C := RX8) (T := TX8) (N := 33) hx hb hw inW8 hown hK.1 hP 0 rfl rfl 10 (by decide) (hw _ kw_14_10) (fun _ h9 => h9) rfl dX8_next_177 ?_
          refine lv_imul hx hb dX8_next_180 ?_
          refine lv_aload_n hx hb dX8_next_181 rfl (lv_at hl 0 rfl) ?_
          refine lv_aload_n hx hb dX8_next_182 rfl (lv_at hl 0 rfl) ?_
          refine va_get (D := G.1) (ci := 8) (v := .int t_behind) (C := RX8) (T := TX8) (N := 33) hx hb hw inW8 hown hK.1 hP 0 rfl rfl 7 (by decide) (hw _ kw_13_21) (fun _ h9 => h9) rfl dX8_next_183 ?_
          obtain ⟨r_36, hc_37, hf⟩ := bd1_in hf
          refine rcI (va_runV (As := [.int t_behind]) (rest := [.int (10 * t_number), .ref t_h]) ⟨hx, hb, hml, hown, hw⟩ ((ctX8_see l G t_h t_a t_thrown t_tape t_taped t_at t_behind t_size t_kind t_number t_wrong t_wrongAt t_faultKind t_faultPlace t_x t_wayLong t_bothLeast t_behind _ hc_37) _) (kV hw calX8_see kw_14_11 rfl rfl ⟨Nat.le_of_ble_eq_true rfl, Nat.le_of_ble_eq_true rfl⟩) (rpV (hP.sub (ws' := [oX8 t_h t_a t_thrown t_taped t_at t_behind t_size t_kind t_number t_wrong t_wrongAt t_faultKind t_faultPlace t_x t_wayLong t_bothLeast, arI G (t_a 3) 900 t_tape]) [0, 1] rfl) hK (ci := 8) (q0 := 0) rfl rfl) rfl rfl hl.1 rfl (lv_room (Nat.le_of_ble_eq_true rfl)) dX8_next_186 ⟨Nat.zero_le _, Nat.zero_le _⟩) hS hA hP (fun H locs hP hS => ?_)
          refine lv_iadd hx hb dX8_next_189 ?_
          refine lv_bipush (v := 48) hx hb dX8_next_190 (by decide) ?_
          refine lv_isub hx hb dX8_next_192 ?_
          refine lv_topi (fun y_38 ey_38 => ?_)
          have hf := bnd_all hf y_38 ey_38
          refine va_put (D := G.1) (ci := 8) (v := .int y_38) (ty := .int) (C := RX8) (T := TX8) (N := 33) hx hb hw inW8 tyX8 tyX8_ok nmX8 hown hK.1 hP hD hS 0 rfl rfl 10 (by decide) (hw _ kw_14_10) (fun _ h9 => h9) rfl (by decide +kernel) rfl rfl (Nat.le_of_ble_eq_true rfl) dX8_next_193 (fun H locs hP hD hS => ?_)
          have hP : va_P G.1 vwCl [oX8 t_h t_a t_thrown t_taped t_at t_behind t_size t_kind y_38 t_wrong t_wrongAt t_faultKind t_faultPlace t_x t_wayLong t_bothLeast, arI G (t_a 3) 900 t_tape] H := hP
          have hD : va_D A [oX8 t_h t_a t_thrown t_taped t_at t_behind t_size t_kind y_38 t_wrong t_wrongAt t_faultKind t_faultPlace t_x t_wayLong t_bothLeast, arI G (t_a 3) 900 t_tape] := hD
          exact J196 _ _ _ _ hP hD hS (lv_sub hl [0] rfl) hf
  have L89 : ∀ (t_at : Int32) (t_kind : Int32) (t_number : Int32) (K : Int32 → Option (Int32 × Int32 × Int32 × Int32)) (n : Nat) (t_behind : Int32) (H : Heap) (locs : List Loc) (ls : Array Slot), va_P G.1 vwCl [oX8 t_h t_a t_thrown t_taped t_at t_behind t_size t_kind t_number t_wrong t_wrongAt t_faultKind t_faultPlace t_x t_wayLong t_bothLeast, arI G (t_a 3) 900 t_tape] H → va_D A [oX8 t_h t_a t_thrown t_taped t_at t_behind t_size t_kind t_number t_wrong t_wrongAt t_faultKind t_faultPlace t_x t_wayLong t_bothLeast, arI G (t_a 3) 900 t_tape] → va_S A s.heap H locs → lv_has ls 1 [(0, .ref t_h)] → fX8_next_89 t_tape t_size K n t_behind = some (o_t_at, o_t_behind, o_t_kind, o_t_number) → (∀ (kt_behind : Int32) (H : Heap) (locs : List Loc) (ls : Array Slot), va_P G.1 vwCl [oX8 t_h t_a t_thrown t_taped t_at kt_behind t_size t_kind t_number t_wrong t_wrongAt t_faultKind t_faultPlace t_x t_wayLong t_bothLeast, arI G (t_a 3) 900 t_tape] H → va_D A [oX8 t_h t_a t_thrown t_taped t_at kt_behind t_size t_kind t_number t_wrong t_wrongAt t_faultKind t_faultPlace t_x t_wayLong t_bothLeast, arI G (t_a 3) 900 t_tape] → va_S A s.heap H locs → lv_has ls 1 [(0, .ref t_h)] → K kt_behind = some (o_t_at, o_t_behind, o_t_kind, o_t_number) → W p l e ({ frames := 5, cells := 0, slots := 0, locals := 143 } : Room) s m args below meth c H locs 0 0 Q (F0 m 116 ls [])) → W p l e ({ frames := 5, cells := 0, slots := 0, locals := 143 } : Room) s m args below meth c H locs 0 0 Q (F0 m 89 ls []) := by
    intro t_at t_kind t_number K n
    induction n with
    | zero => intro t_behind H locs ls hP hD hS hl hf; rw [fX8_next_89] at hf; cases hf
    | succ n ih =>
      intro t_behind H locs ls hP hD hS hl hf hX
      rw [fX8_next_89] at hf
      refine lv_aload_n hx hb dX8_next_89 rfl (lv_at hl 0 rfl) ?_
      refine lv_aload_n hx hb dX8_next_90 rfl (lv_at hl 0 rfl) ?_
      refine va_get (D := G.1) (ci := 8) (v := .int t_behind) (C := RX8) (T := TX8) (N := 33) hx hb hw inW8 hown hK.1 hP 0 rfl rfl 7 (by decide) (hw _ kw_13_21) (fun _ h9 => h9) rfl dX8_next_91 ?_
      obtain ⟨r_44, hc_45, hf⟩ := bd1_in hf
      refine rcI (va_runV (As := [.int t_behind]) (rest := []) ⟨hx, hb, hml, hown, hw⟩ ((ctX8_see l G t_h t_a t_thrown t_tape t_taped t_at t_behind t_size t_kind t_number t_wrong t_wrongAt t_faultKind t_faultPlace t_x t_wayLong t_bothLeast t_behind _ hc_45) _) (kV hw calX8_see kw_14_11 rfl rfl ⟨Nat.le_of_ble_eq_true rfl, Nat.le_of_ble_eq_true rfl⟩) (rpV (hP.sub (ws' := [oX8 t_h t_a t_thrown t_taped t_at t_behind t_size t_kind t_number t_wrong t_wrongAt t_faultKind t_faultPlace t_x t_wayLong t_bothLeast, arI G (t_a 3) 900 t_tape]) [0, 1] rfl) hK (ci := 8) (q0 := 0) rfl rfl) rfl rfl hl.1 rfl (lv_room (Nat.le_of_ble_eq_true rfl)) dX8_next_94 ⟨Nat.zero_le _, Nat.zero_le _⟩) hS hA hP (fun H locs hP hS => ?_)
      obtain ⟨r_46, hc_47, hf⟩ := bd1_in hf
      refine rcI (va_runS (As := [.int r_44]) (rest := []) ⟨hx, hb, hml, hown, hw⟩ ((ctX8_isSmall l G r_44 _ hc_47) _) (kS hw calX8_isSmall kw_14_15 rfl rfl ⟨Nat.le_of_ble_eq_true rfl, Nat.le_of_ble_eq_true rfl⟩) (rpS (hP.sub (ws' := []) [] rfl) hK) rfl rfl hl.1 rfl (lv_room (Nat.le_of_ble_eq_true rfl)) dX8_next_97 ⟨Nat.zero_le _, Nat.zero_le _⟩) hS hA hP (fun H locs hP hS => ?_)
      refine lv_if_eq (tgt := 116) hx hb dX8_next_100 (by decide) (fun c_48 => ?_) (fun c_48 => ?_)
      · have hf := ip c_48 hf
        exact hX _ _ _ _ hP hD hS (lv_sub hl [0] rfl) hf
      · have hf := iq c_48 hf
        refine lv_aload_n hx hb dX8_next_103 rfl (lv_at hl 0 rfl) ?_
        refine lv_dup hx hb dX8_next_104 rfl ?_
        refine va_get (D := G.1) (ci := 8) (v := .int t_behind) (C := RX8) (T := TX8) (N := 33) hx hb hw inW8 hown hK.1 hP 0 rfl rfl 7 (by decide) (hw _ kw_13_21) (fun _ h9 => h9) rfl dX8_next_105 ?_
        refine lv_iconst (v := 1) hx hb dX8_next_108 (by decide) ?_
        refine lv_iadd hx hb dX8_next_109 ?_
        refine lv_topi (fun y_49 ey_49 => ?_)
        have hf := bnd_all hf y_49 ey_49
        refine va_put (D := G.1) (ci := 8) (v := .int y_49) (ty := .int) (C := RX8) (T := TX8) (N := 33) hx hb hw inW8 tyX8 tyX8_ok nmX8 hown hK.1 hP hD hS 0 rfl rfl 7 (by decide) (hw _ kw_13_21) (fun _ h9 => h9) rfl (by decide +kernel) rfl rfl (Nat.le_of_ble_eq_true rfl) dX8_next_110 (fun H locs hP hD hS => ?_)
        have hP : va_P G.1 vwCl [oX8 t_h t_a t_thrown t_taped t_at y_49 t_size t_kind t_number t_wrong t_wrongAt t_faultKind t_faultPlace t_x t_wayLong t_bothLeast, arI G (t_a 3) 900 t_tape] H := hP
        have hD : va_D A [oX8 t_h t_a t_thrown t_taped t_at y_49 t_size t_kind t_number t_wrong t_wrongAt t_faultKind t_faultPlace t_x t_wayLong t_bothLeast, arI G (t_a 3) 900 t_tape] := hD
        refine lv_goto (tgt := 89) hx hb dX8_next_113 (by decide) ?_
        exact ih _ _ _ _ hP hD hS (lv_sub hl [0] rfl) hf hX
  unfold fX8_next at hf
  refine lv_aload_n hx hb dX8_next_0 rfl (lv_at hl 0 rfl) ?_
  refine lv_aload_n hx hb dX8_next_1 rfl (lv_at hl 0 rfl) ?_
  refine va_get (D := G.1) (ci := 8) (v := .int t_behind) (C := RX8) (T := TX8) (N := 33) hx hb hw inW8 hown hK.1 hP 0 rfl rfl 7 (by decide) (hw _ kw_13_21) (fun _ h9 => h9) rfl dX8_next_2 ?_
  refine va_put (D := G.1) (ci := 8) (v := .int t_behind) (ty := .int) (C := RX8) (T := TX8) (N := 33) hx hb hw inW8 tyX8 tyX8_ok nmX8 hown hK.1 hP hD hS 0 rfl rfl 6 (by decide) (hw _ kw_14_9) (fun _ h9 => h9) rfl (by decide +kernel) rfl rfl (Nat.le_of_ble_eq_true rfl) dX8_next_5 (fun H locs hP hD hS => ?_)
  have hP : va_P G.1 vwCl [oX8 t_h t_a t_thrown t_taped t_behind t_behind t_size t_kind t_number t_wrong t_wrongAt t_faultKind t_faultPlace t_x t_wayLong t_bothLeast, arI G (t_a 3) 900 t_tape] H := hP
  have hD : va_D A [oX8 t_h t_a t_thrown t_taped t_behind t_behind t_size t_kind t_number t_wrong t_wrongAt t_faultKind t_faultPlace t_x t_wayLong t_bothLeast, arI G (t_a 3) 900 t_tape] := hD
  refine L8 _ _ _ _ _ _ _ _ _ hP hD hS (lv_sub hl [0] rfl) hf (fun t_at_9 H locs ls hP hD hS hl hf => ?_)
  refine lv_aload_n hx hb dX8_next_47 rfl (lv_at hl 0 rfl) ?_
  refine lv_aload_n hx hb dX8_next_48 rfl (lv_at hl 0 rfl) ?_
  refine va_get (D := G.1) (ci := 8) (v := .int t_at_9) (C := RX8) (T := TX8) (N := 33) hx hb hw inW8 hown hK.1 hP 0 rfl rfl 6 (by decide) (hw _ kw_14_9) (fun _ h9 => h9) rfl dX8_next_49 ?_
  refine va_put (D := G.1) (ci := 8) (v := .int t_at_9) (ty := .int) (C := RX8) (T := TX8) (N := 33) hx hb hw inW8 tyX8 tyX8_ok nmX8 hown hK.1 hP hD hS 0 rfl rfl 7 (by decide) (hw _ kw_13_21) (fun _ h9 => h9) rfl (by decide +kernel) rfl rfl (Nat.le_of_ble_eq_true rfl) dX8_next_52 (fun H locs hP hD hS => ?_)
  have hP : va_P G.1 vwCl [oX8 t_h t_a t_thrown t_taped t_at_9 t_at_9 t_size t_kind t_number t_wrong t_wrongAt t_faultKind t_faultPlace t_x t_wayLong t_bothLeast, arI G (t_a 3) 900 t_tape] H := hP
  have hD : va_D A [oX8 t_h t_a t_thrown t_taped t_at_9 t_at_9 t_size t_kind t_number t_wrong t_wrongAt t_faultKind t_faultPlace t_x t_wayLong t_bothLeast, arI G (t_a 3) 900 t_tape] := hD
  refine lv_aload_n hx hb dX8_next_55 rfl (lv_at hl 0 rfl) ?_
  refine va_get (D := G.1) (ci := 8) (v := .int t_at_9) (C := RX8) (T := TX8) (N := 33) hx hb hw inW8 hown hK.1 hP 0 rfl rfl 6 (by decide) (hw _ kw_14_9) (fun _ h9 => h9) rfl dX8_next_56 ?_
  refine lv_aload_n hx hb dX8_next_59 rfl (lv_at hl 0 rfl) ?_
  refine va_get (D := G.1) (ci := 8) (v := .int t_size) (C := RX8) (T := TX8) (N := 33) hx hb hw inW8 hown hK.1 hP 0 rfl rfl 8 (by decide) (hw _ kw_13_20) (fun _ h9 => h9) rfl dX8_next_60 ?_
  refine lv_icmp_lt (tgt := 75) hx hb dX8_next_63 (by decide) (fun c_10 => ?_) (fun c_10 => ?_)
  · have hf := ip c_10 hf
    refine lv_aload_n hx hb dX8_next_75 rfl (lv_at hl 0 rfl) ?_
    refine lv_aload_n hx hb dX8_next_76 rfl (lv_at hl 0 rfl) ?_
    refine va_get (D := G.1) (ci := 8) (v := .int t_at_9) (C := RX8) (T := TX8) (N := 33) hx hb hw inW8 hown hK.1 hP 0 rfl rfl 6 (by decide) (hw _ kw_14_9) (fun _ h9 => h9) rfl dX8_next_77 ?_
    obtain ⟨r_11, hc_12, hf⟩ := bd1_in hf
    refine rcI (va_runV (As := [.int t_at_9]) (rest := []) ⟨hx, hb, hml, hown, hw⟩ ((ctX8_see l G t_h t_a t_thrown t_tape t_taped t_at_9 t_at_9 t_size t_kind t_number t_wrong t_wrongAt t_faultKind t_faultPlace t_x t_wayLong t_bothLeast t_at_9 _ hc_12) _) (kV hw calX8_see kw_14_11 rfl rfl ⟨Nat.le_of_ble_eq_true rfl, Nat.le_of_ble_eq_true rfl⟩) (rpV (hP.sub (ws' := [oX8 t_h t_a t_thrown t_taped t_at_9 t_at_9 t_size t_kind t_number t_wrong t_wrongAt t_faultKind t_faultPlace t_x t_wayLong t_bothLeast, arI G (t_a 3) 900 t_tape]) [0, 1] rfl) hK (ci := 8) (q0 := 0) rfl rfl) rfl rfl hl.1 rfl (lv_room (Nat.le_of_ble_eq_true rfl)) dX8_next_80 ⟨Nat.zero_le _, Nat.zero_le _⟩) hS hA hP (fun H locs hP hS => ?_)
    obtain ⟨r_13, hc_14, hf⟩ := bd1_in hf
    refine rcI (va_runS (As := [.int r_11]) (rest := []) ⟨hx, hb, hml, hown, hw⟩ ((ctX8_isSmall l G r_11 _ hc_14) _) (kS hw calX8_isSmall kw_14_15 rfl rfl ⟨Nat.le_of_ble_eq_true rfl, Nat.le_of_ble_eq_true rfl⟩) (rpS (hP.sub (ws' := []) [] rfl) hK) rfl rfl hl.1 rfl (lv_room (Nat.le_of_ble_eq_true rfl)) dX8_next_83 ⟨Nat.zero_le _, Nat.zero_le _⟩) hS hA hP (fun H locs hP hS => ?_)
    refine lv_if_eq (tgt := 127) hx hb dX8_next_86 (by decide) (fun c_15 => ?_) (fun c_15 => ?_)
    · have hf := ip c_15 hf
      refine lv_aload_n hx hb dX8_next_127 rfl (lv_at hl 0 rfl) ?_
      refine lv_aload_n hx hb dX8_next_128 rfl (lv_at hl 0 rfl) ?_
      refine va_get (D := G.1) (ci := 8) (v := .int t_at_9) (C := RX8) (T := TX8) (N := 33) hx hb hw inW8 hown hK.1 hP 0 rfl rfl 6 (by decide) (hw _ kw_14_9) (fun _ h9 => h9) rfl dX8_next_129 ?_
      obtain ⟨r_16, hc_17, hf⟩ := bd1_in hf
      refine rcI (va_runV (As := [.int t_at_9]) (rest := []) ⟨hx, hb, hml, hown, hw⟩ ((ctX8_see l G t_h t_a t_thrown t_tape t_taped t_at_9 t_at_9 t_size t_kind t_number t_wrong t_wrongAt t_faultKind t_faultPlace t_x t_wayLong t_bothLeast t_at_9 _ hc_17) _) (kV hw calX8_see kw_14_11 rfl rfl ⟨Nat.le_of_ble_eq_true rfl, Nat.le_of_ble_eq_true rfl⟩) (rpV (hP.sub (ws' := [oX8 t_h t_a t_thrown t_taped t_at_9 t_at_9 t_size t_kind t_number t_wrong t_wrongAt t_faultKind t_faultPlace t_x t_wayLong t_bothLeast, arI G (t_a 3) 900 t_tape]) [0, 1] rfl) hK (ci := 8) (q0 := 0) rfl rfl) rfl rfl hl.1 rfl (lv_room (Nat.le_of_ble_eq_true rfl)) dX8_next_132 ⟨Nat.zero_le _, Nat.zero_le _⟩) hS hA hP (fun H locs hP hS => ?_)
      obtain ⟨r_18, hc_19, hf⟩ := bd1_in hf
      refine rcI (va_runS (As := [.int r_16]) (rest := []) ⟨hx, hb, hml, hown, hw⟩ ((ctX8_isDigit l G r_16 _ hc_19) _) (kS hw calX8_isDigit kw_15_0 rfl rfl ⟨Nat.le_of_ble_eq_true rfl, Nat.le_of_ble_eq_true rfl⟩) (rpS (hP.sub (ws' := []) [] rfl) hK) rfl rfl hl.1 rfl (lv_room (Nat.le_of_ble_eq_true rfl)) dX8_next_135 ⟨Nat.zero_le _, Nat.zero_le _⟩) hS hA hP (fun H locs hP hS => ?_)
      refine lv_if_eq (tgt := 236) hx hb dX8_next_138 (by decide) (fun c_20 => ?_) (fun c_20 => ?_)
      · have hf := ip c_20 hf
        refine lv_aload_n hx hb dX8_next_236 rfl (lv_at hl 0 rfl) ?_
        refine lv_dup hx hb dX8_next_237 rfl ?_
        refine va_get (D := G.1) (ci := 8) (v := .int t_at_9) (C := RX8) (T := TX8) (N := 33) hx hb hw inW8 hown hK.1 hP 0 rfl rfl 7 (by decide) (hw _ kw_13_21) (fun _ h9 => h9) rfl dX8_next_238 ?_
        refine lv_iconst (v := 1) hx hb dX8_next_241 (by decide) ?_
        refine lv_iadd hx hb dX8_next_242 ?_
        refine lv_topi (fun y_21 ey_21 => ?_)
        have hf := bnd_all hf y_21 ey_21
        refine va_put (D := G.1) (ci := 8) (v := .int y_21) (ty := .int) (C := RX8) (T := TX8) (N := 33) hx hb hw inW8 tyX8 tyX8_ok nmX8 hown hK.1 hP hD hS 0 rfl rfl 7 (by decide) (hw _ kw_13_21) (fun _ h9 => h9) rfl (by decide +kernel) rfl rfl (Nat.le_of_ble_eq_true rfl) dX8_next_243 (fun H locs hP hD hS => ?_)
        have hP : va_P G.1 vwCl [oX8 t_h t_a t_thrown t_taped t_at_9 y_21 t_size t_kind t_number t_wrong t_wrongAt t_faultKind t_faultPlace t_x t_wayLong t_bothLeast, arI G (t_a 3) 900 t_tape] H := hP
        have hD : va_D A [oX8 t_h t_a t_thrown t_taped t_at_9 y_21 t_size t_kind t_number t_wrong t_wrongAt t_faultKind t_faultPlace t_x t_wayLong t_bothLeast, arI G (t_a 3) 900 t_tape] := hD
        refine lv_aload_n hx hb dX8_next_246 rfl (lv_at hl 0 rfl) ?_
        refine lv_aload_n hx hb dX8_next_247 rfl (lv_at hl 0 rfl) ?_
        refine lv_aload_n hx hb dX8_next_248 rfl (lv_at hl 0 rfl) ?_
        refine va_get (D := G.1) (ci := 8) (v := .int t_at_9) (C := RX8) (T := TX8) (N := 33) hx hb hw inW8 hown hK.1 hP 0 rfl rfl 6 (by decide) (hw _ kw_14_9) (fun _ h9 => h9) rfl dX8_next_249 ?_
        obtain ⟨r_22, hc_23, hf⟩ := bd1_in hf
        refine rcI (va_runV (As := [.int t_at_9]) (rest := [.ref t_h]) ⟨hx, hb, hml, hown, hw⟩ ((ctX8_see l G t_h t_a t_thrown t_tape t_taped t_at_9 y_21 t_size t_kind t_number t_wrong t_wrongAt t_faultKind t_faultPlace t_x t_wayLong t_bothLeast t_at_9 _ hc_23) _) (kV hw calX8_see kw_14_11 rfl rfl ⟨Nat.le_of_ble_eq_true rfl, Nat.le_of_ble_eq_true rfl⟩) (rpV (hP.sub (ws' := [oX8 t_h t_a t_thrown t_taped t_at_9 y_21 t_size t_kind t_number t_wrong t_wrongAt t_faultKind t_faultPlace t_x t_wayLong t_bothLeast, arI G (t_a 3) 900 t_tape]) [0, 1] rfl) hK (ci := 8) (q0 := 0) rfl rfl) rfl rfl hl.1 rfl (lv_room (Nat.le_of_ble_eq_true rfl)) dX8_next_252 ⟨Nat.zero_le _, Nat.zero_le _⟩) hS hA hP (fun H locs hP hS => ?_)
        refine lv_bipush (v := 59) hx hb dX8_next_255 (by decide) ?_
        refine jn_el hf (fun k_25 ek_25 hf => ?_)
        have J267 : ∀ (z_24 : Int32) (H : Heap) (locs : List Loc) (ls : Array Slot), va_P G.1 vwCl [oX8 t_h t_a t_thrown t_taped t_at_9 y_21 t_size t_kind t_number t_wrong t_wrongAt t_faultKind t_faultPlace t_x t_wayLong t_bothLeast, arI G (t_a 3) 900 t_tape] H → va_D A [oX8 t_h t_a t_thrown t_taped t_at_9 y_21 t_size t_kind t_number t_wrong t_wrongAt t_faultKind t_faultPlace t_x t_wayLong t_bothLeast, arI G (t_a 3) 900 t_tape] → va_S A s.heap H locs → lv_has ls 1 [] → k_25 z_24 = some (o_t_at, o_t_behind, o_t_kind, o_t_number) → W p l e ({ frames := 5, cells := 0, slots := 0, locals := 143 } : Room) s m args below meth c H locs 0 0 Q (F0 m 267 ls [.int z_24, .ref t_h]) := by
          intro z_24 H locs ls hP hD hS hl hf
          rw [ek_25] at hf
          refine va_put (D := G.1) (ci := 8) (v := .int z_24) (ty := .int) (C := RX8) (T := TX8) (N := 33) hx hb hw inW8 tyX8 tyX8_ok nmX8 hown hK.1 hP hD hS 0 rfl rfl 9 (by decide) (hw _ kw_13_23) (fun _ h9 => h9) rfl (by decide +kernel) rfl rfl (Nat.le_of_ble_eq_true rfl) dX8_next_267 (fun H locs hP hD hS => ?_)
          have hP : va_P G.1 vwCl [oX8 t_h t_a t_thrown t_taped t_at_9 y_21 t_size z_24 t_number t_wrong t_wrongAt t_faultKind t_faultPlace t_x t_wayLong t_bothLeast, arI G (t_a 3) 900 t_tape] H := hP
          have hD : va_D A [oX8 t_h t_a t_thrown t_taped t_at_9 y_21 t_size z_24 t_number t_wrong t_wrongAt t_faultKind t_faultPlace t_x t_wayLong t_bothLeast, arI G (t_a 3) 900 t_tape] := hD
          exact hRet _ _ _ _ _ _ _ _ hf hP hS dX8_next_270
        refine lv_icmp_ne (tgt := 265) hx hb dX8_next_257 (by decide) (fun c_26 => ?_) (fun c_26 => ?_)
        · have hf := iq c_26 hf
          refine lv_bipush (v := 11) hx hb dX8_next_265 (by decide) ?_
          exact J267 _ _ _ _ hP hD hS (lv_sub hl [] rfl) hf
        · have hf := ip c_26 hf
          refine lv_bipush (v := 9) hx hb dX8_next_260 (by decide) ?_
          refine lv_goto (tgt := 267) hx hb dX8_next_262 (by decide) ?_
          exact J267 _ _ _ _ hP hD hS (lv_sub hl [] rfl) hf
      · have hf := iq c_20 hf
        refine lv_aload_n hx hb dX8_next_141 rfl (lv_at hl 0 rfl) ?_
        refine lv_iconst (v := 0) hx hb dX8_next_142 (by decide) ?_
        refine va_put (D := G.1) (ci := 8) (v := .int 0) (ty := .int) (C := RX8) (T := TX8) (N := 33) hx hb hw inW8 tyX8 tyX8_ok nmX8 hown hK.1 hP hD hS 0 rfl rfl 10 (by decide) (hw _ kw_14_10) (fun _ h9 => h9) rfl (by decide +kernel) rfl rfl (Nat.le_of_ble_eq_true rfl) dX8_next_143 (fun H locs hP hD hS => ?_)
        have hP : va_P G.1 vwCl [oX8 t_h t_a t_thrown t_taped t_at_9 t_at_9 t_size t_kind 0 t_wrong t_wrongAt t_faultKind t_faultPlace t_x t_wayLong t_bothLeast, arI G (t_a 3) 900 t_tape] H := hP
        have hD : va_D A [oX8 t_h t_a t_thrown t_taped t_at_9 t_at_9 t_size t_kind 0 t_wrong t_wrongAt t_faultKind t_faultPlace t_x t_wayLong t_bothLeast, arI G (t_a 3) 900 t_tape] := hD
        refine L146 _ _ _ _ _ _ _ _ _ hP hD hS (lv_sub hl [0] rfl) hf (fun t_behind_39 t_number_40 H locs ls hP hD hS hl hf => ?_)
        refine lv_aload_n hx hb dX8_next_209 rfl (lv_at hl 0 rfl) ?_
        refine lv_aload_n hx hb dX8_next_210 rfl (lv_at hl 0 rfl) ?_
        refine va_get (D := G.1) (ci := 8) (v := .int t_behind_39) (C := RX8) (T := TX8) (N := 33) hx hb hw inW8 hown hK.1 hP 0 rfl rfl 7 (by decide) (hw _ kw_13_21) (fun _ h9 => h9) rfl dX8_next_211 ?_
        refine lv_aload_n hx hb dX8_next_214 rfl (lv_at hl 0 rfl) ?_
        refine va_get (D := G.1) (ci := 8) (v := .int t_at_9) (C := RX8) (T := TX8) (N := 33) hx hb hw inW8 hown hK.1 hP 0 rfl rfl 6 (by decide) (hw _ kw_14_9) (fun _ h9 => h9) rfl dX8_next_215 ?_
        refine lv_isub hx hb dX8_next_218 ?_
        refine lv_iconst (v := 4) hx hb dX8_next_219 (by decide) ?_
        refine jn_el hf (fun k_42 ek_42 hf => ?_)
        have J230 : ∀ (z_41 : Int32) (H : Heap) (locs : List Loc) (ls : Array Slot), va_P G.1 vwCl [oX8 t_h t_a t_thrown t_taped t_at_9 t_behind_39 t_size t_kind t_number_40 t_wrong t_wrongAt t_faultKind t_faultPlace t_x t_wayLong t_bothLeast, arI G (t_a 3) 900 t_tape] H → va_D A [oX8 t_h t_a t_thrown t_taped t_at_9 t_behind_39 t_size t_kind t_number_40 t_wrong t_wrongAt t_faultKind t_faultPlace t_x t_wayLong t_bothLeast, arI G (t_a 3) 900 t_tape] → va_S A s.heap H locs → lv_has ls 1 [] → k_42 z_41 = some (o_t_at, o_t_behind, o_t_kind, o_t_number) → W p l e ({ frames := 5, cells := 0, slots := 0, locals := 143 } : Room) s m args below meth c H locs 0 0 Q (F0 m 230 ls [.int z_41, .ref t_h]) := by
          intro z_41 H locs ls hP hD hS hl hf
          rw [ek_42] at hf
          refine va_put (D := G.1) (ci := 8) (v := .int z_41) (ty := .int) (C := RX8) (T := TX8) (N := 33) hx hb hw inW8 tyX8 tyX8_ok nmX8 hown hK.1 hP hD hS 0 rfl rfl 9 (by decide) (hw _ kw_13_23) (fun _ h9 => h9) rfl (by decide +kernel) rfl rfl (Nat.le_of_ble_eq_true rfl) dX8_next_230 (fun H locs hP hD hS => ?_)
          have hP : va_P G.1 vwCl [oX8 t_h t_a t_thrown t_taped t_at_9 t_behind_39 t_size z_41 t_number_40 t_wrong t_wrongAt t_faultKind t_faultPlace t_x t_wayLong t_bothLeast, arI G (t_a 3) 900 t_tape] H := hP
          have hD : va_D A [oX8 t_h t_a t_thrown t_taped t_at_9 t_behind_39 t_size z_41 t_number_40 t_wrong t_wrongAt t_faultKind t_faultPlace t_x t_wayLong t_bothLeast, arI G (t_a 3) 900 t_tape] := hD
          refine lv_goto (tgt := 270) hx hb dX8_next_233 (by decide) ?_
          exact hRet _ _ _ _ _ _ _ _ hf hP hS dX8_next_270
        refine lv_icmp_le (tgt := 228) hx hb dX8_next_220 (by decide) (fun c_43 => ?_) (fun c_43 => ?_)
        · have hf := ip c_43 hf
          refine lv_bipush (v := 8) hx hb dX8_next_228 (by decide) ?_
          exact J230 _ _ _ _ hP hD hS (lv_sub hl [] rfl) hf
        · have hf := iq c_43 hf
          refine lv_bipush (v := 11) hx hb dX8_next_223 (by decide) ?_
          refine lv_goto (tgt := 230) hx hb dX8_next_225 (by decide) ?_
          exact J230 _ _ _ _ hP hD hS (lv_sub hl [] rfl) hf
    · have hf := iq c_15 hf
      refine L89 _ _ _ _ _ _ _ _ _ hP hD hS (lv_sub hl [0] rfl) hf (fun t_behind_50 H locs ls hP hD hS hl hf => ?_)
      refine lv_aload_n hx hb dX8_next_116 rfl (lv_at hl 0 rfl) ?_
      refine lv_aload_n hx hb dX8_next_117 rfl (lv_at hl 0 rfl) ?_
      obtain ⟨r_51, hc_52, hf⟩ := bd1_in hf
      refine rcI (va_runV (As := []) (rest := [.ref t_h]) ⟨hx, hb, hml, hown, hw⟩ ((ctX8_keyAt l G ad av t_h t_a t_thrown t_tape t_taped t_at_9 t_behind_50 t_size t_kind t_number t_wrong t_wrongAt t_faultKind t_faultPlace t_x t_wayLong t_bothLeast _ hc_52) _) (kV hw calX8_keyAt kw_14_18 rfl rfl ⟨Nat.le_of_ble_eq_true rfl, Nat.le_of_ble_eq_true rfl⟩) (rsV (hP.sub (ws' := [oX8 t_h t_a t_thrown t_taped t_at_9 t_behind_50 t_size t_kind t_number t_wrong t_wrongAt t_faultKind t_faultPlace t_x t_wayLong t_bothLeast, arI G (t_a 3) 900 t_tape]) [0, 1] rfl) hE hS hA hK (ci := 8) (q0 := 0) rfl rfl) rfl rfl hl.1 rfl (lv_room (Nat.le_of_ble_eq_true rfl)) dX8_next_118 ⟨Nat.zero_le _, Nat.zero_le _⟩) hS hA hP (fun H locs hP hS => ?_)
      refine va_put (D := G.1) (ci := 8) (v := .int r_51) (ty := .int) (C := RX8) (T := TX8) (N := 33) hx hb hw inW8 tyX8 tyX8_ok nmX8 hown hK.1 hP hD hS 0 rfl rfl 9 (by decide) (hw _ kw_13_23) (fun _ h9 => h9) rfl (by decide +kernel) rfl rfl (Nat.le_of_ble_eq_true rfl) dX8_next_121 (fun H locs hP hD hS => ?_)
      have hP : va_P G.1 vwCl [oX8 t_h t_a t_thrown t_taped t_at_9 t_behind_50 t_size r_51 t_number t_wrong t_wrongAt t_faultKind t_faultPlace t_x t_wayLong t_bothLeast, arI G (t_a 3) 900 t_tape] H := hP
      have hD : va_D A [oX8 t_h t_a t_thrown t_taped t_at_9 t_behind_50 t_size r_51 t_number t_wrong t_wrongAt t_faultKind t_faultPlace t_x t_wayLong t_bothLeast, arI G (t_a 3) 900 t_tape] := hD
      refine lv_goto (tgt := 270) hx hb dX8_next_124 (by decide) ?_
      exact hRet _ _ _ _ _ _ _ _ hf hP hS dX8_next_270
  · have hf := iq c_10 hf
    refine lv_aload_n hx hb dX8_next_66 rfl (lv_at hl 0 rfl) ?_
    refine lv_bipush (v := 10) hx hb dX8_next_67 (by decide) ?_
    refine va_put (D := G.1) (ci := 8) (v := .int 10) (ty := .int) (C := RX8) (T := TX8) (N := 33) hx hb hw inW8 tyX8 tyX8_ok nmX8 hown hK.1 hP hD hS 0 rfl rfl 9 (by decide) (hw _ kw_13_23) (fun _ h9 => h9) rfl (by decide +kernel) rfl rfl (Nat.le_of_ble_eq_true rfl) dX8_next_69 (fun H locs hP hD hS => ?_)
    have hP : va_P G.1 vwCl [oX8 t_h t_a t_thrown t_taped t_at_9 t_at_9 t_size 10 t_number t_wrong t_wrongAt t_faultKind t_faultPlace t_x t_wayLong t_bothLeast, arI G (t_a 3) 900 t_tape] H := hP
    have hD : va_D A [oX8 t_h t_a t_thrown t_taped t_at_9 t_at_9 t_size 10 t_number t_wrong t_wrongAt t_faultKind t_faultPlace t_x t_wayLong t_bothLeast, arI G (t_a 3) 900 t_tape] := hD
    refine lv_goto (tgt := 270) hx hb dX8_next_72 (by decide) ?_
    exact hRet _ _ _ _ _ _ _ _ hf hP hS dX8_next_270
theorem calX8_eats : CalV yX8_eats cX8_eats 2 (some .boolean) 1 := ⟨⟨kw_16_13, kw_1_5, by decide +kernel⟩, kw_16_11, kw_16_12⟩
set_option maxHeartbeats 8000000 in
set_option maxRecDepth 100000 in
theorem ctX8_eats (l : Launch) (G : GT) (ad : Nat → Nat) (av : Nat → Nat) (t_h : Nat) (t_a : Nat → Nat) (t_thrown : Int32) (t_tape : Nat → Int32) (t_taped : Int32) (t_at : Int32) (t_behind : Int32) (t_size : Int32) (t_kind : Int32) (t_number : Int32) (t_wrong : Int32) (t_wrongAt : Int32) (t_faultKind : Int32) (t_faultPlace : Int32) (t_x : Int32) (t_wayLong : Int32) (t_bothLeast : Int32) (v1 : Int32) (r : Int32) (o_t_at : Int32) (o_t_behind : Int32) (o_t_kind : Int32) (o_t_number : Int32) (hf : fX8_eats t_tape t_at t_behind t_size t_kind t_number t_wrong v1 = some (r, o_t_at, o_t_behind, o_t_kind, o_t_number)) : WsI l yX8_eats (Cond.code yX8_eats cX8_eats 2 (some .boolean)) { frames := 6, cells := 0, slots := 0, locals := 163 } G ad av [.ref t_h, .int v1] [oX8 t_h t_a t_thrown t_taped t_at t_behind t_size t_kind t_number t_wrong t_wrongAt t_faultKind t_faultPlace t_x t_wayLong t_bothLeast, arI G (t_a 3) 900 t_tape] [oX8 t_h t_a t_thrown t_taped o_t_at o_t_behind t_size o_t_kind o_t_number t_wrong t_wrongAt t_faultKind t_faultPlace t_x t_wayLong t_bothLeast, arI G (t_a 3) 900 t_tape] r := by
  intro sz
  refine Met.ofW (cc := cX8_eats) (maxL := 2) (ret := (some .boolean)) (by decide) rfl ?_
  intro p e s m args below meth c s₁ B hml hv
  obtain ⟨hargs, hsz, hP, hD0, hE0, hK⟩ := hv
  subst hsz
  obtain ⟨hx, hb, hr, hw, hown, hlk⟩ := fwB B
  refine fw_enter hargs (Nat.le_of_ble_eq_true rfl) (fun ls hl => ?_)
  have hl : lv_has ls 2 [(0, .ref t_h), (1, .int v1)] := hl
  refine fw_Q (P := fun Q => ∃ A : Nat → Prop, va_D A [oX8 t_h t_a t_thrown t_taped t_at t_behind t_size t_kind t_number t_wrong t_wrongAt t_faultKind t_faultPlace t_x t_wayLong t_bothLeast, arI G (t_a 3) 900 t_tape] ∧ va_S A s.heap s.heap [] ∧ (∀ q, s.heap.size ≤ q → A q) ∧ SE ad av A s s.heap ∧ ∀ (v : Int32) (n_t_at : Int32) (n_t_behind : Int32) (n_t_kind : Int32) (n_t_number : Int32) (H : Heap) (locs : List Loc) (pc : Nat) (ls : Array Slot), some (v, n_t_at, n_t_behind, n_t_kind, n_t_number) = some (r, o_t_at, o_t_behind, o_t_kind, o_t_number) → va_P G.1 vwCl [oX8 t_h t_a t_thrown t_taped n_t_at n_t_behind t_size n_t_kind n_t_number t_wrong t_wrongAt t_faultKind t_faultPlace t_x t_wayLong t_bothLeast, arI G (t_a 3) 900 t_tape] H → va_S A s.heap H locs → narrow .boolean (.int v) = .int v → decode cX8_eats pc = .ok (.ireturn, 1) → W p l e ({ frames := 6, cells := 0, slots := 0, locals := 163 } : Room) s m args below meth c H locs 0 0 Q (F0 m pc ls [.int v])) ⟨va_A [oX8 t_h t_a t_thrown t_taped t_at t_behind t_size t_kind t_number t_wrong t_wrongAt t_faultKind t_faultPlace t_x t_wayLong t_bothLeast, arI G (t_a 3) 900 t_tape] s.heap.size, hD0.self (sz := s.heap.size), va_S.rf, fun q h => Or.inr h, hE0, ?_⟩ ?_
  · intro v n_t_at n_t_behind n_t_kind n_t_number H locs pc ls h hP hS hn hd
    cases h
    exact retWZ hx hb hr hlk hS hP hn rfl hd
  rintro Q ⟨A, hD, hS, hA, hE, hRet⟩
  change W p l e ({ frames := 6, cells := 0, slots := 0, locals := 163 } : Room) s m args below meth c _ _ 0 0 Q _
  unfold fX8_eats at hf
  refine lv_aload_n hx hb dX8_eats_0 rfl (lv_at hl 0 rfl) ?_
  refine lv_iload_n hx hb dX8_eats_1 rfl (lv_at hl 1 rfl) ?_
  obtain ⟨r_1, hc_2, hf⟩ := bd1_in hf
  refine rcI (va_runV (As := [.int v1]) (rest := []) ⟨hx, hb, hml, hown, hw⟩ ((ctX8_is l G t_h t_a t_thrown t_taped t_at t_behind t_size t_kind t_number t_wrong t_wrongAt t_faultKind t_faultPlace t_x t_wayLong t_bothLeast v1 _ hc_2) _) (kV hw calX8_is kw_15_7 rfl rfl ⟨Nat.le_of_ble_eq_true rfl, Nat.le_of_ble_eq_true rfl⟩) (rpV (hP.sub (ws' := [oX8 t_h t_a t_thrown t_taped t_at t_behind t_size t_kind t_number t_wrong t_wrongAt t_faultKind t_faultPlace t_x t_wayLong t_bothLeast]) [0] rfl) hK (ci := 8) (q0 := 0) rfl rfl) rfl rfl hl.1 rfl (lv_room (Nat.le_of_ble_eq_true rfl)) dX8_eats_2 ⟨Nat.zero_le _, Nat.zero_le _⟩) hS hA hP (fun H locs hP hS => ?_)
  refine lv_if_ne (tgt := 10) hx hb dX8_eats_5 (by decide) (fun c_3 => ?_) (fun c_3 => ?_)
  · have hf := iq c_3 hf
    refine lv_aload_n hx hb dX8_eats_10 rfl (lv_at hl 0 rfl) ?_
    obtain ⟨t_at_4, t_behind_5, t_kind_6, t_number_7, hc_8, hf⟩ := bd4_in hf
    refine wcV (w1 := [oX8 t_h t_a t_thrown t_taped t_at_4 t_behind_5 t_size t_kind_6 t_number_7 t_wrong t_wrongAt t_faultKind t_faultPlace t_x t_wayLong t_bothLeast, arI G (t_a 3) 900 t_tape]) (va_runV (As := []) (rest := []) ⟨hx, hb, hml, hown, hw⟩ ((ctX8_next l G ad av t_h t_a t_thrown t_tape t_taped t_at t_behind t_size t_kind t_number t_wrong t_wrongAt t_faultKind t_faultPlace t_x t_wayLong t_bothLeast _ _ _ _ hc_8) _) (kV hw calX8_next kw_14_5 rfl rfl ⟨Nat.le_of_ble_eq_true rfl, Nat.le_of_ble_eq_true rfl⟩) (wsPV (hP.sub (ws' := [oX8 t_h t_a t_thrown t_taped t_at t_behind t_size t_kind t_number t_wrong t_wrongAt t_faultKind t_faultPlace t_x t_wayLong t_bothLeast, arI G (t_a 3) 900 t_tape]) [0, 1] rfl) (hD.sub (ws' := [oX8 t_h t_a t_thrown t_taped t_at t_behind t_size t_kind t_number t_wrong t_wrongAt t_faultKind t_faultPlace t_x t_wayLong t_bothLeast, arI G (t_a 3) 900 t_tape]) [0, 1] (by decide) rfl) hE hS (va_free (wc := [oX8 t_h t_a t_thrown t_taped t_at t_behind t_size t_kind t_number t_wrong t_wrongAt t_faultKind t_faultPlace t_x t_wayLong t_bothLeast, arI G (t_a 3) 900 t_tape]) hD hS hA [0, 1] rfl) hK (ci := 8) (q0 := 0) rfl rfl) rfl rfl hl.1 rfl (lv_room (Nat.le_of_ble_eq_true rfl)) dX8_eats_11 ⟨Nat.zero_le _, Nat.zero_le _⟩) hS hA hP hD [0, 1] rfl rfl (fun H locs hP hD hS => ?_)
    have hP : va_P G.1 vwCl [oX8 t_h t_a t_thrown t_taped t_at_4 t_behind_5 t_size t_kind_6 t_number_7 t_wrong t_wrongAt t_faultKind t_faultPlace t_x t_wayLong t_bothLeast, arI G (t_a 3) 900 t_tape] H := hP
    have hD : va_D A [oX8 t_h t_a t_thrown t_taped t_at_4 t_behind_5 t_size t_kind_6 t_number_7 t_wrong t_wrongAt t_faultKind t_faultPlace t_x t_wayLong t_bothLeast, arI G (t_a 3) 900 t_tape] := hD
    refine lv_iconst (v := 1) hx hb dX8_eats_14 (by decide) ?_
    exact hRet _ _ _ _ _ _ _ _ _ hf hP hS (by decide +kernel) dX8_eats_15
  · have hf := ip c_3 hf
    refine lv_iconst (v := 0) hx hb dX8_eats_8 (by decide) ?_
    exact hRet _ _ _ _ _ _ _ _ _ hf hP hS (by decide +kernel) dX8_eats_9
theorem calX8_takes : CalV yX8_takes cX8_takes 4 (some .int) 2 := ⟨⟨kw_15_22, kw_1_5, by decide +kernel⟩, kw_15_20, kw_15_21⟩
set_option maxHeartbeats 8000000 in
set_option maxRecDepth 100000 in
theorem ctX8_takes (l : Launch) (G : GT) (ad : Nat → Nat) (av : Nat → Nat) (t_h : Nat) (t_a : Nat → Nat) (t_thrown : Int32) (t_tape : Nat → Int32) (t_taped : Int32) (t_at : Int32) (t_behind : Int32) (t_size : Int32) (t_kind : Int32) (t_number : Int32) (t_wrong : Int32) (t_wrongAt : Int32) (t_faultKind : Int32) (t_faultPlace : Int32) (t_x : Int32) (t_wayLong : Int32) (t_bothLeast : Int32) (v1 : Int32) (v2 : Int32) (r : Int32) (o_t_at : Int32) (o_t_behind : Int32) (o_t_kind : Int32) (o_t_number : Int32) (o_t_wrong : Int32) (o_t_wrongAt : Int32) (hf : fX8_takes t_tape t_at t_behind t_size t_kind t_number t_wrong t_wrongAt v1 v2 = some (r, o_t_at, o_t_behind, o_t_kind, o_t_number, o_t_wrong, o_t_wrongAt)) : WsI l yX8_takes (Cond.code yX8_takes cX8_takes 4 (some .int)) { frames := 6, cells := 0, slots := 0, locals := 163 } G ad av [.ref t_h, .int v1, .int v2] [oX8 t_h t_a t_thrown t_taped t_at t_behind t_size t_kind t_number t_wrong t_wrongAt t_faultKind t_faultPlace t_x t_wayLong t_bothLeast, arI G (t_a 3) 900 t_tape] [oX8 t_h t_a t_thrown t_taped o_t_at o_t_behind t_size o_t_kind o_t_number o_t_wrong o_t_wrongAt t_faultKind t_faultPlace t_x t_wayLong t_bothLeast, arI G (t_a 3) 900 t_tape] r := by
  intro sz
  refine Met.ofW (cc := cX8_takes) (maxL := 4) (ret := (some .int)) (by decide) rfl ?_
  intro p e s m args below meth c s₁ B hml hv
  obtain ⟨hargs, hsz, hP, hD0, hE0, hK⟩ := hv
  subst hsz
  obtain ⟨hx, hb, hr, hw, hown, hlk⟩ := fwB B
  refine fw_enter hargs (Nat.le_of_ble_eq_true rfl) (fun ls hl => ?_)
  have hl : lv_has ls 4 [(0, .ref t_h), (1, .int v1), (2, .int v2)] := hl
  refine fw_Q (P := fun Q => ∃ A : Nat → Prop, va_D A [oX8 t_h t_a t_thrown t_taped t_at t_behind t_size t_kind t_number t_wrong t_wrongAt t_faultKind t_faultPlace t_x t_wayLong t_bothLeast, arI G (t_a 3) 900 t_tape] ∧ va_S A s.heap s.heap [] ∧ (∀ q, s.heap.size ≤ q → A q) ∧ SE ad av A s s.heap ∧ ∀ (v : Int32) (n_t_at : Int32) (n_t_behind : Int32) (n_t_kind : Int32) (n_t_number : Int32) (n_t_wrong : Int32) (n_t_wrongAt : Int32) (H : Heap) (locs : List Loc) (pc : Nat) (ls : Array Slot), some (v, n_t_at, n_t_behind, n_t_kind, n_t_number, n_t_wrong, n_t_wrongAt) = some (r, o_t_at, o_t_behind, o_t_kind, o_t_number, o_t_wrong, o_t_wrongAt) → va_P G.1 vwCl [oX8 t_h t_a t_thrown t_taped n_t_at n_t_behind t_size n_t_kind n_t_number n_t_wrong n_t_wrongAt t_faultKind t_faultPlace t_x t_wayLong t_bothLeast, arI G (t_a 3) 900 t_tape] H → va_S A s.heap H locs → decode cX8_takes pc = .ok (.ireturn, 1) → W p l e ({ frames := 6, cells := 0, slots := 0, locals := 163 } : Room) s m args below meth c H locs 0 0 Q (F0 m pc ls [.int v])) ⟨va_A [oX8 t_h t_a t_thrown t_taped t_at t_behind t_size t_kind t_number t_wrong t_wrongAt t_faultKind t_faultPlace t_x t_wayLong t_bothLeast, arI G (t_a 3) 900 t_tape] s.heap.size, hD0.self (sz := s.heap.size), va_S.rf, fun q h => Or.inr h, hE0, ?_⟩ ?_
  · intro v n_t_at n_t_behind n_t_kind n_t_number n_t_wrong n_t_wrongAt H locs pc ls h hP hS hd
    cases h
    exact retWI hx hb hr hlk hS hP rfl hd
  rintro Q ⟨A, hD, hS, hA, hE, hRet⟩
  change W p l e ({ frames := 6, cells := 0, slots := 0, locals := 163 } : Room) s m args below meth c _ _ 0 0 Q _
  unfold fX8_takes at hf
  refine lv_aload_n hx hb dX8_takes_0 rfl (lv_at hl 0 rfl) ?_
  refine lv_bipush (v := 8) hx hb dX8_takes_1 (by decide) ?_
  obtain ⟨r_1, hc_2, hf⟩ := bd1_in hf
  refine rcI (va_runV (As := [.int 8]) (rest := []) ⟨hx, hb, hml, hown, hw⟩ ((ctX8_is l G t_h t_a t_thrown t_taped t_at t_behind t_size t_kind t_number t_wrong t_wrongAt t_faultKind t_faultPlace t_x t_wayLong t_bothLeast 8 _ hc_2) _) (kV hw calX8_is kw_15_7 rfl rfl ⟨Nat.le_of_ble_eq_true rfl, Nat.le_of_ble_eq_true rfl⟩) (rpV (hP.sub (ws' := [oX8 t_h t_a t_thrown t_taped t_at t_behind t_size t_kind t_number t_wrong t_wrongAt t_faultKind t_faultPlace t_x t_wayLong t_bothLeast]) [0] rfl) hK (ci := 8) (q0 := 0) rfl rfl) rfl rfl hl.1 rfl (lv_room (Nat.le_of_ble_eq_true rfl)) dX8_takes_3 ⟨Nat.zero_le _, Nat.zero_le _⟩) hS hA hP (fun H locs hP hS => ?_)
  refine jn_el hf (fun k_5 ek_5 hf => ?_)
  have J37 : ∀ (t_wrong_3 : Int32) (t_wrongAt_4 : Int32) (H : Heap) (locs : List Loc) (ls : Array Slot), va_P G.1 vwCl [oX8 t_h t_a t_thrown t_taped t_at t_behind t_size t_kind t_number t_wrong_3 t_wrongAt_4 t_faultKind t_faultPlace t_x t_wayLong t_bothLeast, arI G (t_a 3) 900 t_tape] H → va_D A [oX8 t_h t_a t_thrown t_taped t_at t_behind t_size t_kind t_number t_wrong_3 t_wrongAt_4 t_faultKind t_faultPlace t_x t_wayLong t_bothLeast, arI G (t_a 3) 900 t_tape] → va_S A s.heap H locs → lv_has ls 4 [(0, .ref t_h)] → k_5 t_wrong_3 t_wrongAt_4 = some (r, o_t_at, o_t_behind, o_t_kind, o_t_number, o_t_wrong, o_t_wrongAt) → W p l e ({ frames := 6, cells := 0, slots := 0, locals := 163 } : Room) s m args below meth c H locs 0 0 Q (F0 m 37 ls []) := by
    intro t_wrong_3 t_wrongAt_4 H locs ls hP hD hS hl hf
    rw [ek_5] at hf
    refine lv_aload_n hx hb dX8_takes_37 rfl (lv_at hl 0 rfl) ?_
    refine va_get (D := G.1) (ci := 8) (v := .int t_number) (C := RX8) (T := TX8) (N := 33) hx hb hw inW8 hown hK.1 hP 0 rfl rfl 10 (by decide) (hw _ kw_14_10) (fun _ h9 => h9) rfl dX8_takes_38 ?_
    refine lv_istore_n (lv' := [(3, .int t_number), (0, .ref t_h)]) hx hb dX8_takes_41 rfl hl (by decide) rfl (fun ls hl => ?_)
    refine lv_aload_n hx hb dX8_takes_42 rfl (lv_at hl 1 rfl) ?_
    refine va_get (D := G.1) (ci := 8) (v := .int t_wrong_3) (C := RX8) (T := TX8) (N := 33) hx hb hw inW8 hown hK.1 hP 0 rfl rfl 11 (by decide) (hw _ kw_13_22) (fun _ h9 => h9) rfl dX8_takes_43 ?_
    refine lv_if_ne (tgt := 53) hx hb dX8_takes_46 (by decide) (fun c_6 => ?_) (fun c_6 => ?_)
    · have hf := iq c_6 hf
      refine lv_iload_n hx hb dX8_takes_53 rfl (lv_at hl 0 rfl) ?_
      exact hRet _ _ _ _ _ _ _ _ _ _ _ hf hP hS dX8_takes_54
    · have hf := ip c_6 hf
      refine lv_aload_n hx hb dX8_takes_49 rfl (lv_at hl 1 rfl) ?_
      obtain ⟨t_at_7, t_behind_8, t_kind_9, t_number_10, hc_11, hf⟩ := bd4_in hf
      refine wcV (w1 := [oX8 t_h t_a t_thrown t_taped t_at_7 t_behind_8 t_size t_kind_9 t_number_10 t_wrong_3 t_wrongAt_4 t_faultKind t_faultPlace t_x t_wayLong t_bothLeast, arI G (t_a 3) 900 t_tape]) (va_runV (As := []) (rest := []) ⟨hx, hb, hml, hown, hw⟩ ((ctX8_next l G ad av t_h t_a t_thrown t_tape t_taped t_at t_behind t_size t_kind t_number t_wrong_3 t_wrongAt_4 t_faultKind t_faultPlace t_x t_wayLong t_bothLeast _ _ _ _ hc_11) _) (kV hw calX8_next kw_14_5 rfl rfl ⟨Nat.le_of_ble_eq_true rfl, Nat.le_of_ble_eq_true rfl⟩) (wsPV (hP.sub (ws' := [oX8 t_h t_a t_thrown t_taped t_at t_behind t_size t_kind t_number t_wrong_3 t_wrongAt_4 t_faultKind t_faultPlace t_x t_wayLong t_bothLeast, arI G (t_a 3) 900 t_tape]) [0, 1] rfl) (hD.sub (ws' := [oX8 t_h t_a t_thrown t_taped t_at t_behind t_size t_kind t_number t_wrong_3 t_wrongAt_4 t_faultKind t_faultPlace t_x t_wayLong t_bothLeast, arI G (t_a 3) 900 t_tape]) [0, 1] (by decide) rfl) hE hS (va_free (wc := [oX8 t_h t_a t_thrown t_taped t_at t_behind t_size t_kind t_number t_wrong_3 t_wrongAt_4 t_faultKind t_faultPlace t_x t_wayLong t_bothLeast, arI G (t_a 3) 900 t_tape]) hD hS hA [0, 1] rfl) hK (ci := 8) (q0 := 0) rfl rfl) rfl rfl hl.1 rfl (lv_room (Nat.le_of_ble_eq_true rfl)) dX8_takes_50 ⟨Nat.zero_le _, Nat.zero_le _⟩) hS hA hP hD [0, 1] rfl rfl (fun H locs hP hD hS => ?_)
      have hP : va_P G.1 vwCl [oX8 t_h t_a t_thrown t_taped t_at_7 t_behind_8 t_size t_kind_9 t_number_10 t_wrong_3 t_wrongAt_4 t_faultKind t_faultPlace t_x t_wayLong t_bothLeast, arI G (t_a 3) 900 t_tape] H := hP
      have hD : va_D A [oX8 t_h t_a t_thrown t_taped t_at_7 t_behind_8 t_size t_kind_9 t_number_10 t_wrong_3 t_wrongAt_4 t_faultKind t_faultPlace t_x t_wayLong t_bothLeast, arI G (t_a 3) 900 t_tape] := hD
      refine lv_iload_n hx hb dX8_takes_53 rfl (lv_at hl 0 rfl) ?_
      exact hRet _ _ _ _ _ _ _ _ _ _ _ hf hP hS dX8_takes_54
  refine lv_if_ne (tgt := 17) hx hb dX8_takes_6 (by decide) (fun c_12 => ?_) (fun c_12 => ?_)
  · have hf := iq c_12 hf
    refine lv_aload_n hx hb dX8_takes_17 rfl (lv_at hl 0 rfl) ?_
    refine va_get (D := G.1) (ci := 8) (v := .int t_number) (C := RX8) (T := TX8) (N := 33) hx hb hw inW8 hown hK.1 hP 0 rfl rfl 10 (by decide) (hw _ kw_14_10) (fun _ h9 => h9) rfl dX8_takes_18 ?_
    refine lv_i2l hx hb dX8_takes_21 rfl ?_
    refine lv_iload_n hx hb dX8_takes_22 rfl (lv_at hl 1 rfl) ?_
    refine lv_i2l hx hb dX8_takes_23 rfl ?_
    refine lv_iload_n hx hb dX8_takes_24 rfl (lv_at hl 2 rfl) ?_
    refine lv_i2l hx hb dX8_takes_25 rfl ?_
    obtain ⟨r_13, hc_14, hf⟩ := bd1_in hf
    refine rcI (va_runS (As := [.long (Int32.toInt64 t_number), .long (Int32.toInt64 v1), .long (Int32.toInt64 v2)]) (rest := []) ⟨hx, hb, hml, hown, hw⟩ ((ctX8_within l G (Int32.toInt64 t_number) (Int32.toInt64 v1) (Int32.toInt64 v2) _ hc_14) _) (kS hw calX8_within kw_14_2 rfl rfl ⟨Nat.le_of_ble_eq_true rfl, Nat.le_of_ble_eq_true rfl⟩) (rpS (hP.sub (ws' := []) [] rfl) hK) rfl rfl hl.1 rfl (lv_room (Nat.le_of_ble_eq_true rfl)) dX8_takes_26 ⟨Nat.zero_le _, Nat.zero_le _⟩) hS hA hP (fun H locs hP hS => ?_)
    refine lv_if_ne (tgt := 37) hx hb dX8_takes_29 (by decide) (fun c_15 => ?_) (fun c_15 => ?_)
    · have hf := iq c_15 hf
      exact J37 _ _ _ _ _ hP hD hS (lv_sub hl [0] rfl) hf
    · have hf := ip c_15 hf
      refine lv_aload_n hx hb dX8_takes_32 rfl (lv_at hl 0 rfl) ?_
      refine lv_iconst (v := 3) hx hb dX8_takes_33 (by decide) ?_
      obtain ⟨t_wrong_16, t_wrongAt_17, hc_18, hf⟩ := bd2_in hf
      refine wcV (w1 := [oX8 t_h t_a t_thrown t_taped t_at t_behind t_size t_kind t_number t_wrong_16 t_wrongAt_17 t_faultKind t_faultPlace t_x t_wayLong t_bothLeast]) (va_runV (As := [.int 3]) (rest := []) ⟨hx, hb, hml, hown, hw⟩ ((ctX8_fails l G t_h t_a t_thrown t_taped t_at t_behind t_size t_kind t_number t_wrong t_wrongAt t_faultKind t_faultPlace t_x t_wayLong t_bothLeast 3 _ _ hc_18) _) (kV hw calX8_fails kw_15_15 rfl rfl ⟨Nat.le_of_ble_eq_true rfl, Nat.le_of_ble_eq_true rfl⟩) (wpV (hP.sub (ws' := [oX8 t_h t_a t_thrown t_taped t_at t_behind t_size t_kind t_number t_wrong t_wrongAt t_faultKind t_faultPlace t_x t_wayLong t_bothLeast]) [0] rfl) (hD.sub (ws' := [oX8 t_h t_a t_thrown t_taped t_at t_behind t_size t_kind t_number t_wrong t_wrongAt t_faultKind t_faultPlace t_x t_wayLong t_bothLeast]) [0] (by decide) rfl) hK (ci := 8) (q0 := 0) rfl rfl) rfl rfl hl.1 rfl (lv_room (Nat.le_of_ble_eq_true rfl)) dX8_takes_34 ⟨Nat.zero_le _, Nat.zero_le _⟩) hS hA hP hD [0] rfl rfl (fun H locs hP hD hS => ?_)
      have hP : va_P G.1 vwCl [oX8 t_h t_a t_thrown t_taped t_at t_behind t_size t_kind t_number t_wrong_16 t_wrongAt_17 t_faultKind t_faultPlace t_x t_wayLong t_bothLeast, arI G (t_a 3) 900 t_tape] H := hP
      have hD : va_D A [oX8 t_h t_a t_thrown t_taped t_at t_behind t_size t_kind t_number t_wrong_16 t_wrongAt_17 t_faultKind t_faultPlace t_x t_wayLong t_bothLeast, arI G (t_a 3) 900 t_tape] := hD
      exact J37 _ _ _ _ _ hP hD hS (lv_sub hl [0] rfl) hf
  · have hf := ip c_12 hf
    refine lv_aload_n hx hb dX8_takes_9 rfl (lv_at hl 0 rfl) ?_
    refine lv_iconst (v := 2) hx hb dX8_takes_10 (by decide) ?_
    obtain ⟨t_wrong_19, t_wrongAt_20, hc_21, hf⟩ := bd2_in hf
    refine wcV (w1 := [oX8 t_h t_a t_thrown t_taped t_at t_behind t_size t_kind t_number t_wrong_19 t_wrongAt_20 t_faultKind t_faultPlace t_x t_wayLong t_bothLeast]) (va_runV (As := [.int 2]) (rest := []) ⟨hx, hb, hml, hown, hw⟩ ((ctX8_fails l G t_h t_a t_thrown t_taped t_at t_behind t_size t_kind t_number t_wrong t_wrongAt t_faultKind t_faultPlace t_x t_wayLong t_bothLeast 2 _ _ hc_21) _) (kV hw calX8_fails kw_15_15 rfl rfl ⟨Nat.le_of_ble_eq_true rfl, Nat.le_of_ble_eq_true rfl⟩) (wpV (hP.sub (ws' := [oX8 t_h t_a t_thrown t_taped t_at t_behind t_size t_kind t_number t_wrong t_wrongAt t_faultKind t_faultPlace t_x t_wayLong t_bothLeast]) [0] rfl) (hD.sub (ws' := [oX8 t_h t_a t_thrown t_taped t_at t_behind t_size t_kind t_number t_wrong t_wrongAt t_faultKind t_faultPlace t_x t_wayLong t_bothLeast]) [0] (by decide) rfl) hK (ci := 8) (q0 := 0) rfl rfl) rfl rfl hl.1 rfl (lv_room (Nat.le_of_ble_eq_true rfl)) dX8_takes_11 ⟨Nat.zero_le _, Nat.zero_le _⟩) hS hA hP hD [0] rfl rfl (fun H locs hP hD hS => ?_)
    have hP : va_P G.1 vwCl [oX8 t_h t_a t_thrown t_taped t_at t_behind t_size t_kind t_number t_wrong_19 t_wrongAt_20 t_faultKind t_faultPlace t_x t_wayLong t_bothLeast, arI G (t_a 3) 900 t_tape] H := hP
    have hD : va_D A [oX8 t_h t_a t_thrown t_taped t_at t_behind t_size t_kind t_number t_wrong_19 t_wrongAt_20 t_faultKind t_faultPlace t_x t_wayLong t_bothLeast, arI G (t_a 3) 900 t_tape] := hD
    refine lv_goto (tgt := 37) hx hb dX8_takes_14 (by decide) ?_
    exact J37 _ _ _ _ _ hP hD hS (lv_sub hl [0] rfl) hf
theorem calX8_takesWindow : CalV yX8_takesWindow cX8_takesWindow 1 (some .int) 0 := ⟨⟨kw_16_6, kw_1_5, by decide +kernel⟩, kw_16_4, kw_16_5⟩
set_option maxHeartbeats 8000000 in
set_option maxRecDepth 100000 in
theorem ctX8_takesWindow (l : Launch) (G : GT) (ad : Nat → Nat) (av : Nat → Nat) (t_h : Nat) (t_a : Nat → Nat) (t_thrown : Int32) (t_tape : Nat → Int32) (t_fresh : Nat → Int32) (t_taped : Int32) (t_at : Int32) (t_behind : Int32) (t_size : Int32) (t_kind : Int32) (t_number : Int32) (t_wrong : Int32) (t_wrongAt : Int32) (t_faultKind : Int32) (t_faultPlace : Int32) (t_x : Int32) (t_wayLong : Int32) (t_bothLeast : Int32) (r : Int32) (o_t_at : Int32) (o_t_behind : Int32) (o_t_kind : Int32) (o_t_number : Int32) (o_t_wrong : Int32) (o_t_wrongAt : Int32) (hf : fX8_takesWindow t_tape t_fresh t_at t_behind t_size t_kind t_number t_wrong t_wrongAt = some (r, o_t_at, o_t_behind, o_t_kind, o_t_number, o_t_wrong, o_t_wrongAt)) : WsI l yX8_takesWindow (Cond.code yX8_takesWindow cX8_takesWindow 1 (some .int)) { frames := 7, cells := 0, slots := 0, locals := 186 } G ad av [.ref t_h] [oX8 t_h t_a t_thrown t_taped t_at t_behind t_size t_kind t_number t_wrong t_wrongAt t_faultKind t_faultPlace t_x t_wayLong t_bothLeast, arI G (t_a 3) 900 t_tape, arI G (t_a 4) 186 t_fresh] [oX8 t_h t_a t_thrown t_taped o_t_at o_t_behind t_size o_t_kind o_t_number o_t_wrong o_t_wrongAt t_faultKind t_faultPlace t_x t_wayLong t_bothLeast, arI G (t_a 3) 900 t_tape, arI G (t_a 4) 186 t_fresh] r := by
  intro sz
  refine Met.ofW (cc := cX8_takesWindow) (maxL := 1) (ret := (some .int)) (by decide) rfl ?_
  intro p e s m args below meth c s₁ B hml hv
  obtain ⟨hargs, hsz, hP, hD0, hE0, hK⟩ := hv
  subst hsz
  obtain ⟨hx, hb, hr, hw, hown, hlk⟩ := fwB B
  refine fw_enter hargs (Nat.le_of_ble_eq_true rfl) (fun ls hl => ?_)
  have hl : lv_has ls 1 [(0, .ref t_h)] := hl
  refine fw_Q (P := fun Q => ∃ A : Nat → Prop, va_D A [oX8 t_h t_a t_thrown t_taped t_at t_behind t_size t_kind t_number t_wrong t_wrongAt t_faultKind t_faultPlace t_x t_wayLong t_bothLeast, arI G (t_a 3) 900 t_tape, arI G (t_a 4) 186 t_fresh] ∧ va_S A s.heap s.heap [] ∧ (∀ q, s.heap.size ≤ q → A q) ∧ SE ad av A s s.heap ∧ ∀ (v : Int32) (n_t_at : Int32) (n_t_behind : Int32) (n_t_kind : Int32) (n_t_number : Int32) (n_t_wrong : Int32) (n_t_wrongAt : Int32) (H : Heap) (locs : List Loc) (pc : Nat) (ls : Array Slot), some (v, n_t_at, n_t_behind, n_t_kind, n_t_number, n_t_wrong, n_t_wrongAt) = some (r, o_t_at, o_t_behind, o_t_kind, o_t_number, o_t_wrong, o_t_wrongAt) → va_P G.1 vwCl [oX8 t_h t_a t_thrown t_taped n_t_at n_t_behind t_size n_t_kind n_t_number n_t_wrong n_t_wrongAt t_faultKind t_faultPlace t_x t_wayLong t_bothLeast, arI G (t_a 3) 900 t_tape, arI G (t_a 4) 186 t_fresh] H → va_S A s.heap H locs → decode cX8_takesWindow pc = .ok (.ireturn, 1) → W p l e ({ frames := 7, cells := 0, slots := 0, locals := 186 } : Room) s m args below meth c H locs 0 0 Q (F0 m pc ls [.int v])) ⟨va_A [oX8 t_h t_a t_thrown t_taped t_at t_behind t_size t_kind t_number t_wrong t_wrongAt t_faultKind t_faultPlace t_x t_wayLong t_bothLeast, arI G (t_a 3) 900 t_tape, arI G (t_a 4) 186 t_fresh] s.heap.size, hD0.self (sz := s.heap.size), va_S.rf, fun q h => Or.inr h, hE0, ?_⟩ ?_
  · intro v n_t_at n_t_behind n_t_kind n_t_number n_t_wrong n_t_wrongAt H locs pc ls h hP hS hd
    cases h
    exact retWI hx hb hr hlk hS hP rfl hd
  rintro Q ⟨A, hD, hS, hA, hE, hRet⟩
  change W p l e ({ frames := 7, cells := 0, slots := 0, locals := 186 } : Room) s m args below meth c _ _ 0 0 Q _
  unfold fX8_takesWindow at hf
  refine lv_aload_n hx hb dX8_takesWindow_0 rfl (lv_at hl 0 rfl) ?_
  refine lv_iconst (v := 0) hx hb dX8_takesWindow_1 (by decide) ?_
  refine lv_aload_n hx hb dX8_takesWindow_2 rfl (lv_at hl 0 rfl) ?_
  refine va_get (D := G.1) (ci := 8) (v := .ref (t_a 4)) (C := RX8) (T := TX8) (N := 33) hx hb hw inW8 hown hK.1 hP 0 rfl rfl 4 (by decide) (hw _ kw_5_14) (fun _ h9 => h9) rfl dX8_takesWindow_3 ?_
  refine lv_iconst (v := 0) hx hb dX8_takesWindow_6 (by decide) ?_
  obtain ⟨hi_2, hf⟩ := rdI_in hf
  refine va_iald hx hb hK.1 hP 2 0 rfl rfl hi_2 dX8_takesWindow_7 ?_
  refine lv_topi (fun x_1 ex_1 => ?_)
  have hf := hf x_1 ex_1
  refine lv_iconst (v := 1) hx hb dX8_takesWindow_8 (by decide) ?_
  refine lv_isub hx hb dX8_takesWindow_9 ?_
  obtain ⟨r_9, t_at_3, t_behind_4, t_kind_5, t_number_6, t_wrong_7, t_wrongAt_8, hc_10, hf⟩ := bd7_in hf
  refine wcI (w1 := [oX8 t_h t_a t_thrown t_taped t_at_3 t_behind_4 t_size t_kind_5 t_number_6 t_wrong_7 t_wrongAt_8 t_faultKind t_faultPlace t_x t_wayLong t_bothLeast, arI G (t_a 3) 900 t_tape]) (va_runV (As := [.int 0, .int (x_1 - 1)]) (rest := []) ⟨hx, hb, hml, hown, hw⟩ ((ctX8_takes l G ad av t_h t_a t_thrown t_tape t_taped t_at t_behind t_size t_kind t_number t_wrong t_wrongAt t_faultKind t_faultPlace t_x t_wayLong t_bothLeast 0 (x_1 - 1) _ _ _ _ _ _ _ hc_10) _) (kV hw calX8_takes kw_15_19 rfl rfl ⟨Nat.le_of_ble_eq_true rfl, Nat.le_of_ble_eq_true rfl⟩) (wsPV (hP.sub (ws' := [oX8 t_h t_a t_thrown t_taped t_at t_behind t_size t_kind t_number t_wrong t_wrongAt t_faultKind t_faultPlace t_x t_wayLong t_bothLeast, arI G (t_a 3) 900 t_tape]) [0, 1] rfl) (hD.sub (ws' := [oX8 t_h t_a t_thrown t_taped t_at t_behind t_size t_kind t_number t_wrong t_wrongAt t_faultKind t_faultPlace t_x t_wayLong t_bothLeast, arI G (t_a 3) 900 t_tape]) [0, 1] (by decide) rfl) hE hS (va_free (wc := [oX8 t_h t_a t_thrown t_taped t_at t_behind t_size t_kind t_number t_wrong t_wrongAt t_faultKind t_faultPlace t_x t_wayLong t_bothLeast, arI G (t_a 3) 900 t_tape]) hD hS hA [0, 1] rfl) hK (ci := 8) (q0 := 0) rfl rfl) rfl rfl hl.1 rfl (lv_room (Nat.le_of_ble_eq_true rfl)) dX8_takesWindow_10 ⟨Nat.zero_le _, Nat.zero_le _⟩) hS hA hP hD [0, 1] rfl rfl (fun H locs hP hD hS => ?_)
  have hP : va_P G.1 vwCl [oX8 t_h t_a t_thrown t_taped t_at_3 t_behind_4 t_size t_kind_5 t_number_6 t_wrong_7 t_wrongAt_8 t_faultKind t_faultPlace t_x t_wayLong t_bothLeast, arI G (t_a 3) 900 t_tape, arI G (t_a 4) 186 t_fresh] H := hP
  have hD : va_D A [oX8 t_h t_a t_thrown t_taped t_at_3 t_behind_4 t_size t_kind_5 t_number_6 t_wrong_7 t_wrongAt_8 t_faultKind t_faultPlace t_x t_wayLong t_bothLeast, arI G (t_a 3) 900 t_tape, arI G (t_a 4) 186 t_fresh] := hD
  exact hRet _ _ _ _ _ _ _ _ _ _ _ hf hP hS dX8_takesWindow_13
theorem calX8_readWindows : CalV yX8_readWindows cX8_readWindows 2 none 0 := ⟨⟨kw_15_14, kw_1_5, by decide +kernel⟩, kw_15_12, kw_15_13⟩
set_option maxHeartbeats 8000000 in
set_option maxRecDepth 100000 in
theorem ctX8_readWindows (l : Launch) (G : GT) (ad : Nat → Nat) (av : Nat → Nat) (t_h : Nat) (t_a : Nat → Nat) (t_thrown : Int32) (t_tape : Nat → Int32) (t_fresh : Nat → Int32) (t_taped : Int32) (t_at : Int32) (t_behind : Int32) (t_size : Int32) (t_kind : Int32) (t_number : Int32) (t_wrong : Int32) (t_wrongAt : Int32) (t_faultKind : Int32) (t_faultPlace : Int32) (t_x : Int32) (t_wayLong : Int32) (t_bothLeast : Int32) (o_t_fresh : Nat → Int32) (o_t_at : Int32) (o_t_behind : Int32) (o_t_kind : Int32) (o_t_number : Int32) (o_t_wrong : Int32) (o_t_wrongAt : Int32) (hf : fX8_readWindows t_tape t_fresh t_at t_behind t_size t_kind t_number t_wrong t_wrongAt = some (o_t_fresh, o_t_at, o_t_behind, o_t_kind, o_t_number, o_t_wrong, o_t_wrongAt)) : WsV l yX8_readWindows (Cond.code yX8_readWindows cX8_readWindows 2 none) { frames := 7, cells := 0, slots := 0, locals := 186 } G ad av [.ref t_h] [oX8 t_h t_a t_thrown t_taped t_at t_behind t_size t_kind t_number t_wrong t_wrongAt t_faultKind t_faultPlace t_x t_wayLong t_bothLeast, arI G (t_a 3) 900 t_tape, arI G (t_a 4) 186 t_fresh] [oX8 t_h t_a t_thrown t_taped o_t_at o_t_behind t_size o_t_kind o_t_number o_t_wrong o_t_wrongAt t_faultKind t_faultPlace t_x t_wayLong t_bothLeast, arI G (t_a 3) 900 t_tape, arI G (t_a 4) 186 o_t_fresh] := by
  intro sz
  refine Met.ofW (cc := cX8_readWindows) (maxL := 2) (ret := none) (by decide) rfl ?_
  intro p e s m args below meth c s₁ B hml hv
  obtain ⟨hargs, hsz, hP, hD0, hE0, hK⟩ := hv
  subst hsz
  obtain ⟨hx, hb, hr, hw, hown, hlk⟩ := fwB B
  refine fw_enter hargs (Nat.le_of_ble_eq_true rfl) (fun ls hl => ?_)
  have hl : lv_has ls 2 [(0, .ref t_h)] := hl
  refine fw_Q (P := fun Q => ∃ A : Nat → Prop, va_D A [oX8 t_h t_a t_thrown t_taped t_at t_behind t_size t_kind t_number t_wrong t_wrongAt t_faultKind t_faultPlace t_x t_wayLong t_bothLeast, arI G (t_a 3) 900 t_tape, arI G (t_a 4) 186 t_fresh] ∧ va_S A s.heap s.heap [] ∧ (∀ q, s.heap.size ≤ q → A q) ∧ SE ad av A s s.heap ∧ ∀ (n_t_fresh : Nat → Int32) (n_t_at : Int32) (n_t_behind : Int32) (n_t_kind : Int32) (n_t_number : Int32) (n_t_wrong : Int32) (n_t_wrongAt : Int32) (H : Heap) (locs : List Loc) (pc : Nat) (ls : Array Slot), some (n_t_fresh, n_t_at, n_t_behind, n_t_kind, n_t_number, n_t_wrong, n_t_wrongAt) = some (o_t_fresh, o_t_at, o_t_behind, o_t_kind, o_t_number, o_t_wrong, o_t_wrongAt) → va_P G.1 vwCl [oX8 t_h t_a t_thrown t_taped n_t_at n_t_behind t_size n_t_kind n_t_number n_t_wrong n_t_wrongAt t_faultKind t_faultPlace t_x t_wayLong t_bothLeast, arI G (t_a 3) 900 t_tape, arI G (t_a 4) 186 n_t_fresh] H → va_S A s.heap H locs → decode cX8_readWindows pc = .ok (.return_, 1) → W p l e ({ frames := 7, cells := 0, slots := 0, locals := 186 } : Room) s m args below meth c H locs 0 0 Q (F0 m pc ls [])) ⟨va_A [oX8 t_h t_a t_thrown t_taped t_at t_behind t_size t_kind t_number t_wrong t_wrongAt t_faultKind t_faultPlace t_x t_wayLong t_bothLeast, arI G (t_a 3) 900 t_tape, arI G (t_a 4) 186 t_fresh] s.heap.size, hD0.self (sz := s.heap.size), va_S.rf, fun q h => Or.inr h, hE0, ?_⟩ ?_
  · intro n_t_fresh n_t_at n_t_behind n_t_kind n_t_number n_t_wrong n_t_wrongAt H locs pc ls h hP hS hd
    cases h
    exact retWV hx hb hr hlk hS hP hd
  rintro Q ⟨A, hD, hS, hA, hE, hRet⟩
  change W p l e ({ frames := 7, cells := 0, slots := 0, locals := 186 } : Room) s m args below meth c _ _ 0 0 Q _
  have L41 : ∀ (t_at : Int32) (t_behind : Int32) (t_kind : Int32) (t_number : Int32) (t_wrong : Int32) (t_wrongAt : Int32) (K : (Nat → Int32) → Option ((Nat → Int32) × Int32 × Int32 × Int32 × Int32 × Int32 × Int32)) (n : Nat) (l1 : Int32) (t_fresh : Nat → Int32) (H : Heap) (locs : List Loc) (ls : Array Slot), va_P G.1 vwCl [oX8 t_h t_a t_thrown t_taped t_at t_behind t_size t_kind t_number t_wrong t_wrongAt t_faultKind t_faultPlace t_x t_wayLong t_bothLeast, arI G (t_a 3) 900 t_tape, arI G (t_a 4) 186 t_fresh] H → va_D A [oX8 t_h t_a t_thrown t_taped t_at t_behind t_size t_kind t_number t_wrong t_wrongAt t_faultKind t_faultPlace t_x t_wayLong t_bothLeast, arI G (t_a 3) 900 t_tape, arI G (t_a 4) 186 t_fresh] → va_S A s.heap H locs → lv_has ls 2 [(0, .ref t_h), (1, .int l1)] → fX8_readWindows_41  K n l1 t_fresh = some (o_t_fresh, o_t_at, o_t_behind, o_t_kind, o_t_number, o_t_wrong, o_t_wrongAt) → (∀ (kt_fresh : Nat → Int32) (H : Heap) (locs : List Loc) (ls : Array Slot), va_P G.1 vwCl [oX8 t_h t_a t_thrown t_taped t_at t_behind t_size t_kind t_number t_wrong t_wrongAt t_faultKind t_faultPlace t_x t_wayLong t_bothLeast, arI G (t_a 3) 900 t_tape, arI G (t_a 4) 186 kt_fresh] H → va_D A [oX8 t_h t_a t_thrown t_taped t_at t_behind t_size t_kind t_number t_wrong t_wrongAt t_faultKind t_faultPlace t_x t_wayLong t_bothLeast, arI G (t_a 3) 900 t_tape, arI G (t_a 4) 186 kt_fresh] → va_S A s.heap H locs → lv_has ls 2 [] → K kt_fresh = some (o_t_fresh, o_t_at, o_t_behind, o_t_kind, o_t_number, o_t_wrong, o_t_wrongAt) → W p l e ({ frames := 7, cells := 0, slots := 0, locals := 186 } : Room) s m args below meth c H locs 0 0 Q (F0 m 63 ls [])) → W p l e ({ frames := 7, cells := 0, slots := 0, locals := 186 } : Room) s m args below meth c H locs 0 0 Q (F0 m 41 ls []) := by
    intro t_at t_behind t_kind t_number t_wrong t_wrongAt K n
    induction n with
    | zero => intro l1 t_fresh H locs ls hP hD hS hl hf; rw [fX8_readWindows_41] at hf; cases hf
    | succ n ih =>
      intro l1 t_fresh H locs ls hP hD hS hl hf hX
      rw [fX8_readWindows_41] at hf
      refine lv_iload_n hx hb dX8_readWindows_41 rfl (lv_at hl 1 rfl) ?_
      refine lv_bipush (v := 12) hx hb dX8_readWindows_42 (by decide) ?_
      refine lv_icmp_ge (tgt := 63) hx hb dX8_readWindows_44 (by decide) (fun c_22 => ?_) (fun c_22 => ?_)
      · have hf := ip c_22 hf
        exact hX _ _ _ _ hP hD hS (lv_sub hl [] rfl) hf
      · have hf := iq c_22 hf
        refine lv_aload_n hx hb dX8_readWindows_47 rfl (lv_at hl 0 rfl) ?_
        refine va_get (D := G.1) (ci := 8) (v := .ref (t_a 4)) (C := RX8) (T := TX8) (N := 33) hx hb hw inW8 hown hK.1 hP 0 rfl rfl 4 (by decide) (hw _ kw_5_14) (fun _ h9 => h9) rfl dX8_readWindows_48 ?_
        refine lv_bipush (v := 6) hx hb dX8_readWindows_51 (by decide) ?_
        refine lv_iload_n hx hb dX8_readWindows_53 rfl (lv_at hl 1 rfl) ?_
        refine lv_iadd hx hb dX8_readWindows_54 ?_
        refine lv_iconst (v := 3) hx hb dX8_readWindows_55 (by decide) ?_
        obtain ⟨hi_24, hf⟩ := wrI_in hf
        refine xiast hx hb hK.1 hP hD hS 2 0 rfl rfl hi_24 dX8_readWindows_56 (fun t_fresh_23 H locs et_fresh_23 hP hD hS => ?_)
        have hf := hf t_fresh_23 et_fresh_23
        have hP : va_P G.1 vwCl [oX8 t_h t_a t_thrown t_taped t_at t_behind t_size t_kind t_number t_wrong t_wrongAt t_faultKind t_faultPlace t_x t_wayLong t_bothLeast, arI G (t_a 3) 900 t_tape, arI G (t_a 4) 186 t_fresh_23] H := hP
        have hD : va_D A [oX8 t_h t_a t_thrown t_taped t_at t_behind t_size t_kind t_number t_wrong t_wrongAt t_faultKind t_faultPlace t_x t_wayLong t_bothLeast, arI G (t_a 3) 900 t_tape, arI G (t_a 4) 186 t_fresh_23] := hD
        refine lv_iinc (v := (l1 + 1)) (lv' := [(1, .int (l1 + 1)), (0, .ref t_h)]) hx hb dX8_readWindows_57 hl (k := 1) rfl (by rfl) (by decide) rfl (fun ls hl => ?_)
        refine lv_goto (tgt := 41) hx hb dX8_readWindows_60 (by decide) ?_
        exact ih _ _ _ _ _ hP hD hS (lv_sub hl [1, 0] rfl) hf hX
  unfold fX8_readWindows at hf
  refine lv_aload_n hx hb dX8_readWindows_0 rfl (lv_at hl 0 rfl) ?_
  refine va_get (D := G.1) (ci := 8) (v := .ref (t_a 4)) (C := RX8) (T := TX8) (N := 33) hx hb hw inW8 hown hK.1 hP 0 rfl rfl 4 (by decide) (hw _ kw_5_14) (fun _ h9 => h9) rfl dX8_readWindows_1 ?_
  refine lv_iconst (v := 0) hx hb dX8_readWindows_4 (by decide) ?_
  obtain ⟨hi_2, hf⟩ := rdI_in hf
  refine va_iald hx hb hK.1 hP 2 0 rfl rfl hi_2 dX8_readWindows_5 ?_
  refine lv_topi (fun x_1 ex_1 => ?_)
  have hf := hf x_1 ex_1
  refine jn_el hf (fun k_5 ek_5 hf => ?_)
  have J14 : ∀ (t_wrong_3 : Int32) (t_wrongAt_4 : Int32) (H : Heap) (locs : List Loc) (ls : Array Slot), va_P G.1 vwCl [oX8 t_h t_a t_thrown t_taped t_at t_behind t_size t_kind t_number t_wrong_3 t_wrongAt_4 t_faultKind t_faultPlace t_x t_wayLong t_bothLeast, arI G (t_a 3) 900 t_tape, arI G (t_a 4) 186 t_fresh] H → va_D A [oX8 t_h t_a t_thrown t_taped t_at t_behind t_size t_kind t_number t_wrong_3 t_wrongAt_4 t_faultKind t_faultPlace t_x t_wayLong t_bothLeast, arI G (t_a 3) 900 t_tape, arI G (t_a 4) 186 t_fresh] → va_S A s.heap H locs → lv_has ls 2 [(0, .ref t_h)] → k_5 t_wrong_3 t_wrongAt_4 = some (o_t_fresh, o_t_at, o_t_behind, o_t_kind, o_t_number, o_t_wrong, o_t_wrongAt) → W p l e ({ frames := 7, cells := 0, slots := 0, locals := 186 } : Room) s m args below meth c H locs 0 0 Q (F0 m 14 ls []) := by
    intro t_wrong_3 t_wrongAt_4 H locs ls hP hD hS hl hf
    rw [ek_5] at hf
    refine lv_aload_n hx hb dX8_readWindows_14 rfl (lv_at hl 0 rfl) ?_
    refine va_get (D := G.1) (ci := 8) (v := .int t_wrong_3) (C := RX8) (T := TX8) (N := 33) hx hb hw inW8 hown hK.1 hP 0 rfl rfl 11 (by decide) (hw _ kw_13_22) (fun _ h9 => h9) rfl dX8_readWindows_15 ?_
    refine lv_if_eq (tgt := 22) hx hb dX8_readWindows_18 (by decide) (fun c_6 => ?_) (fun c_6 => ?_)
    · have hf := ip c_6 hf
      refine lv_aload_n hx hb dX8_readWindows_22 rfl (lv_at hl 0 rfl) ?_
      obtain ⟨t_at_7, t_behind_8, t_kind_9, t_number_10, hc_11, hf⟩ := bd4_in hf
      refine wcV (w1 := [oX8 t_h t_a t_thrown t_taped t_at_7 t_behind_8 t_size t_kind_9 t_number_10 t_wrong_3 t_wrongAt_4 t_faultKind t_faultPlace t_x t_wayLong t_bothLeast, arI G (t_a 3) 900 t_tape]) (va_runV (As := []) (rest := []) ⟨hx, hb, hml, hown, hw⟩ ((ctX8_next l G ad av t_h t_a t_thrown t_tape t_taped t_at t_behind t_size t_kind t_number t_wrong_3 t_wrongAt_4 t_faultKind t_faultPlace t_x t_wayLong t_bothLeast _ _ _ _ hc_11) _) (kV hw calX8_next kw_14_5 rfl rfl ⟨Nat.le_of_ble_eq_true rfl, Nat.le_of_ble_eq_true rfl⟩) (wsPV (hP.sub (ws' := [oX8 t_h t_a t_thrown t_taped t_at t_behind t_size t_kind t_number t_wrong_3 t_wrongAt_4 t_faultKind t_faultPlace t_x t_wayLong t_bothLeast, arI G (t_a 3) 900 t_tape]) [0, 1] rfl) (hD.sub (ws' := [oX8 t_h t_a t_thrown t_taped t_at t_behind t_size t_kind t_number t_wrong_3 t_wrongAt_4 t_faultKind t_faultPlace t_x t_wayLong t_bothLeast, arI G (t_a 3) 900 t_tape]) [0, 1] (by decide) rfl) hE hS (va_free (wc := [oX8 t_h t_a t_thrown t_taped t_at t_behind t_size t_kind t_number t_wrong_3 t_wrongAt_4 t_faultKind t_faultPlace t_x t_wayLong t_bothLeast, arI G (t_a 3) 900 t_tape]) hD hS hA [0, 1] rfl) hK (ci := 8) (q0 := 0) rfl rfl) rfl rfl hl.1 rfl (lv_room (Nat.le_of_ble_eq_true rfl)) dX8_readWindows_23 ⟨Nat.zero_le _, Nat.zero_le _⟩) hS hA hP hD [0, 1] rfl rfl (fun H locs hP hD hS => ?_)
      have hP : va_P G.1 vwCl [oX8 t_h t_a t_thrown t_taped t_at_7 t_behind_8 t_size t_kind_9 t_number_10 t_wrong_3 t_wrongAt_4 t_faultKind t_faultPlace t_x t_wayLong t_bothLeast, arI G (t_a 3) 900 t_tape, arI G (t_a 4) 186 t_fresh] H := hP
      have hD : va_D A [oX8 t_h t_a t_thrown t_taped t_at_7 t_behind_8 t_size t_kind_9 t_number_10 t_wrong_3 t_wrongAt_4 t_faultKind t_faultPlace t_x t_wayLong t_bothLeast, arI G (t_a 3) 900 t_tape, arI G (t_a 4) 186 t_fresh] := hD
      refine lv_aload_n hx hb dX8_readWindows_26 rfl (lv_at hl 0 rfl) ?_
      refine va_get (D := G.1) (ci := 8) (v := .ref (t_a 4)) (C := RX8) (T := TX8) (N := 33) hx hb hw inW8 hown hK.1 hP 0 rfl rfl 4 (by decide) (hw _ kw_5_14) (fun _ h9 => h9) rfl dX8_readWindows_27 ?_
      refine lv_iconst (v := 0) hx hb dX8_readWindows_30 (by decide) ?_
      refine lv_aload_n hx hb dX8_readWindows_31 rfl (lv_at hl 0 rfl) ?_
      refine lv_iconst (v := 3) hx hb dX8_readWindows_32 (by decide) ?_
      refine lv_bipush (v := 12) hx hb dX8_readWindows_33 (by decide) ?_
      obtain ⟨r_18, t_at_12, t_behind_13, t_kind_14, t_number_15, t_wrong_16, t_wrongAt_17, hc_19, hf⟩ := bd7_in hf
      refine wcI (w1 := [oX8 t_h t_a t_thrown t_taped t_at_12 t_behind_13 t_size t_kind_14 t_number_15 t_wrong_16 t_wrongAt_17 t_faultKind t_faultPlace t_x t_wayLong t_bothLeast, arI G (t_a 3) 900 t_tape]) (va_runV (As := [.int 3, .int 12]) (rest := [.int 0, .ref (t_a 4)]) ⟨hx, hb, hml, hown, hw⟩ ((ctX8_takes l G ad av t_h t_a t_thrown t_tape t_taped t_at_7 t_behind_8 t_size t_kind_9 t_number_10 t_wrong_3 t_wrongAt_4 t_faultKind t_faultPlace t_x t_wayLong t_bothLeast 3 12 _ _ _ _ _ _ _ hc_19) _) (kV hw calX8_takes kw_15_19 rfl rfl ⟨Nat.le_of_ble_eq_true rfl, Nat.le_of_ble_eq_true rfl⟩) (wsPV (hP.sub (ws' := [oX8 t_h t_a t_thrown t_taped t_at_7 t_behind_8 t_size t_kind_9 t_number_10 t_wrong_3 t_wrongAt_4 t_faultKind t_faultPlace t_x t_wayLong t_bothLeast, arI G (t_a 3) 900 t_tape]) [0, 1] rfl) (hD.sub (ws' := [oX8 t_h t_a t_thrown t_taped t_at_7 t_behind_8 t_size t_kind_9 t_number_10 t_wrong_3 t_wrongAt_4 t_faultKind t_faultPlace t_x t_wayLong t_bothLeast, arI G (t_a 3) 900 t_tape]) [0, 1] (by decide) rfl) hE hS (va_free (wc := [oX8 t_h t_a t_thrown t_taped t_at_7 t_behind_8 t_size t_kind_9 t_number_10 t_wrong_3 t_wrongAt_4 t_faultKind t_faultPlace t_x t_wayLong t_bothLeast, arI G (t_a 3) 900 t_tape]) hD hS hA [0, 1] rfl) hK (ci := 8) (q0 := 0) rfl rfl) rfl rfl hl.1 rfl (lv_room (Nat.le_of_ble_eq_true rfl)) dX8_readWindows_35 ⟨Nat.zero_le _, Nat.zero_le _⟩) hS hA hP hD [0, 1] rfl rfl (fun H locs hP hD hS => ?_)
      have hP : va_P G.1 vwCl [oX8 t_h t_a t_thrown t_taped t_at_12 t_behind_13 t_size t_kind_14 t_number_15 t_wrong_16 t_wrongAt_17 t_faultKind t_faultPlace t_x t_wayLong t_bothLeast, arI G (t_a 3) 900 t_tape, arI G (t_a 4) 186 t_fresh] H := hP
      have hD : va_D A [oX8 t_h t_a t_thrown t_taped t_at_12 t_behind_13 t_size t_kind_14 t_number_15 t_wrong_16 t_wrongAt_17 t_faultKind t_faultPlace t_x t_wayLong t_bothLeast, arI G (t_a 3) 900 t_tape, arI G (t_a 4) 186 t_fresh] := hD
      obtain ⟨hi_21, hf⟩ := wrI_in hf
      refine xiast hx hb hK.1 hP hD hS 2 0 rfl rfl hi_21 dX8_readWindows_38 (fun t_fresh_20 H locs et_fresh_20 hP hD hS => ?_)
      have hf := hf t_fresh_20 et_fresh_20
      have hP : va_P G.1 vwCl [oX8 t_h t_a t_thrown t_taped t_at_12 t_behind_13 t_size t_kind_14 t_number_15 t_wrong_16 t_wrongAt_17 t_faultKind t_faultPlace t_x t_wayLong t_bothLeast, arI G (t_a 3) 900 t_tape, arI G (t_a 4) 186 t_fresh_20] H := hP
      have hD : va_D A [oX8 t_h t_a t_thrown t_taped t_at_12 t_behind_13 t_size t_kind_14 t_number_15 t_wrong_16 t_wrongAt_17 t_faultKind t_faultPlace t_x t_wayLong t_bothLeast, arI G (t_a 3) 900 t_tape, arI G (t_a 4) 186 t_fresh_20] := hD
      refine lv_iconst (v := 0) hx hb dX8_readWindows_39 (by decide) ?_
      refine lv_istore_n (lv' := [(1, .int 0), (0, .ref t_h)]) hx hb dX8_readWindows_40 rfl hl (by decide) rfl (fun ls hl => ?_)
      refine L41 _ _ _ _ _ _ _ _ _ _ _ _ _ hP hD hS (lv_sub hl [1, 0] rfl) hf (fun t_fresh_25 H locs ls hP hD hS hl hf => ?_)
      exact hRet _ _ _ _ _ _ _ _ _ _ _ hf hP hS dX8_readWindows_63
    · have hf := iq c_6 hf
      exact hRet _ _ _ _ _ _ _ _ _ _ _ hf hP hS dX8_readWindows_21
  refine lv_if_le (tgt := 14) hx hb dX8_readWindows_6 (by decide) (fun c_26 => ?_) (fun c_26 => ?_)
  · have hf := ip c_26 hf
    exact J14 _ _ _ _ _ hP hD hS (lv_sub hl [0] rfl) hf
  · have hf := iq c_26 hf
    refine lv_aload_n hx hb dX8_readWindows_9 rfl (lv_at hl 0 rfl) ?_
    refine lv_iconst (v := 4) hx hb dX8_readWindows_10 (by decide) ?_
    obtain ⟨t_wrong_27, t_wrongAt_28, hc_29, hf⟩ := bd2_in hf
    refine wcV (w1 := [oX8 t_h t_a t_thrown t_taped t_at t_behind t_size t_kind t_number t_wrong_27 t_wrongAt_28 t_faultKind t_faultPlace t_x t_wayLong t_bothLeast]) (va_runV (As := [.int 4]) (rest := []) ⟨hx, hb, hml, hown, hw⟩ ((ctX8_fails l G t_h t_a t_thrown t_taped t_at t_behind t_size t_kind t_number t_wrong t_wrongAt t_faultKind t_faultPlace t_x t_wayLong t_bothLeast 4 _ _ hc_29) _) (kV hw calX8_fails kw_15_15 rfl rfl ⟨Nat.le_of_ble_eq_true rfl, Nat.le_of_ble_eq_true rfl⟩) (wpV (hP.sub (ws' := [oX8 t_h t_a t_thrown t_taped t_at t_behind t_size t_kind t_number t_wrong t_wrongAt t_faultKind t_faultPlace t_x t_wayLong t_bothLeast]) [0] rfl) (hD.sub (ws' := [oX8 t_h t_a t_thrown t_taped t_at t_behind t_size t_kind t_number t_wrong t_wrongAt t_faultKind t_faultPlace t_x t_wayLong t_bothLeast]) [0] (by decide) rfl) hK (ci := 8) (q0 := 0) rfl rfl) rfl rfl hl.1 rfl (lv_room (Nat.le_of_ble_eq_true rfl)) dX8_readWindows_11 ⟨Nat.zero_le _, Nat.zero_le _⟩) hS hA hP hD [0] rfl rfl (fun H locs hP hD hS => ?_)
    have hP : va_P G.1 vwCl [oX8 t_h t_a t_thrown t_taped t_at t_behind t_size t_kind t_number t_wrong_27 t_wrongAt_28 t_faultKind t_faultPlace t_x t_wayLong t_bothLeast, arI G (t_a 3) 900 t_tape, arI G (t_a 4) 186 t_fresh] H := hP
    have hD : va_D A [oX8 t_h t_a t_thrown t_taped t_at t_behind t_size t_kind t_number t_wrong_27 t_wrongAt_28 t_faultKind t_faultPlace t_x t_wayLong t_bothLeast, arI G (t_a 3) 900 t_tape, arI G (t_a 4) 186 t_fresh] := hD
    exact J14 _ _ _ _ _ hP hD hS (lv_sub hl [0] rfl) hf
theorem calX8_readWash : CalV yX8_readWash cX8_readWash 6 none 0 := ⟨⟨kw_16_2, kw_1_5, by decide +kernel⟩, kw_16_0, kw_16_1⟩
set_option maxHeartbeats 8000000 in
set_option maxRecDepth 100000 in
theorem ctX8_readWash (l : Launch) (G : GT) (ad : Nat → Nat) (av : Nat → Nat) (t_h : Nat) (t_a : Nat → Nat) (t_thrown : Int32) (t_tape : Nat → Int32) (t_fresh : Nat → Int32) (t_taped : Int32) (t_at : Int32) (t_behind : Int32) (t_size : Int32) (t_kind : Int32) (t_number : Int32) (t_wrong : Int32) (t_wrongAt : Int32) (t_faultKind : Int32) (t_faultPlace : Int32) (t_x : Int32) (t_wayLong : Int32) (t_bothLeast : Int32) (o_t_fresh : Nat → Int32) (o_t_at : Int32) (o_t_behind : Int32) (o_t_kind : Int32) (o_t_number : Int32) (o_t_wrong : Int32) (o_t_wrongAt : Int32) (hf : fX8_readWash t_tape t_fresh t_at t_behind t_size t_kind t_number t_wrong t_wrongAt = some (o_t_fresh, o_t_at, o_t_behind, o_t_kind, o_t_number, o_t_wrong, o_t_wrongAt)) : WsV l yX8_readWash (Cond.code yX8_readWash cX8_readWash 6 none) { frames := 8, cells := 0, slots := 0, locals := 206 } G ad av [.ref t_h] [oX8 t_h t_a t_thrown t_taped t_at t_behind t_size t_kind t_number t_wrong t_wrongAt t_faultKind t_faultPlace t_x t_wayLong t_bothLeast, arI G (t_a 3) 900 t_tape, arI G (t_a 4) 186 t_fresh] [oX8 t_h t_a t_thrown t_taped o_t_at o_t_behind t_size o_t_kind o_t_number o_t_wrong o_t_wrongAt t_faultKind t_faultPlace t_x t_wayLong t_bothLeast, arI G (t_a 3) 900 t_tape, arI G (t_a 4) 186 o_t_fresh] := by
  intro sz
  refine Met.ofW (cc := cX8_readWash) (maxL := 6) (ret := none) (by decide) rfl ?_
  intro p e s m args below meth c s₁ B hml hv
  obtain ⟨hargs, hsz, hP, hD0, hE0, hK⟩ := hv
  subst hsz
  obtain ⟨hx, hb, hr, hw, hown, hlk⟩ := fwB B
  refine fw_enter hargs (Nat.le_of_ble_eq_true rfl) (fun ls hl => ?_)
  have hl : lv_has ls 6 [(0, .ref t_h)] := hl
  refine fw_Q (P := fun Q => ∃ A : Nat → Prop, va_D A [oX8 t_h t_a t_thrown t_taped t_at t_behind t_size t_kind t_number t_wrong t_wrongAt t_faultKind t_faultPlace t_x t_wayLong t_bothLeast, arI G (t_a 3) 900 t_tape, arI G (t_a 4) 186 t_fresh] ∧ va_S A s.heap s.heap [] ∧ (∀ q, s.heap.size ≤ q → A q) ∧ SE ad av A s s.heap ∧ ∀ (n_t_fresh : Nat → Int32) (n_t_at : Int32) (n_t_behind : Int32) (n_t_kind : Int32) (n_t_number : Int32) (n_t_wrong : Int32) (n_t_wrongAt : Int32) (H : Heap) (locs : List Loc) (pc : Nat) (ls : Array Slot), some (n_t_fresh, n_t_at, n_t_behind, n_t_kind, n_t_number, n_t_wrong, n_t_wrongAt) = some (o_t_fresh, o_t_at, o_t_behind, o_t_kind, o_t_number, o_t_wrong, o_t_wrongAt) → va_P G.1 vwCl [oX8 t_h t_a t_thrown t_taped n_t_at n_t_behind t_size n_t_kind n_t_number n_t_wrong n_t_wrongAt t_faultKind t_faultPlace t_x t_wayLong t_bothLeast, arI G (t_a 3) 900 t_tape, arI G (t_a 4) 186 n_t_fresh] H → va_S A s.heap H locs → decode cX8_readWash pc = .ok (.return_, 1) → W p l e ({ frames := 8, cells := 0, slots := 0, locals := 206 } : Room) s m args below meth c H locs 0 0 Q (F0 m pc ls [])) ⟨va_A [oX8 t_h t_a t_thrown t_taped t_at t_behind t_size t_kind t_number t_wrong t_wrongAt t_faultKind t_faultPlace t_x t_wayLong t_bothLeast, arI G (t_a 3) 900 t_tape, arI G (t_a 4) 186 t_fresh] s.heap.size, hD0.self (sz := s.heap.size), va_S.rf, fun q h => Or.inr h, hE0, ?_⟩ ?_
  · intro n_t_fresh n_t_at n_t_behind n_t_kind n_t_number n_t_wrong n_t_wrongAt H locs pc ls h hP hS hd
    cases h
    exact retWV hx hb hr hlk hS hP hd
  rintro Q ⟨A, hD, hS, hA, hE, hRet⟩
  change W p l e ({ frames := 8, cells := 0, slots := 0, locals := 206 } : Room) s m args below meth c _ _ 0 0 Q _
  unfold fX8_readWash at hf
  refine lv_aload_n hx hb dX8_readWash_0 rfl (lv_at hl 0 rfl) ?_
  refine va_get (D := G.1) (ci := 8) (v := .ref (t_a 4)) (C := RX8) (T := TX8) (N := 33) hx hb hw inW8 hown hK.1 hP 0 rfl rfl 4 (by decide) (hw _ kw_5_14) (fun _ h9 => h9) rfl dX8_readWash_1 ?_
  refine lv_iconst (v := 4) hx hb dX8_readWash_4 (by decide) ?_
  obtain ⟨hi_2, hf⟩ := rdI_in hf
  refine va_iald hx hb hK.1 hP 2 0 rfl rfl hi_2 dX8_readWash_5 ?_
  refine lv_topi (fun x_1 ex_1 => ?_)
  have hf := hf x_1 ex_1
  refine lv_istore_n (lv' := [(1, .int x_1), (0, .ref t_h)]) hx hb dX8_readWash_6 rfl hl (by decide) rfl (fun ls hl => ?_)
  refine lv_iload_n hx hb dX8_readWash_7 rfl (lv_at hl 0 rfl) ?_
  refine lv_bipush (v := 8) hx hb dX8_readWash_8 (by decide) ?_
  refine jn_el hf (fun k_5 ek_5 hf => ?_)
  have J18 : ∀ (t_wrong_3 : Int32) (t_wrongAt_4 : Int32) (H : Heap) (locs : List Loc) (ls : Array Slot), va_P G.1 vwCl [oX8 t_h t_a t_thrown t_taped t_at t_behind t_size t_kind t_number t_wrong_3 t_wrongAt_4 t_faultKind t_faultPlace t_x t_wayLong t_bothLeast, arI G (t_a 3) 900 t_tape, arI G (t_a 4) 186 t_fresh] H → va_D A [oX8 t_h t_a t_thrown t_taped t_at t_behind t_size t_kind t_number t_wrong_3 t_wrongAt_4 t_faultKind t_faultPlace t_x t_wayLong t_bothLeast, arI G (t_a 3) 900 t_tape, arI G (t_a 4) 186 t_fresh] → va_S A s.heap H locs → lv_has ls 6 [(0, .ref t_h), (1, .int x_1)] → k_5 t_wrong_3 t_wrongAt_4 = some (o_t_fresh, o_t_at, o_t_behind, o_t_kind, o_t_number, o_t_wrong, o_t_wrongAt) → W p l e ({ frames := 8, cells := 0, slots := 0, locals := 206 } : Room) s m args below meth c H locs 0 0 Q (F0 m 18 ls []) := by
    intro t_wrong_3 t_wrongAt_4 H locs ls hP hD hS hl hf
    rw [ek_5] at hf
    refine lv_aload_n hx hb dX8_readWash_18 rfl (lv_at hl 0 rfl) ?_
    refine va_get (D := G.1) (ci := 8) (v := .int t_wrong_3) (C := RX8) (T := TX8) (N := 33) hx hb hw inW8 hown hK.1 hP 0 rfl rfl 11 (by decide) (hw _ kw_13_22) (fun _ h9 => h9) rfl dX8_readWash_19 ?_
    refine lv_if_eq (tgt := 26) hx hb dX8_readWash_22 (by decide) (fun c_6 => ?_) (fun c_6 => ?_)
    · have hf := ip c_6 hf
      refine lv_aload_n hx hb dX8_readWash_26 rfl (lv_at hl 0 rfl) ?_
      obtain ⟨t_at_7, t_behind_8, t_kind_9, t_number_10, hc_11, hf⟩ := bd4_in hf
      refine wcV (w1 := [oX8 t_h t_a t_thrown t_taped t_at_7 t_behind_8 t_size t_kind_9 t_number_10 t_wrong_3 t_wrongAt_4 t_faultKind t_faultPlace t_x t_wayLong t_bothLeast, arI G (t_a 3) 900 t_tape]) (va_runV (As := []) (rest := []) ⟨hx, hb, hml, hown, hw⟩ ((ctX8_next l G ad av t_h t_a t_thrown t_tape t_taped t_at t_behind t_size t_kind t_number t_wrong_3 t_wrongAt_4 t_faultKind t_faultPlace t_x t_wayLong t_bothLeast _ _ _ _ hc_11) _) (kV hw calX8_next kw_14_5 rfl rfl ⟨Nat.le_of_ble_eq_true rfl, Nat.le_of_ble_eq_true rfl⟩) (wsPV (hP.sub (ws' := [oX8 t_h t_a t_thrown t_taped t_at t_behind t_size t_kind t_number t_wrong_3 t_wrongAt_4 t_faultKind t_faultPlace t_x t_wayLong t_bothLeast, arI G (t_a 3) 900 t_tape]) [0, 1] rfl) (hD.sub (ws' := [oX8 t_h t_a t_thrown t_taped t_at t_behind t_size t_kind t_number t_wrong_3 t_wrongAt_4 t_faultKind t_faultPlace t_x t_wayLong t_bothLeast, arI G (t_a 3) 900 t_tape]) [0, 1] (by decide) rfl) hE hS (va_free (wc := [oX8 t_h t_a t_thrown t_taped t_at t_behind t_size t_kind t_number t_wrong_3 t_wrongAt_4 t_faultKind t_faultPlace t_x t_wayLong t_bothLeast, arI G (t_a 3) 900 t_tape]) hD hS hA [0, 1] rfl) hK (ci := 8) (q0 := 0) rfl rfl) rfl rfl hl.1 rfl (lv_room (Nat.le_of_ble_eq_true rfl)) dX8_readWash_27 ⟨Nat.zero_le _, Nat.zero_le _⟩) hS hA hP hD [0, 1] rfl rfl (fun H locs hP hD hS => ?_)
      have hP : va_P G.1 vwCl [oX8 t_h t_a t_thrown t_taped t_at_7 t_behind_8 t_size t_kind_9 t_number_10 t_wrong_3 t_wrongAt_4 t_faultKind t_faultPlace t_x t_wayLong t_bothLeast, arI G (t_a 3) 900 t_tape, arI G (t_a 4) 186 t_fresh] H := hP
      have hD : va_D A [oX8 t_h t_a t_thrown t_taped t_at_7 t_behind_8 t_size t_kind_9 t_number_10 t_wrong_3 t_wrongAt_4 t_faultKind t_faultPlace t_x t_wayLong t_bothLeast, arI G (t_a 3) 900 t_tape, arI G (t_a 4) 186 t_fresh] := hD
      refine lv_aload_n hx hb dX8_readWash_30 rfl (lv_at hl 0 rfl) ?_
      obtain ⟨r_18, t_at_12, t_behind_13, t_kind_14, t_number_15, t_wrong_16, t_wrongAt_17, hc_19, hf⟩ := bd7_in hf
      refine wcI (w1 := [oX8 t_h t_a t_thrown t_taped t_at_12 t_behind_13 t_size t_kind_14 t_number_15 t_wrong_16 t_wrongAt_17 t_faultKind t_faultPlace t_x t_wayLong t_bothLeast, arI G (t_a 3) 900 t_tape, arI G (t_a 4) 186 t_fresh]) (va_runV (As := []) (rest := []) ⟨hx, hb, hml, hown, hw⟩ ((ctX8_takesWindow l G ad av t_h t_a t_thrown t_tape t_fresh t_taped t_at_7 t_behind_8 t_size t_kind_9 t_number_10 t_wrong_3 t_wrongAt_4 t_faultKind t_faultPlace t_x t_wayLong t_bothLeast _ _ _ _ _ _ _ hc_19) _) (kV hw calX8_takesWindow kw_16_3 rfl rfl ⟨Nat.le_of_ble_eq_true rfl, Nat.le_of_ble_eq_true rfl⟩) (wsPV (hP.sub (ws' := [oX8 t_h t_a t_thrown t_taped t_at_7 t_behind_8 t_size t_kind_9 t_number_10 t_wrong_3 t_wrongAt_4 t_faultKind t_faultPlace t_x t_wayLong t_bothLeast, arI G (t_a 3) 900 t_tape, arI G (t_a 4) 186 t_fresh]) [0, 1, 2] rfl) (hD.sub (ws' := [oX8 t_h t_a t_thrown t_taped t_at_7 t_behind_8 t_size t_kind_9 t_number_10 t_wrong_3 t_wrongAt_4 t_faultKind t_faultPlace t_x t_wayLong t_bothLeast, arI G (t_a 3) 900 t_tape, arI G (t_a 4) 186 t_fresh]) [0, 1, 2] (by decide) rfl) hE hS (va_free (wc := [oX8 t_h t_a t_thrown t_taped t_at_7 t_behind_8 t_size t_kind_9 t_number_10 t_wrong_3 t_wrongAt_4 t_faultKind t_faultPlace t_x t_wayLong t_bothLeast, arI G (t_a 3) 900 t_tape, arI G (t_a 4) 186 t_fresh]) hD hS hA [0, 1, 2] rfl) hK (ci := 8) (q0 := 0) rfl rfl) rfl rfl hl.1 rfl (lv_room (Nat.le_of_ble_eq_true rfl)) dX8_readWash_31 ⟨Nat.zero_le _, Nat.zero_le _⟩) hS hA hP hD [0, 1, 2] rfl rfl (fun H locs hP hD hS => ?_)
      have hP : va_P G.1 vwCl [oX8 t_h t_a t_thrown t_taped t_at_12 t_behind_13 t_size t_kind_14 t_number_15 t_wrong_16 t_wrongAt_17 t_faultKind t_faultPlace t_x t_wayLong t_bothLeast, arI G (t_a 3) 900 t_tape, arI G (t_a 4) 186 t_fresh] H := hP
      have hD : va_D A [oX8 t_h t_a t_thrown t_taped t_at_12 t_behind_13 t_size t_kind_14 t_number_15 t_wrong_16 t_wrongAt_17 t_faultKind t_faultPlace t_x t_wayLong t_bothLeast, arI G (t_a 3) 900 t_tape, arI G (t_a 4) 186 t_fresh] := hD
      refine lv_istore_n (lv' := [(2, .int r_18), (0, .ref t_h), (1, .int x_1)]) hx hb dX8_readWash_34 rfl hl (by decide) rfl (fun ls hl => ?_)
      refine lv_iload_n hx hb dX8_readWash_35 rfl (lv_at hl 0 rfl) ?_
      refine lv_aload_n hx hb dX8_readWash_36 rfl (lv_at hl 1 rfl) ?_
      refine va_get (D := G.1) (ci := 8) (v := .int t_number_15) (C := RX8) (T := TX8) (N := 33) hx hb hw inW8 hown hK.1 hP 0 rfl rfl 10 (by decide) (hw _ kw_14_10) (fun _ h9 => h9) rfl dX8_readWash_37 ?_
      obtain ⟨r_20, hc_21, hf⟩ := bd1_in hf
      refine rcI (va_runS (As := [.int r_18, .int t_number_15]) (rest := []) ⟨hx, hb, hml, hown, hw⟩ ((ctX8_stepsOf l G r_18 t_number_15 _ hc_21) _) (kS hw calX8_stepsOf kw_16_7 rfl rfl ⟨Nat.le_of_ble_eq_true rfl, Nat.le_of_ble_eq_true rfl⟩) (rpS (hP.sub (ws' := []) [] rfl) hK) rfl rfl hl.1 rfl (lv_room (Nat.le_of_ble_eq_true rfl)) dX8_readWash_40 ⟨Nat.zero_le _, Nat.zero_le _⟩) hS hA hP (fun H locs hP hS => ?_)
      refine lv_istore_n (lv' := [(3, .int r_20), (2, .int r_18), (0, .ref t_h), (1, .int x_1)]) hx hb dX8_readWash_43 rfl hl (by decide) rfl (fun ls hl => ?_)
      refine lv_aload_n hx hb dX8_readWash_44 rfl (lv_at hl 2 rfl) ?_
      refine lv_bipush (v := 8) hx hb dX8_readWash_45 (by decide) ?_
      obtain ⟨r_22, hc_23, hf⟩ := bd1_in hf
      refine rcI (va_runV (As := [.int 8]) (rest := []) ⟨hx, hb, hml, hown, hw⟩ ((ctX8_is l G t_h t_a t_thrown t_taped t_at_12 t_behind_13 t_size t_kind_14 t_number_15 t_wrong_16 t_wrongAt_17 t_faultKind t_faultPlace t_x t_wayLong t_bothLeast 8 _ hc_23) _) (kV hw calX8_is kw_15_7 rfl rfl ⟨Nat.le_of_ble_eq_true rfl, Nat.le_of_ble_eq_true rfl⟩) (rpV (hP.sub (ws' := [oX8 t_h t_a t_thrown t_taped t_at_12 t_behind_13 t_size t_kind_14 t_number_15 t_wrong_16 t_wrongAt_17 t_faultKind t_faultPlace t_x t_wayLong t_bothLeast]) [0] rfl) hK (ci := 8) (q0 := 0) rfl rfl) rfl rfl hl.1 rfl (lv_room (Nat.le_of_ble_eq_true rfl)) dX8_readWash_47 ⟨Nat.zero_le _, Nat.zero_le _⟩) hS hA hP (fun H locs hP hS => ?_)
      refine jn_el hf (fun k_26 ek_26 hf => ?_)
      have J88 : ∀ (t_wrong_24 : Int32) (t_wrongAt_25 : Int32) (H : Heap) (locs : List Loc) (ls : Array Slot), va_P G.1 vwCl [oX8 t_h t_a t_thrown t_taped t_at_12 t_behind_13 t_size t_kind_14 t_number_15 t_wrong_24 t_wrongAt_25 t_faultKind t_faultPlace t_x t_wayLong t_bothLeast, arI G (t_a 3) 900 t_tape, arI G (t_a 4) 186 t_fresh] H → va_D A [oX8 t_h t_a t_thrown t_taped t_at_12 t_behind_13 t_size t_kind_14 t_number_15 t_wrong_24 t_wrongAt_25 t_faultKind t_faultPlace t_x t_wayLong t_bothLeast, arI G (t_a 3) 900 t_tape, arI G (t_a 4) 186 t_fresh] → va_S A s.heap H locs → lv_has ls 6 [(0, .ref t_h), (1, .int x_1), (2, .int r_18)] → k_26 t_wrong_24 t_wrongAt_25 = some (o_t_fresh, o_t_at, o_t_behind, o_t_kind, o_t_number, o_t_wrong, o_t_wrongAt) → W p l e ({ frames := 8, cells := 0, slots := 0, locals := 206 } : Room) s m args below meth c H locs 0 0 Q (F0 m 88 ls []) := by
        intro t_wrong_24 t_wrongAt_25 H locs ls hP hD hS hl hf
        rw [ek_26] at hf
        refine lv_aload_n hx hb dX8_readWash_88 rfl (lv_at hl 0 rfl) ?_
        obtain ⟨r_33, t_at_27, t_behind_28, t_kind_29, t_number_30, t_wrong_31, t_wrongAt_32, hc_34, hf⟩ := bd7_in hf
        refine wcI (w1 := [oX8 t_h t_a t_thrown t_taped t_at_27 t_behind_28 t_size t_kind_29 t_number_30 t_wrong_31 t_wrongAt_32 t_faultKind t_faultPlace t_x t_wayLong t_bothLeast, arI G (t_a 3) 900 t_tape, arI G (t_a 4) 186 t_fresh]) (va_runV (As := []) (rest := []) ⟨hx, hb, hml, hown, hw⟩ ((ctX8_takesWindow l G ad av t_h t_a t_thrown t_tape t_fresh t_taped t_at_12 t_behind_13 t_size t_kind_14 t_number_15 t_wrong_24 t_wrongAt_25 t_faultKind t_faultPlace t_x t_wayLong t_bothLeast _ _ _ _ _ _ _ hc_34) _) (kV hw calX8_takesWindow kw_16_3 rfl rfl ⟨Nat.le_of_ble_eq_true rfl, Nat.le_of_ble_eq_true rfl⟩) (wsPV (hP.sub (ws' := [oX8 t_h t_a t_thrown t_taped t_at_12 t_behind_13 t_size t_kind_14 t_number_15 t_wrong_24 t_wrongAt_25 t_faultKind t_faultPlace t_x t_wayLong t_bothLeast, arI G (t_a 3) 900 t_tape, arI G (t_a 4) 186 t_fresh]) [0, 1, 2] rfl) (hD.sub (ws' := [oX8 t_h t_a t_thrown t_taped t_at_12 t_behind_13 t_size t_kind_14 t_number_15 t_wrong_24 t_wrongAt_25 t_faultKind t_faultPlace t_x t_wayLong t_bothLeast, arI G (t_a 3) 900 t_tape, arI G (t_a 4) 186 t_fresh]) [0, 1, 2] (by decide) rfl) hE hS (va_free (wc := [oX8 t_h t_a t_thrown t_taped t_at_12 t_behind_13 t_size t_kind_14 t_number_15 t_wrong_24 t_wrongAt_25 t_faultKind t_faultPlace t_x t_wayLong t_bothLeast, arI G (t_a 3) 900 t_tape, arI G (t_a 4) 186 t_fresh]) hD hS hA [0, 1, 2] rfl) hK (ci := 8) (q0 := 0) rfl rfl) rfl rfl hl.1 rfl (lv_room (Nat.le_of_ble_eq_true rfl)) dX8_readWash_89 ⟨Nat.zero_le _, Nat.zero_le _⟩) hS hA hP hD [0, 1, 2] rfl rfl (fun H locs hP hD hS => ?_)
        have hP : va_P G.1 vwCl [oX8 t_h t_a t_thrown t_taped t_at_27 t_behind_28 t_size t_kind_29 t_number_30 t_wrong_31 t_wrongAt_32 t_faultKind t_faultPlace t_x t_wayLong t_bothLeast, arI G (t_a 3) 900 t_tape, arI G (t_a 4) 186 t_fresh] H := hP
        have hD : va_D A [oX8 t_h t_a t_thrown t_taped t_at_27 t_behind_28 t_size t_kind_29 t_number_30 t_wrong_31 t_wrongAt_32 t_faultKind t_faultPlace t_x t_wayLong t_bothLeast, arI G (t_a 3) 900 t_tape, arI G (t_a 4) 186 t_fresh] := hD
        refine lv_istore (lv' := [(4, .int r_33), (0, .ref t_h), (1, .int x_1), (2, .int r_18)]) hx hb dX8_readWash_92 hl (by decide) rfl (fun ls hl => ?_)
        refine lv_aload_n hx hb dX8_readWash_94 rfl (lv_at hl 1 rfl) ?_
        refine lv_iconst (v := 0) hx hb dX8_readWash_95 (by decide) ?_
        refine lv_sipush (v := 4095) hx hb dX8_readWash_96 (by decide) ?_
        obtain ⟨r_41, t_at_35, t_behind_36, t_kind_37, t_number_38, t_wrong_39, t_wrongAt_40, hc_42, hf⟩ := bd7_in hf
        refine wcI (w1 := [oX8 t_h t_a t_thrown t_taped t_at_35 t_behind_36 t_size t_kind_37 t_number_38 t_wrong_39 t_wrongAt_40 t_faultKind t_faultPlace t_x t_wayLong t_bothLeast, arI G (t_a 3) 900 t_tape]) (va_runV (As := [.int 0, .int 4095]) (rest := []) ⟨hx, hb, hml, hown, hw⟩ ((ctX8_takes l G ad av t_h t_a t_thrown t_tape t_taped t_at_27 t_behind_28 t_size t_kind_29 t_number_30 t_wrong_31 t_wrongAt_32 t_faultKind t_faultPlace t_x t_wayLong t_bothLeast 0 4095 _ _ _ _ _ _ _ hc_42) _) (kV hw calX8_takes kw_15_19 rfl rfl ⟨Nat.le_of_ble_eq_true rfl, Nat.le_of_ble_eq_true rfl⟩) (wsPV (hP.sub (ws' := [oX8 t_h t_a t_thrown t_taped t_at_27 t_behind_28 t_size t_kind_29 t_number_30 t_wrong_31 t_wrongAt_32 t_faultKind t_faultPlace t_x t_wayLong t_bothLeast, arI G (t_a 3) 900 t_tape]) [0, 1] rfl) (hD.sub (ws' := [oX8 t_h t_a t_thrown t_taped t_at_27 t_behind_28 t_size t_kind_29 t_number_30 t_wrong_31 t_wrongAt_32 t_faultKind t_faultPlace t_x t_wayLong t_bothLeast, arI G (t_a 3) 900 t_tape]) [0, 1] (by decide) rfl) hE hS (va_free (wc := [oX8 t_h t_a t_thrown t_taped t_at_27 t_behind_28 t_size t_kind_29 t_number_30 t_wrong_31 t_wrongAt_32 t_faultKind t_faultPlace t_x t_wayLong t_bothLeast, arI G (t_a 3) 900 t_tape]) hD hS hA [0, 1] rfl) hK (ci := 8) (q0 := 0) rfl rfl) rfl rfl hl.1 rfl (lv_room (Nat.le_of_ble_eq_true rfl)) dX8_readWash_99 ⟨Nat.zero_le _, Nat.zero_le _⟩) hS hA hP hD [0, 1] rfl rfl (fun H locs hP hD hS => ?_)
        have hP : va_P G.1 vwCl [oX8 t_h t_a t_thrown t_taped t_at_35 t_behind_36 t_size t_kind_37 t_number_38 t_wrong_39 t_wrongAt_40 t_faultKind t_faultPlace t_x t_wayLong t_bothLeast, arI G (t_a 3) 900 t_tape, arI G (t_a 4) 186 t_fresh] H := hP
        have hD : va_D A [oX8 t_h t_a t_thrown t_taped t_at_35 t_behind_36 t_size t_kind_37 t_number_38 t_wrong_39 t_wrongAt_40 t_faultKind t_faultPlace t_x t_wayLong t_bothLeast, arI G (t_a 3) 900 t_tape, arI G (t_a 4) 186 t_fresh] := hD
        refine lv_istore (lv' := [(5, .int r_41), (4, .int r_33), (0, .ref t_h), (1, .int x_1), (2, .int r_18)]) hx hb dX8_readWash_102 hl (by decide) rfl (fun ls hl => ?_)
        refine lv_aload_n hx hb dX8_readWash_104 rfl (lv_at hl 2 rfl) ?_
        refine va_get (D := G.1) (ci := 8) (v := .int t_wrong_39) (C := RX8) (T := TX8) (N := 33) hx hb hw inW8 hown hK.1 hP 0 rfl rfl 11 (by decide) (hw _ kw_13_22) (fun _ h9 => h9) rfl dX8_readWash_105 ?_
        refine lv_if_eq (tgt := 112) hx hb dX8_readWash_108 (by decide) (fun c_43 => ?_) (fun c_43 => ?_)
        · have hf := ip c_43 hf
          refine lv_aload_n hx hb dX8_readWash_112 rfl (lv_at hl 2 rfl) ?_
          refine va_get (D := G.1) (ci := 8) (v := .ref (t_a 4)) (C := RX8) (T := TX8) (N := 33) hx hb hw inW8 hown hK.1 hP 0 rfl rfl 4 (by decide) (hw _ kw_5_14) (fun _ h9 => h9) rfl dX8_readWash_113 ?_
          refine lv_bipush (v := 18) hx hb dX8_readWash_116 (by decide) ?_
          refine lv_iconst (v := 3) hx hb dX8_readWash_118 (by decide) ?_
          refine lv_iload_n hx hb dX8_readWash_119 rfl (lv_at hl 3 rfl) ?_
          refine lv_imul hx hb dX8_readWash_120 ?_
          refine lv_iadd hx hb dX8_readWash_121 ?_
          refine lv_iload_n hx hb dX8_readWash_122 rfl (lv_at hl 4 rfl) ?_
          obtain ⟨hi_45, hf⟩ := wrI_in hf
          refine xiast hx hb hK.1 hP hD hS 2 0 rfl rfl hi_45 dX8_readWash_123 (fun t_fresh_44 H locs et_fresh_44 hP hD hS => ?_)
          have hf := hf t_fresh_44 et_fresh_44
          have hP : va_P G.1 vwCl [oX8 t_h t_a t_thrown t_taped t_at_35 t_behind_36 t_size t_kind_37 t_number_38 t_wrong_39 t_wrongAt_40 t_faultKind t_faultPlace t_x t_wayLong t_bothLeast, arI G (t_a 3) 900 t_tape, arI G (t_a 4) 186 t_fresh_44] H := hP
          have hD : va_D A [oX8 t_h t_a t_thrown t_taped t_at_35 t_behind_36 t_size t_kind_37 t_number_38 t_wrong_39 t_wrongAt_40 t_faultKind t_faultPlace t_x t_wayLong t_bothLeast, arI G (t_a 3) 900 t_tape, arI G (t_a 4) 186 t_fresh_44] := hD
          refine lv_aload_n hx hb dX8_readWash_124 rfl (lv_at hl 2 rfl) ?_
          refine va_get (D := G.1) (ci := 8) (v := .ref (t_a 4)) (C := RX8) (T := TX8) (N := 33) hx hb hw inW8 hown hK.1 hP 0 rfl rfl 4 (by decide) (hw _ kw_5_14) (fun _ h9 => h9) rfl dX8_readWash_125 ?_
          refine lv_bipush (v := 18) hx hb dX8_readWash_128 (by decide) ?_
          refine lv_iconst (v := 3) hx hb dX8_readWash_130 (by decide) ?_
          refine lv_iload_n hx hb dX8_readWash_131 rfl (lv_at hl 3 rfl) ?_
          refine lv_imul hx hb dX8_readWash_132 ?_
          refine lv_iadd hx hb dX8_readWash_133 ?_
          refine lv_iconst (v := 1) hx hb dX8_readWash_134 (by decide) ?_
          refine lv_iadd hx hb dX8_readWash_135 ?_
          refine lv_iload hx hb dX8_readWash_136 (lv_at hl 1 rfl) ?_
          obtain ⟨hi_47, hf⟩ := wrI_in hf
          refine xiast hx hb hK.1 hP hD hS 2 0 rfl rfl hi_47 dX8_readWash_138 (fun t_fresh_46 H locs et_fresh_46 hP hD hS => ?_)
          have hf := hf t_fresh_46 et_fresh_46
          have hP : va_P G.1 vwCl [oX8 t_h t_a t_thrown t_taped t_at_35 t_behind_36 t_size t_kind_37 t_number_38 t_wrong_39 t_wrongAt_40 t_faultKind t_faultPlace t_x t_wayLong t_bothLeast, arI G (t_a 3) 900 t_tape, arI G (t_a 4) 186 t_fresh_46] H := hP
          have hD : va_D A [oX8 t_h t_a t_thrown t_taped t_at_35 t_behind_36 t_size t_kind_37 t_number_38 t_wrong_39 t_wrongAt_40 t_faultKind t_faultPlace t_x t_wayLong t_bothLeast, arI G (t_a 3) 900 t_tape, arI G (t_a 4) 186 t_fresh_46] := hD
          refine lv_aload_n hx hb dX8_readWash_139 rfl (lv_at hl 2 rfl) ?_
          refine va_get (D := G.1) (ci := 8) (v := .ref (t_a 4)) (C := RX8) (T := TX8) (N := 33) hx hb hw inW8 hown hK.1 hP 0 rfl rfl 4 (by decide) (hw _ kw_5_14) (fun _ h9 => h9) rfl dX8_readWash_140 ?_
          refine lv_bipush (v := 18) hx hb dX8_readWash_143 (by decide) ?_
          refine lv_iconst (v := 3) hx hb dX8_readWash_145 (by decide) ?_
          refine lv_iload_n hx hb dX8_readWash_146 rfl (lv_at hl 3 rfl) ?_
          refine lv_imul hx hb dX8_readWash_147 ?_
          refine lv_iadd hx hb dX8_readWash_148 ?_
          refine lv_iconst (v := 2) hx hb dX8_readWash_149 (by decide) ?_
          refine lv_iadd hx hb dX8_readWash_150 ?_
          refine lv_iload hx hb dX8_readWash_151 (lv_at hl 0 rfl) ?_
          obtain ⟨hi_49, hf⟩ := wrI_in hf
          refine xiast hx hb hK.1 hP hD hS 2 0 rfl rfl hi_49 dX8_readWash_153 (fun t_fresh_48 H locs et_fresh_48 hP hD hS => ?_)
          have hf := hf t_fresh_48 et_fresh_48
          have hP : va_P G.1 vwCl [oX8 t_h t_a t_thrown t_taped t_at_35 t_behind_36 t_size t_kind_37 t_number_38 t_wrong_39 t_wrongAt_40 t_faultKind t_faultPlace t_x t_wayLong t_bothLeast, arI G (t_a 3) 900 t_tape, arI G (t_a 4) 186 t_fresh_48] H := hP
          have hD : va_D A [oX8 t_h t_a t_thrown t_taped t_at_35 t_behind_36 t_size t_kind_37 t_number_38 t_wrong_39 t_wrongAt_40 t_faultKind t_faultPlace t_x t_wayLong t_bothLeast, arI G (t_a 3) 900 t_tape, arI G (t_a 4) 186 t_fresh_48] := hD
          refine lv_aload_n hx hb dX8_readWash_154 rfl (lv_at hl 2 rfl) ?_
          refine va_get (D := G.1) (ci := 8) (v := .ref (t_a 4)) (C := RX8) (T := TX8) (N := 33) hx hb hw inW8 hown hK.1 hP 0 rfl rfl 4 (by decide) (hw _ kw_5_14) (fun _ h9 => h9) rfl dX8_readWash_155 ?_
          refine lv_iconst (v := 4) hx hb dX8_readWash_158 (by decide) ?_
          refine lv_dup2_11 hx hb dX8_readWash_159 rfl rfl ?_
          obtain ⟨hi_51, hf⟩ := rdI_in hf
          refine va_iald hx hb hK.1 hP 2 0 rfl rfl hi_51 dX8_readWash_160 ?_
          refine lv_topi (fun x_50 ex_50 => ?_)
          have hf := hf x_50 ex_50
          refine lv_iconst (v := 1) hx hb dX8_readWash_161 (by decide) ?_
          refine lv_iadd hx hb dX8_readWash_162 ?_
          obtain ⟨hi_53, hf⟩ := wrI_in hf
          refine xiast hx hb hK.1 hP hD hS 2 0 rfl rfl hi_53 dX8_readWash_163 (fun t_fresh_52 H locs et_fresh_52 hP hD hS => ?_)
          have hf := hf t_fresh_52 et_fresh_52
          have hP : va_P G.1 vwCl [oX8 t_h t_a t_thrown t_taped t_at_35 t_behind_36 t_size t_kind_37 t_number_38 t_wrong_39 t_wrongAt_40 t_faultKind t_faultPlace t_x t_wayLong t_bothLeast, arI G (t_a 3) 900 t_tape, arI G (t_a 4) 186 t_fresh_52] H := hP
          have hD : va_D A [oX8 t_h t_a t_thrown t_taped t_at_35 t_behind_36 t_size t_kind_37 t_number_38 t_wrong_39 t_wrongAt_40 t_faultKind t_faultPlace t_x t_wayLong t_bothLeast, arI G (t_a 3) 900 t_tape, arI G (t_a 4) 186 t_fresh_52] := hD
          exact hRet _ _ _ _ _ _ _ _ _ _ _ hf hP hS dX8_readWash_164
        · have hf := iq c_43 hf
          exact hRet _ _ _ _ _ _ _ _ _ _ _ hf hP hS dX8_readWash_111
      refine lv_if_eq (tgt := 88) hx hb dX8_readWash_50 (by decide) (fun c_54 => ?_) (fun c_54 => ?_)
      · have hf := ip c_54 hf
        exact J88 _ _ _ _ _ hP hD hS (lv_sub hl [2, 3, 1] rfl) hf
      · have hf := iq c_54 hf
        refine lv_aload_n hx hb dX8_readWash_53 rfl (lv_at hl 2 rfl) ?_
        refine va_get (D := G.1) (ci := 8) (v := .int t_number_15) (C := RX8) (T := TX8) (N := 33) hx hb hw inW8 hown hK.1 hP 0 rfl rfl 10 (by decide) (hw _ kw_14_10) (fun _ h9 => h9) rfl dX8_readWash_54 ?_
        refine lv_aload_n hx hb dX8_readWash_57 rfl (lv_at hl 2 rfl) ?_
        refine va_get (D := G.1) (ci := 8) (v := .ref (t_a 4)) (C := RX8) (T := TX8) (N := 33) hx hb hw inW8 hown hK.1 hP 0 rfl rfl 4 (by decide) (hw _ kw_5_14) (fun _ h9 => h9) rfl dX8_readWash_58 ?_
        refine lv_iconst (v := 0) hx hb dX8_readWash_61 (by decide) ?_
        obtain ⟨hi_56, hf⟩ := rdI_in hf
        refine va_iald hx hb hK.1 hP 2 0 rfl rfl hi_56 dX8_readWash_62 ?_
        refine lv_topi (fun x_55 ex_55 => ?_)
        have hf := hf x_55 ex_55
        refine lv_icmp_ge (tgt := 88) hx hb dX8_readWash_63 (by decide) (fun c_57 => ?_) (fun c_57 => ?_)
        · have hf := ip c_57 hf
          exact J88 _ _ _ _ _ hP hD hS (lv_sub hl [2, 3, 1] rfl) hf
        · have hf := iq c_57 hf
          refine lv_iload_n hx hb dX8_readWash_66 rfl (lv_at hl 0 rfl) ?_
          refine lv_iconst (v := 2) hx hb dX8_readWash_67 (by decide) ?_
          refine jn_el hf (fun k_58 ek_58 hf => ?_)
          have J83 : ∀  (H : Heap) (locs : List Loc) (ls : Array Slot), va_P G.1 vwCl [oX8 t_h t_a t_thrown t_taped t_at_12 t_behind_13 t_size t_kind_14 t_number_15 t_wrong_16 t_wrongAt_17 t_faultKind t_faultPlace t_x t_wayLong t_bothLeast, arI G (t_a 3) 900 t_tape, arI G (t_a 4) 186 t_fresh] H → va_D A [oX8 t_h t_a t_thrown t_taped t_at_12 t_behind_13 t_size t_kind_14 t_number_15 t_wrong_16 t_wrongAt_17 t_faultKind t_faultPlace t_x t_wayLong t_bothLeast, arI G (t_a 3) 900 t_tape, arI G (t_a 4) 186 t_fresh] → va_S A s.heap H locs → lv_has ls 6 [(0, .ref t_h), (1, .int x_1), (2, .int r_18)] → k_58 = some (o_t_fresh, o_t_at, o_t_behind, o_t_kind, o_t_number, o_t_wrong, o_t_wrongAt) → W p l e ({ frames := 8, cells := 0, slots := 0, locals := 206 } : Room) s m args below meth c H locs 0 0 Q (F0 m 83 ls []) := by
            intro  H locs ls hP hD hS hl hf
            rw [ek_58] at hf
            refine lv_aload_n hx hb dX8_readWash_83 rfl (lv_at hl 0 rfl) ?_
            refine lv_iconst (v := 3) hx hb dX8_readWash_84 (by decide) ?_
            obtain ⟨t_wrong_59, t_wrongAt_60, hc_61, hf⟩ := bd2_in hf
            refine wcV (w1 := [oX8 t_h t_a t_thrown t_taped t_at_12 t_behind_13 t_size t_kind_14 t_number_15 t_wrong_59 t_wrongAt_60 t_faultKind t_faultPlace t_x t_wayLong t_bothLeast]) (va_runV (As := [.int 3]) (rest := []) ⟨hx, hb, hml, hown, hw⟩ ((ctX8_fails l G t_h t_a t_thrown t_taped t_at_12 t_behind_13 t_size t_kind_14 t_number_15 t_wrong_16 t_wrongAt_17 t_faultKind t_faultPlace t_x t_wayLong t_bothLeast 3 _ _ hc_61) _) (kV hw calX8_fails kw_15_15 rfl rfl ⟨Nat.le_of_ble_eq_true rfl, Nat.le_of_ble_eq_true rfl⟩) (wpV (hP.sub (ws' := [oX8 t_h t_a t_thrown t_taped t_at_12 t_behind_13 t_size t_kind_14 t_number_15 t_wrong_16 t_wrongAt_17 t_faultKind t_faultPlace t_x t_wayLong t_bothLeast]) [0] rfl) (hD.sub (ws' := [oX8 t_h t_a t_thrown t_taped t_at_12 t_behind_13 t_size t_kind_14 t_number_15 t_wrong_16 t_wrongAt_17 t_faultKind t_faultPlace t_x t_wayLong t_bothLeast]) [0] (by decide) rfl) hK (ci := 8) (q0 := 0) rfl rfl) rfl rfl hl.1 rfl (lv_room (Nat.le_of_ble_eq_true rfl)) dX8_readWash_85 ⟨Nat.zero_le _, Nat.zero_le _⟩) hS hA hP hD [0] rfl rfl (fun H locs hP hD hS => ?_)
            have hP : va_P G.1 vwCl [oX8 t_h t_a t_thrown t_taped t_at_12 t_behind_13 t_size t_kind_14 t_number_15 t_wrong_59 t_wrongAt_60 t_faultKind t_faultPlace t_x t_wayLong t_bothLeast, arI G (t_a 3) 900 t_tape, arI G (t_a 4) 186 t_fresh] H := hP
            have hD : va_D A [oX8 t_h t_a t_thrown t_taped t_at_12 t_behind_13 t_size t_kind_14 t_number_15 t_wrong_59 t_wrongAt_60 t_faultKind t_faultPlace t_x t_wayLong t_bothLeast, arI G (t_a 3) 900 t_tape, arI G (t_a 4) 186 t_fresh] := hD
            exact J88 _ _ _ _ _ hP hD hS (lv_sub hl [0, 1, 2] rfl) hf
          refine lv_icmp_lt (tgt := 83) hx hb dX8_readWash_68 (by decide) (fun c_62 => ?_) (fun c_62 => ?_)
          · have hf := ip c_62 hf
            exact J83  _ _ _ hP hD hS (lv_sub hl [2, 3, 1] rfl) hf
          · have hf := iq c_62 hf
            refine lv_iload_n hx hb dX8_readWash_71 rfl (lv_at hl 0 rfl) ?_
            refine lv_aload_n hx hb dX8_readWash_72 rfl (lv_at hl 2 rfl) ?_
            refine va_get (D := G.1) (ci := 8) (v := .ref (t_a 4)) (C := RX8) (T := TX8) (N := 33) hx hb hw inW8 hown hK.1 hP 0 rfl rfl 4 (by decide) (hw _ kw_5_14) (fun _ h9 => h9) rfl dX8_readWash_73 ?_
            refine lv_iconst (v := 0) hx hb dX8_readWash_76 (by decide) ?_
            obtain ⟨hi_64, hf⟩ := rdI_in hf
            refine va_iald hx hb hK.1 hP 2 0 rfl rfl hi_64 dX8_readWash_77 ?_
            refine lv_topi (fun x_63 ex_63 => ?_)
            have hf := hf x_63 ex_63
            refine lv_iconst (v := 2) hx hb dX8_readWash_78 (by decide) ?_
            refine lv_isub hx hb dX8_readWash_79 ?_
            refine lv_icmp_le (tgt := 88) hx hb dX8_readWash_80 (by decide) (fun c_65 => ?_) (fun c_65 => ?_)
            · have hf := ip c_65 hf
              exact J88 _ _ _ _ _ hP hD hS (lv_sub hl [2, 3, 1] rfl) hf
            · have hf := iq c_65 hf
              exact J83  _ _ _ hP hD hS (lv_sub hl [2, 3, 1] rfl) hf
    · have hf := iq c_6 hf
      exact hRet _ _ _ _ _ _ _ _ _ _ _ hf hP hS dX8_readWash_25
  refine lv_icmp_ne (tgt := 18) hx hb dX8_readWash_10 (by decide) (fun c_66 => ?_) (fun c_66 => ?_)
  · have hf := iq c_66 hf
    exact J18 _ _ _ _ _ hP hD hS (lv_sub hl [1, 0] rfl) hf
  · have hf := ip c_66 hf
    refine lv_aload_n hx hb dX8_readWash_13 rfl (lv_at hl 1 rfl) ?_
    refine lv_iconst (v := 4) hx hb dX8_readWash_14 (by decide) ?_
    obtain ⟨t_wrong_67, t_wrongAt_68, hc_69, hf⟩ := bd2_in hf
    refine wcV (w1 := [oX8 t_h t_a t_thrown t_taped t_at t_behind t_size t_kind t_number t_wrong_67 t_wrongAt_68 t_faultKind t_faultPlace t_x t_wayLong t_bothLeast]) (va_runV (As := [.int 4]) (rest := []) ⟨hx, hb, hml, hown, hw⟩ ((ctX8_fails l G t_h t_a t_thrown t_taped t_at t_behind t_size t_kind t_number t_wrong t_wrongAt t_faultKind t_faultPlace t_x t_wayLong t_bothLeast 4 _ _ hc_69) _) (kV hw calX8_fails kw_15_15 rfl rfl ⟨Nat.le_of_ble_eq_true rfl, Nat.le_of_ble_eq_true rfl⟩) (wpV (hP.sub (ws' := [oX8 t_h t_a t_thrown t_taped t_at t_behind t_size t_kind t_number t_wrong t_wrongAt t_faultKind t_faultPlace t_x t_wayLong t_bothLeast]) [0] rfl) (hD.sub (ws' := [oX8 t_h t_a t_thrown t_taped t_at t_behind t_size t_kind t_number t_wrong t_wrongAt t_faultKind t_faultPlace t_x t_wayLong t_bothLeast]) [0] (by decide) rfl) hK (ci := 8) (q0 := 0) rfl rfl) rfl rfl hl.1 rfl (lv_room (Nat.le_of_ble_eq_true rfl)) dX8_readWash_15 ⟨Nat.zero_le _, Nat.zero_le _⟩) hS hA hP hD [0] rfl rfl (fun H locs hP hD hS => ?_)
    have hP : va_P G.1 vwCl [oX8 t_h t_a t_thrown t_taped t_at t_behind t_size t_kind t_number t_wrong_67 t_wrongAt_68 t_faultKind t_faultPlace t_x t_wayLong t_bothLeast, arI G (t_a 3) 900 t_tape, arI G (t_a 4) 186 t_fresh] H := hP
    have hD : va_D A [oX8 t_h t_a t_thrown t_taped t_at t_behind t_size t_kind t_number t_wrong_67 t_wrongAt_68 t_faultKind t_faultPlace t_x t_wayLong t_bothLeast, arI G (t_a 3) 900 t_tape, arI G (t_a 4) 186 t_fresh] := hD
    exact J18 _ _ _ _ _ hP hD hS (lv_sub hl [1, 0] rfl) hf
theorem calX8_readCans : CalV yX8_readCans cX8_readCans 3 none 0 := ⟨⟨kw_16_17, kw_1_5, by decide +kernel⟩, kw_16_15, kw_16_16⟩
set_option maxHeartbeats 8000000 in
set_option maxRecDepth 100000 in
theorem ctX8_readCans (l : Launch) (G : GT) (ad : Nat → Nat) (av : Nat → Nat) (t_h : Nat) (t_a : Nat → Nat) (t_thrown : Int32) (t_tape : Nat → Int32) (t_fresh : Nat → Int32) (t_taped : Int32) (t_at : Int32) (t_behind : Int32) (t_size : Int32) (t_kind : Int32) (t_number : Int32) (t_wrong : Int32) (t_wrongAt : Int32) (t_faultKind : Int32) (t_faultPlace : Int32) (t_x : Int32) (t_wayLong : Int32) (t_bothLeast : Int32) (o_t_fresh : Nat → Int32) (o_t_at : Int32) (o_t_behind : Int32) (o_t_kind : Int32) (o_t_number : Int32) (o_t_wrong : Int32) (o_t_wrongAt : Int32) (hf : fX8_readCans t_tape t_fresh t_at t_behind t_size t_kind t_number t_wrong t_wrongAt = some (o_t_fresh, o_t_at, o_t_behind, o_t_kind, o_t_number, o_t_wrong, o_t_wrongAt)) : WsV l yX8_readCans (Cond.code yX8_readCans cX8_readCans 3 none) { frames := 8, cells := 0, slots := 0, locals := 206 } G ad av [.ref t_h] [oX8 t_h t_a t_thrown t_taped t_at t_behind t_size t_kind t_number t_wrong t_wrongAt t_faultKind t_faultPlace t_x t_wayLong t_bothLeast, arI G (t_a 3) 900 t_tape, arI G (t_a 4) 186 t_fresh] [oX8 t_h t_a t_thrown t_taped o_t_at o_t_behind t_size o_t_kind o_t_number o_t_wrong o_t_wrongAt t_faultKind t_faultPlace t_x t_wayLong t_bothLeast, arI G (t_a 3) 900 t_tape, arI G (t_a 4) 186 o_t_fresh] := by
  intro sz
  refine Met.ofW (cc := cX8_readCans) (maxL := 3) (ret := none) (by decide) rfl ?_
  intro p e s m args below meth c s₁ B hml hv
  obtain ⟨hargs, hsz, hP, hD0, hE0, hK⟩ := hv
  subst hsz
  obtain ⟨hx, hb, hr, hw, hown, hlk⟩ := fwB B
  refine fw_enter hargs (Nat.le_of_ble_eq_true rfl) (fun ls hl => ?_)
  have hl : lv_has ls 3 [(0, .ref t_h)] := hl
  refine fw_Q (P := fun Q => ∃ A : Nat → Prop, va_D A [oX8 t_h t_a t_thrown t_taped t_at t_behind t_size t_kind t_number t_wrong t_wrongAt t_faultKind t_faultPlace t_x t_wayLong t_bothLeast, arI G (t_a 3) 900 t_tape, arI G (t_a 4) 186 t_fresh] ∧ va_S A s.heap s.heap [] ∧ (∀ q, s.heap.size ≤ q → A q) ∧ SE ad av A s s.heap ∧ ∀ (n_t_fresh : Nat → Int32) (n_t_at : Int32) (n_t_behind : Int32) (n_t_kind : Int32) (n_t_number : Int32) (n_t_wrong : Int32) (n_t_wrongAt : Int32) (H : Heap) (locs : List Loc) (pc : Nat) (ls : Array Slot), some (n_t_fresh, n_t_at, n_t_behind, n_t_kind, n_t_number, n_t_wrong, n_t_wrongAt) = some (o_t_fresh, o_t_at, o_t_behind, o_t_kind, o_t_number, o_t_wrong, o_t_wrongAt) → va_P G.1 vwCl [oX8 t_h t_a t_thrown t_taped n_t_at n_t_behind t_size n_t_kind n_t_number n_t_wrong n_t_wrongAt t_faultKind t_faultPlace t_x t_wayLong t_bothLeast, arI G (t_a 3) 900 t_tape, arI G (t_a 4) 186 n_t_fresh] H → va_S A s.heap H locs → decode cX8_readCans pc = .ok (.return_, 1) → W p l e ({ frames := 8, cells := 0, slots := 0, locals := 206 } : Room) s m args below meth c H locs 0 0 Q (F0 m pc ls [])) ⟨va_A [oX8 t_h t_a t_thrown t_taped t_at t_behind t_size t_kind t_number t_wrong t_wrongAt t_faultKind t_faultPlace t_x t_wayLong t_bothLeast, arI G (t_a 3) 900 t_tape, arI G (t_a 4) 186 t_fresh] s.heap.size, hD0.self (sz := s.heap.size), va_S.rf, fun q h => Or.inr h, hE0, ?_⟩ ?_
  · intro n_t_fresh n_t_at n_t_behind n_t_kind n_t_number n_t_wrong n_t_wrongAt H locs pc ls h hP hS hd
    cases h
    exact retWV hx hb hr hlk hS hP hd
  rintro Q ⟨A, hD, hS, hA, hE, hRet⟩
  change W p l e ({ frames := 8, cells := 0, slots := 0, locals := 206 } : Room) s m args below meth c _ _ 0 0 Q _
  unfold fX8_readCans at hf
  refine lv_aload_n hx hb dX8_readCans_0 rfl (lv_at hl 0 rfl) ?_
  obtain ⟨r_7, t_at_1, t_behind_2, t_kind_3, t_number_4, t_wrong_5, t_wrongAt_6, hc_8, hf⟩ := bd7_in hf
  refine wcI (w1 := [oX8 t_h t_a t_thrown t_taped t_at_1 t_behind_2 t_size t_kind_3 t_number_4 t_wrong_5 t_wrongAt_6 t_faultKind t_faultPlace t_x t_wayLong t_bothLeast, arI G (t_a 3) 900 t_tape, arI G (t_a 4) 186 t_fresh]) (va_runV (As := []) (rest := []) ⟨hx, hb, hml, hown, hw⟩ ((ctX8_takesWindow l G ad av t_h t_a t_thrown t_tape t_fresh t_taped t_at t_behind t_size t_kind t_number t_wrong t_wrongAt t_faultKind t_faultPlace t_x t_wayLong t_bothLeast _ _ _ _ _ _ _ hc_8) _) (kV hw calX8_takesWindow kw_16_3 rfl rfl ⟨Nat.le_of_ble_eq_true rfl, Nat.le_of_ble_eq_true rfl⟩) (wsPV (hP.sub (ws' := [oX8 t_h t_a t_thrown t_taped t_at t_behind t_size t_kind t_number t_wrong t_wrongAt t_faultKind t_faultPlace t_x t_wayLong t_bothLeast, arI G (t_a 3) 900 t_tape, arI G (t_a 4) 186 t_fresh]) [0, 1, 2] rfl) (hD.sub (ws' := [oX8 t_h t_a t_thrown t_taped t_at t_behind t_size t_kind t_number t_wrong t_wrongAt t_faultKind t_faultPlace t_x t_wayLong t_bothLeast, arI G (t_a 3) 900 t_tape, arI G (t_a 4) 186 t_fresh]) [0, 1, 2] (by decide) rfl) hE hS (va_free (wc := [oX8 t_h t_a t_thrown t_taped t_at t_behind t_size t_kind t_number t_wrong t_wrongAt t_faultKind t_faultPlace t_x t_wayLong t_bothLeast, arI G (t_a 3) 900 t_tape, arI G (t_a 4) 186 t_fresh]) hD hS hA [0, 1, 2] rfl) hK (ci := 8) (q0 := 0) rfl rfl) rfl rfl hl.1 rfl (lv_room (Nat.le_of_ble_eq_true rfl)) dX8_readCans_1 ⟨Nat.zero_le _, Nat.zero_le _⟩) hS hA hP hD [0, 1, 2] rfl rfl (fun H locs hP hD hS => ?_)
  have hP : va_P G.1 vwCl [oX8 t_h t_a t_thrown t_taped t_at_1 t_behind_2 t_size t_kind_3 t_number_4 t_wrong_5 t_wrongAt_6 t_faultKind t_faultPlace t_x t_wayLong t_bothLeast, arI G (t_a 3) 900 t_tape, arI G (t_a 4) 186 t_fresh] H := hP
  have hD : va_D A [oX8 t_h t_a t_thrown t_taped t_at_1 t_behind_2 t_size t_kind_3 t_number_4 t_wrong_5 t_wrongAt_6 t_faultKind t_faultPlace t_x t_wayLong t_bothLeast, arI G (t_a 3) 900 t_tape, arI G (t_a 4) 186 t_fresh] := hD
  refine lv_istore_n (lv' := [(1, .int r_7), (0, .ref t_h)]) hx hb dX8_readCans_4 rfl hl (by decide) rfl (fun ls hl => ?_)
  refine lv_aload_n hx hb dX8_readCans_5 rfl (lv_at hl 1 rfl) ?_
  refine lv_iconst (v := 0) hx hb dX8_readCans_6 (by decide) ?_
  refine lv_bipush (v := 11) hx hb dX8_readCans_7 (by decide) ?_
  obtain ⟨r_15, t_at_9, t_behind_10, t_kind_11, t_number_12, t_wrong_13, t_wrongAt_14, hc_16, hf⟩ := bd7_in hf
  refine wcI (w1 := [oX8 t_h t_a t_thrown t_taped t_at_9 t_behind_10 t_size t_kind_11 t_number_12 t_wrong_13 t_wrongAt_14 t_faultKind t_faultPlace t_x t_wayLong t_bothLeast, arI G (t_a 3) 900 t_tape]) (va_runV (As := [.int 0, .int 11]) (rest := []) ⟨hx, hb, hml, hown, hw⟩ ((ctX8_takes l G ad av t_h t_a t_thrown t_tape t_taped t_at_1 t_behind_2 t_size t_kind_3 t_number_4 t_wrong_5 t_wrongAt_6 t_faultKind t_faultPlace t_x t_wayLong t_bothLeast 0 11 _ _ _ _ _ _ _ hc_16) _) (kV hw calX8_takes kw_15_19 rfl rfl ⟨Nat.le_of_ble_eq_true rfl, Nat.le_of_ble_eq_true rfl⟩) (wsPV (hP.sub (ws' := [oX8 t_h t_a t_thrown t_taped t_at_1 t_behind_2 t_size t_kind_3 t_number_4 t_wrong_5 t_wrongAt_6 t_faultKind t_faultPlace t_x t_wayLong t_bothLeast, arI G (t_a 3) 900 t_tape]) [0, 1] rfl) (hD.sub (ws' := [oX8 t_h t_a t_thrown t_taped t_at_1 t_behind_2 t_size t_kind_3 t_number_4 t_wrong_5 t_wrongAt_6 t_faultKind t_faultPlace t_x t_wayLong t_bothLeast, arI G (t_a 3) 900 t_tape]) [0, 1] (by decide) rfl) hE hS (va_free (wc := [oX8 t_h t_a t_thrown t_taped t_at_1 t_behind_2 t_size t_kind_3 t_number_4 t_wrong_5 t_wrongAt_6 t_faultKind t_faultPlace t_x t_wayLong t_bothLeast, arI G (t_a 3) 900 t_tape]) hD hS hA [0, 1] rfl) hK (ci := 8) (q0 := 0) rfl rfl) rfl rfl hl.1 rfl (lv_room (Nat.le_of_ble_eq_true rfl)) dX8_readCans_9 ⟨Nat.zero_le _, Nat.zero_le _⟩) hS hA hP hD [0, 1] rfl rfl (fun H locs hP hD hS => ?_)
  have hP : va_P G.1 vwCl [oX8 t_h t_a t_thrown t_taped t_at_9 t_behind_10 t_size t_kind_11 t_number_12 t_wrong_13 t_wrongAt_14 t_faultKind t_faultPlace t_x t_wayLong t_bothLeast, arI G (t_a 3) 900 t_tape, arI G (t_a 4) 186 t_fresh] H := hP
  have hD : va_D A [oX8 t_h t_a t_thrown t_taped t_at_9 t_behind_10 t_size t_kind_11 t_number_12 t_wrong_13 t_wrongAt_14 t_faultKind t_faultPlace t_x t_wayLong t_bothLeast, arI G (t_a 3) 900 t_tape, arI G (t_a 4) 186 t_fresh] := hD
  refine lv_istore_n (lv' := [(2, .int r_15), (1, .int r_7), (0, .ref t_h)]) hx hb dX8_readCans_12 rfl hl (by decide) rfl (fun ls hl => ?_)
  refine lv_aload_n hx hb dX8_readCans_13 rfl (lv_at hl 2 rfl) ?_
  refine va_get (D := G.1) (ci := 8) (v := .int t_wrong_13) (C := RX8) (T := TX8) (N := 33) hx hb hw inW8 hown hK.1 hP 0 rfl rfl 11 (by decide) (hw _ kw_13_22) (fun _ h9 => h9) rfl dX8_readCans_14 ?_
  refine lv_if_ne (tgt := 30) hx hb dX8_readCans_17 (by decide) (fun c_17 => ?_) (fun c_17 => ?_)
  · have hf := iq c_17 hf
    exact hRet _ _ _ _ _ _ _ _ _ _ _ hf hP hS dX8_readCans_30
  · have hf := ip c_17 hf
    refine lv_aload_n hx hb dX8_readCans_20 rfl (lv_at hl 2 rfl) ?_
    refine va_get (D := G.1) (ci := 8) (v := .ref (t_a 4)) (C := RX8) (T := TX8) (N := 33) hx hb hw inW8 hown hK.1 hP 0 rfl rfl 4 (by decide) (hw _ kw_5_14) (fun _ h9 => h9) rfl dX8_readCans_21 ?_
    refine lv_bipush (v := 6) hx hb dX8_readCans_24 (by decide) ?_
    refine lv_iload_n hx hb dX8_readCans_26 rfl (lv_at hl 1 rfl) ?_
    refine lv_iadd hx hb dX8_readCans_27 ?_
    refine lv_iload_n hx hb dX8_readCans_28 rfl (lv_at hl 0 rfl) ?_
    obtain ⟨hi_19, hf⟩ := wrI_in hf
    refine xiast hx hb hK.1 hP hD hS 2 0 rfl rfl hi_19 dX8_readCans_29 (fun t_fresh_18 H locs et_fresh_18 hP hD hS => ?_)
    have hf := hf t_fresh_18 et_fresh_18
    have hP : va_P G.1 vwCl [oX8 t_h t_a t_thrown t_taped t_at_9 t_behind_10 t_size t_kind_11 t_number_12 t_wrong_13 t_wrongAt_14 t_faultKind t_faultPlace t_x t_wayLong t_bothLeast, arI G (t_a 3) 900 t_tape, arI G (t_a 4) 186 t_fresh_18] H := hP
    have hD : va_D A [oX8 t_h t_a t_thrown t_taped t_at_9 t_behind_10 t_size t_kind_11 t_number_12 t_wrong_13 t_wrongAt_14 t_faultKind t_faultPlace t_x t_wayLong t_bothLeast, arI G (t_a 3) 900 t_tape, arI G (t_a 4) 186 t_fresh_18] := hD
    exact hRet _ _ _ _ _ _ _ _ _ _ _ hf hP hS dX8_readCans_30
theorem calX8_readString : CalV yX8_readString cX8_readString 4 none 0 := ⟨⟨kw_16_21, kw_1_5, by decide +kernel⟩, kw_16_19, kw_16_20⟩
set_option maxHeartbeats 8000000 in
set_option maxRecDepth 100000 in
theorem ctX8_readString (l : Launch) (G : GT) (ad : Nat → Nat) (av : Nat → Nat) (t_h : Nat) (t_a : Nat → Nat) (t_thrown : Int32) (t_tape : Nat → Int32) (t_fresh : Nat → Int32) (t_taped : Int32) (t_at : Int32) (t_behind : Int32) (t_size : Int32) (t_kind : Int32) (t_number : Int32) (t_wrong : Int32) (t_wrongAt : Int32) (t_faultKind : Int32) (t_faultPlace : Int32) (t_x : Int32) (t_wayLong : Int32) (t_bothLeast : Int32) (o_t_fresh : Nat → Int32) (o_t_at : Int32) (o_t_behind : Int32) (o_t_kind : Int32) (o_t_number : Int32) (o_t_wrong : Int32) (o_t_wrongAt : Int32) (hf : fX8_readString t_tape t_fresh t_at t_behind t_size t_kind t_number t_wrong t_wrongAt = some (o_t_fresh, o_t_at, o_t_behind, o_t_kind, o_t_number, o_t_wrong, o_t_wrongAt)) : WsV l yX8_readString (Cond.code yX8_readString cX8_readString 4 none) { frames := 8, cells := 0, slots := 0, locals := 206 } G ad av [.ref t_h] [oX8 t_h t_a t_thrown t_taped t_at t_behind t_size t_kind t_number t_wrong t_wrongAt t_faultKind t_faultPlace t_x t_wayLong t_bothLeast, arI G (t_a 3) 900 t_tape, arI G (t_a 4) 186 t_fresh] [oX8 t_h t_a t_thrown t_taped o_t_at o_t_behind t_size o_t_kind o_t_number o_t_wrong o_t_wrongAt t_faultKind t_faultPlace t_x t_wayLong t_bothLeast, arI G (t_a 3) 900 t_tape, arI G (t_a 4) 186 o_t_fresh] := by
  intro sz
  refine Met.ofW (cc := cX8_readString) (maxL := 4) (ret := none) (by decide) rfl ?_
  intro p e s m args below meth c s₁ B hml hv
  obtain ⟨hargs, hsz, hP, hD0, hE0, hK⟩ := hv
  subst hsz
  obtain ⟨hx, hb, hr, hw, hown, hlk⟩ := fwB B
  refine fw_enter hargs (Nat.le_of_ble_eq_true rfl) (fun ls hl => ?_)
  have hl : lv_has ls 4 [(0, .ref t_h)] := hl
  refine fw_Q (P := fun Q => ∃ A : Nat → Prop, va_D A [oX8 t_h t_a t_thrown t_taped t_at t_behind t_size t_kind t_number t_wrong t_wrongAt t_faultKind t_faultPlace t_x t_wayLong t_bothLeast, arI G (t_a 3) 900 t_tape, arI G (t_a 4) 186 t_fresh] ∧ va_S A s.heap s.heap [] ∧ (∀ q, s.heap.size ≤ q → A q) ∧ SE ad av A s s.heap ∧ ∀ (n_t_fresh : Nat → Int32) (n_t_at : Int32) (n_t_behind : Int32) (n_t_kind : Int32) (n_t_number : Int32) (n_t_wrong : Int32) (n_t_wrongAt : Int32) (H : Heap) (locs : List Loc) (pc : Nat) (ls : Array Slot), some (n_t_fresh, n_t_at, n_t_behind, n_t_kind, n_t_number, n_t_wrong, n_t_wrongAt) = some (o_t_fresh, o_t_at, o_t_behind, o_t_kind, o_t_number, o_t_wrong, o_t_wrongAt) → va_P G.1 vwCl [oX8 t_h t_a t_thrown t_taped n_t_at n_t_behind t_size n_t_kind n_t_number n_t_wrong n_t_wrongAt t_faultKind t_faultPlace t_x t_wayLong t_bothLeast, arI G (t_a 3) 900 t_tape, arI G (t_a 4) 186 n_t_fresh] H → va_S A s.heap H locs → decode cX8_readString pc = .ok (.return_, 1) → W p l e ({ frames := 8, cells := 0, slots := 0, locals := 206 } : Room) s m args below meth c H locs 0 0 Q (F0 m pc ls [])) ⟨va_A [oX8 t_h t_a t_thrown t_taped t_at t_behind t_size t_kind t_number t_wrong t_wrongAt t_faultKind t_faultPlace t_x t_wayLong t_bothLeast, arI G (t_a 3) 900 t_tape, arI G (t_a 4) 186 t_fresh] s.heap.size, hD0.self (sz := s.heap.size), va_S.rf, fun q h => Or.inr h, hE0, ?_⟩ ?_
  · intro n_t_fresh n_t_at n_t_behind n_t_kind n_t_number n_t_wrong n_t_wrongAt H locs pc ls h hP hS hd
    cases h
    exact retWV hx hb hr hlk hS hP hd
  rintro Q ⟨A, hD, hS, hA, hE, hRet⟩
  change W p l e ({ frames := 8, cells := 0, slots := 0, locals := 206 } : Room) s m args below meth c _ _ 0 0 Q _
  unfold fX8_readString at hf
  refine lv_aload_n hx hb dX8_readString_0 rfl (lv_at hl 0 rfl) ?_
  obtain ⟨r_7, t_at_1, t_behind_2, t_kind_3, t_number_4, t_wrong_5, t_wrongAt_6, hc_8, hf⟩ := bd7_in hf
  refine wcI (w1 := [oX8 t_h t_a t_thrown t_taped t_at_1 t_behind_2 t_size t_kind_3 t_number_4 t_wrong_5 t_wrongAt_6 t_faultKind t_faultPlace t_x t_wayLong t_bothLeast, arI G (t_a 3) 900 t_tape, arI G (t_a 4) 186 t_fresh]) (va_runV (As := []) (rest := []) ⟨hx, hb, hml, hown, hw⟩ ((ctX8_takesWindow l G ad av t_h t_a t_thrown t_tape t_fresh t_taped t_at t_behind t_size t_kind t_number t_wrong t_wrongAt t_faultKind t_faultPlace t_x t_wayLong t_bothLeast _ _ _ _ _ _ _ hc_8) _) (kV hw calX8_takesWindow kw_16_3 rfl rfl ⟨Nat.le_of_ble_eq_true rfl, Nat.le_of_ble_eq_true rfl⟩) (wsPV (hP.sub (ws' := [oX8 t_h t_a t_thrown t_taped t_at t_behind t_size t_kind t_number t_wrong t_wrongAt t_faultKind t_faultPlace t_x t_wayLong t_bothLeast, arI G (t_a 3) 900 t_tape, arI G (t_a 4) 186 t_fresh]) [0, 1, 2] rfl) (hD.sub (ws' := [oX8 t_h t_a t_thrown t_taped t_at t_behind t_size t_kind t_number t_wrong t_wrongAt t_faultKind t_faultPlace t_x t_wayLong t_bothLeast, arI G (t_a 3) 900 t_tape, arI G (t_a 4) 186 t_fresh]) [0, 1, 2] (by decide) rfl) hE hS (va_free (wc := [oX8 t_h t_a t_thrown t_taped t_at t_behind t_size t_kind t_number t_wrong t_wrongAt t_faultKind t_faultPlace t_x t_wayLong t_bothLeast, arI G (t_a 3) 900 t_tape, arI G (t_a 4) 186 t_fresh]) hD hS hA [0, 1, 2] rfl) hK (ci := 8) (q0 := 0) rfl rfl) rfl rfl hl.1 rfl (lv_room (Nat.le_of_ble_eq_true rfl)) dX8_readString_1 ⟨Nat.zero_le _, Nat.zero_le _⟩) hS hA hP hD [0, 1, 2] rfl rfl (fun H locs hP hD hS => ?_)
  have hP : va_P G.1 vwCl [oX8 t_h t_a t_thrown t_taped t_at_1 t_behind_2 t_size t_kind_3 t_number_4 t_wrong_5 t_wrongAt_6 t_faultKind t_faultPlace t_x t_wayLong t_bothLeast, arI G (t_a 3) 900 t_tape, arI G (t_a 4) 186 t_fresh] H := hP
  have hD : va_D A [oX8 t_h t_a t_thrown t_taped t_at_1 t_behind_2 t_size t_kind_3 t_number_4 t_wrong_5 t_wrongAt_6 t_faultKind t_faultPlace t_x t_wayLong t_bothLeast, arI G (t_a 3) 900 t_tape, arI G (t_a 4) 186 t_fresh] := hD
  refine lv_istore_n (lv' := [(1, .int r_7), (0, .ref t_h)]) hx hb dX8_readString_4 rfl hl (by decide) rfl (fun ls hl => ?_)
  refine lv_aload_n hx hb dX8_readString_5 rfl (lv_at hl 1 rfl) ?_
  refine lv_bipush (v := 8) hx hb dX8_readString_6 (by decide) ?_
  obtain ⟨r_9, hc_10, hf⟩ := bd1_in hf
  refine rcI (va_runV (As := [.int 8]) (rest := []) ⟨hx, hb, hml, hown, hw⟩ ((ctX8_is l G t_h t_a t_thrown t_taped t_at_1 t_behind_2 t_size t_kind_3 t_number_4 t_wrong_5 t_wrongAt_6 t_faultKind t_faultPlace t_x t_wayLong t_bothLeast 8 _ hc_10) _) (kV hw calX8_is kw_15_7 rfl rfl ⟨Nat.le_of_ble_eq_true rfl, Nat.le_of_ble_eq_true rfl⟩) (rpV (hP.sub (ws' := [oX8 t_h t_a t_thrown t_taped t_at_1 t_behind_2 t_size t_kind_3 t_number_4 t_wrong_5 t_wrongAt_6 t_faultKind t_faultPlace t_x t_wayLong t_bothLeast]) [0] rfl) hK (ci := 8) (q0 := 0) rfl rfl) rfl rfl hl.1 rfl (lv_room (Nat.le_of_ble_eq_true rfl)) dX8_readString_8 ⟨Nat.zero_le _, Nat.zero_le _⟩) hS hA hP (fun H locs hP hS => ?_)
  refine jn_el hf (fun k_13 ek_13 hf => ?_)
  have J27 : ∀ (t_wrong_11 : Int32) (t_wrongAt_12 : Int32) (H : Heap) (locs : List Loc) (ls : Array Slot), va_P G.1 vwCl [oX8 t_h t_a t_thrown t_taped t_at_1 t_behind_2 t_size t_kind_3 t_number_4 t_wrong_11 t_wrongAt_12 t_faultKind t_faultPlace t_x t_wayLong t_bothLeast, arI G (t_a 3) 900 t_tape, arI G (t_a 4) 186 t_fresh] H → va_D A [oX8 t_h t_a t_thrown t_taped t_at_1 t_behind_2 t_size t_kind_3 t_number_4 t_wrong_11 t_wrongAt_12 t_faultKind t_faultPlace t_x t_wayLong t_bothLeast, arI G (t_a 3) 900 t_tape, arI G (t_a 4) 186 t_fresh] → va_S A s.heap H locs → lv_has ls 4 [(0, .ref t_h), (1, .int r_7)] → k_13 t_wrong_11 t_wrongAt_12 = some (o_t_fresh, o_t_at, o_t_behind, o_t_kind, o_t_number, o_t_wrong, o_t_wrongAt) → W p l e ({ frames := 8, cells := 0, slots := 0, locals := 206 } : Room) s m args below meth c H locs 0 0 Q (F0 m 27 ls []) := by
    intro t_wrong_11 t_wrongAt_12 H locs ls hP hD hS hl hf
    rw [ek_13] at hf
    refine lv_aload_n hx hb dX8_readString_27 rfl (lv_at hl 0 rfl) ?_
    obtain ⟨r_20, t_at_14, t_behind_15, t_kind_16, t_number_17, t_wrong_18, t_wrongAt_19, hc_21, hf⟩ := bd7_in hf
    refine wcI (w1 := [oX8 t_h t_a t_thrown t_taped t_at_14 t_behind_15 t_size t_kind_16 t_number_17 t_wrong_18 t_wrongAt_19 t_faultKind t_faultPlace t_x t_wayLong t_bothLeast, arI G (t_a 3) 900 t_tape, arI G (t_a 4) 186 t_fresh]) (va_runV (As := []) (rest := []) ⟨hx, hb, hml, hown, hw⟩ ((ctX8_takesWindow l G ad av t_h t_a t_thrown t_tape t_fresh t_taped t_at_1 t_behind_2 t_size t_kind_3 t_number_4 t_wrong_11 t_wrongAt_12 t_faultKind t_faultPlace t_x t_wayLong t_bothLeast _ _ _ _ _ _ _ hc_21) _) (kV hw calX8_takesWindow kw_16_3 rfl rfl ⟨Nat.le_of_ble_eq_true rfl, Nat.le_of_ble_eq_true rfl⟩) (wsPV (hP.sub (ws' := [oX8 t_h t_a t_thrown t_taped t_at_1 t_behind_2 t_size t_kind_3 t_number_4 t_wrong_11 t_wrongAt_12 t_faultKind t_faultPlace t_x t_wayLong t_bothLeast, arI G (t_a 3) 900 t_tape, arI G (t_a 4) 186 t_fresh]) [0, 1, 2] rfl) (hD.sub (ws' := [oX8 t_h t_a t_thrown t_taped t_at_1 t_behind_2 t_size t_kind_3 t_number_4 t_wrong_11 t_wrongAt_12 t_faultKind t_faultPlace t_x t_wayLong t_bothLeast, arI G (t_a 3) 900 t_tape, arI G (t_a 4) 186 t_fresh]) [0, 1, 2] (by decide) rfl) hE hS (va_free (wc := [oX8 t_h t_a t_thrown t_taped t_at_1 t_behind_2 t_size t_kind_3 t_number_4 t_wrong_11 t_wrongAt_12 t_faultKind t_faultPlace t_x t_wayLong t_bothLeast, arI G (t_a 3) 900 t_tape, arI G (t_a 4) 186 t_fresh]) hD hS hA [0, 1, 2] rfl) hK (ci := 8) (q0 := 0) rfl rfl) rfl rfl hl.1 rfl (lv_room (Nat.le_of_ble_eq_true rfl)) dX8_readString_28 ⟨Nat.zero_le _, Nat.zero_le _⟩) hS hA hP hD [0, 1, 2] rfl rfl (fun H locs hP hD hS => ?_)
    have hP : va_P G.1 vwCl [oX8 t_h t_a t_thrown t_taped t_at_14 t_behind_15 t_size t_kind_16 t_number_17 t_wrong_18 t_wrongAt_19 t_faultKind t_faultPlace t_x t_wayLong t_bothLeast, arI G (t_a 3) 900 t_tape, arI G (t_a 4) 186 t_fresh] H := hP
    have hD : va_D A [oX8 t_h t_a t_thrown t_taped t_at_14 t_behind_15 t_size t_kind_16 t_number_17 t_wrong_18 t_wrongAt_19 t_faultKind t_faultPlace t_x t_wayLong t_bothLeast, arI G (t_a 3) 900 t_tape, arI G (t_a 4) 186 t_fresh] := hD
    refine lv_istore_n (lv' := [(2, .int r_20), (0, .ref t_h), (1, .int r_7)]) hx hb dX8_readString_31 rfl hl (by decide) rfl (fun ls hl => ?_)
    refine lv_aload_n hx hb dX8_readString_32 rfl (lv_at hl 1 rfl) ?_
    refine lv_bipush (v := 6) hx hb dX8_readString_33 (by decide) ?_
    obtain ⟨r_26, t_at_22, t_behind_23, t_kind_24, t_number_25, hc_27, hf⟩ := bd5_in hf
    refine wcI (w1 := [oX8 t_h t_a t_thrown t_taped t_at_22 t_behind_23 t_size t_kind_24 t_number_25 t_wrong_18 t_wrongAt_19 t_faultKind t_faultPlace t_x t_wayLong t_bothLeast, arI G (t_a 3) 900 t_tape]) (va_runV (As := [.int 6]) (rest := []) ⟨hx, hb, hml, hown, hw⟩ ((ctX8_eats l G ad av t_h t_a t_thrown t_tape t_taped t_at_14 t_behind_15 t_size t_kind_16 t_number_17 t_wrong_18 t_wrongAt_19 t_faultKind t_faultPlace t_x t_wayLong t_bothLeast 6 _ _ _ _ _ hc_27) _) (kV hw calX8_eats kw_16_10 rfl rfl ⟨Nat.le_of_ble_eq_true rfl, Nat.le_of_ble_eq_true rfl⟩) (wsPV (hP.sub (ws' := [oX8 t_h t_a t_thrown t_taped t_at_14 t_behind_15 t_size t_kind_16 t_number_17 t_wrong_18 t_wrongAt_19 t_faultKind t_faultPlace t_x t_wayLong t_bothLeast, arI G (t_a 3) 900 t_tape]) [0, 1] rfl) (hD.sub (ws' := [oX8 t_h t_a t_thrown t_taped t_at_14 t_behind_15 t_size t_kind_16 t_number_17 t_wrong_18 t_wrongAt_19 t_faultKind t_faultPlace t_x t_wayLong t_bothLeast, arI G (t_a 3) 900 t_tape]) [0, 1] (by decide) rfl) hE hS (va_free (wc := [oX8 t_h t_a t_thrown t_taped t_at_14 t_behind_15 t_size t_kind_16 t_number_17 t_wrong_18 t_wrongAt_19 t_faultKind t_faultPlace t_x t_wayLong t_bothLeast, arI G (t_a 3) 900 t_tape]) hD hS hA [0, 1] rfl) hK (ci := 8) (q0 := 0) rfl rfl) rfl rfl hl.1 rfl (lv_room (Nat.le_of_ble_eq_true rfl)) dX8_readString_35 ⟨Nat.zero_le _, Nat.zero_le _⟩) hS hA hP hD [0, 1] rfl rfl (fun H locs hP hD hS => ?_)
    have hP : va_P G.1 vwCl [oX8 t_h t_a t_thrown t_taped t_at_22 t_behind_23 t_size t_kind_24 t_number_25 t_wrong_18 t_wrongAt_19 t_faultKind t_faultPlace t_x t_wayLong t_bothLeast, arI G (t_a 3) 900 t_tape, arI G (t_a 4) 186 t_fresh] H := hP
    have hD : va_D A [oX8 t_h t_a t_thrown t_taped t_at_22 t_behind_23 t_size t_kind_24 t_number_25 t_wrong_18 t_wrongAt_19 t_faultKind t_faultPlace t_x t_wayLong t_bothLeast, arI G (t_a 3) 900 t_tape, arI G (t_a 4) 186 t_fresh] := hD
    refine jn_el hf (fun k_35 ek_35 hf => ?_)
    have J52 : ∀ (z_28 : Int32) (t_at_29 : Int32) (t_behind_30 : Int32) (t_kind_31 : Int32) (t_number_32 : Int32) (t_wrong_33 : Int32) (t_wrongAt_34 : Int32) (H : Heap) (locs : List Loc) (ls : Array Slot), va_P G.1 vwCl [oX8 t_h t_a t_thrown t_taped t_at_29 t_behind_30 t_size t_kind_31 t_number_32 t_wrong_33 t_wrongAt_34 t_faultKind t_faultPlace t_x t_wayLong t_bothLeast, arI G (t_a 3) 900 t_tape, arI G (t_a 4) 186 t_fresh] H → va_D A [oX8 t_h t_a t_thrown t_taped t_at_29 t_behind_30 t_size t_kind_31 t_number_32 t_wrong_33 t_wrongAt_34 t_faultKind t_faultPlace t_x t_wayLong t_bothLeast, arI G (t_a 3) 900 t_tape, arI G (t_a 4) 186 t_fresh] → va_S A s.heap H locs → lv_has ls 4 [(0, .ref t_h), (1, .int r_7), (2, .int r_20)] → k_35 z_28 t_at_29 t_behind_30 t_kind_31 t_number_32 t_wrong_33 t_wrongAt_34 = some (o_t_fresh, o_t_at, o_t_behind, o_t_kind, o_t_number, o_t_wrong, o_t_wrongAt) → W p l e ({ frames := 8, cells := 0, slots := 0, locals := 206 } : Room) s m args below meth c H locs 0 0 Q (F0 m 52 ls [.int z_28]) := by
      intro z_28 t_at_29 t_behind_30 t_kind_31 t_number_32 t_wrong_33 t_wrongAt_34 H locs ls hP hD hS hl hf
      rw [ek_35] at hf
      refine lv_istore_n (lv' := [(3, .int z_28), (0, .ref t_h), (1, .int r_7), (2, .int r_20)]) hx hb dX8_readString_52 rfl hl (by decide) rfl (fun ls hl => ?_)
      refine lv_aload_n hx hb dX8_readString_53 rfl (lv_at hl 1 rfl) ?_
      refine lv_bipush (v := 9) hx hb dX8_readString_54 (by decide) ?_
      obtain ⟨r_36, hc_37, hf⟩ := bd1_in hf
      refine rcI (va_runV (As := [.int 9]) (rest := []) ⟨hx, hb, hml, hown, hw⟩ ((ctX8_is l G t_h t_a t_thrown t_taped t_at_29 t_behind_30 t_size t_kind_31 t_number_32 t_wrong_33 t_wrongAt_34 t_faultKind t_faultPlace t_x t_wayLong t_bothLeast 9 _ hc_37) _) (kV hw calX8_is kw_15_7 rfl rfl ⟨Nat.le_of_ble_eq_true rfl, Nat.le_of_ble_eq_true rfl⟩) (rpV (hP.sub (ws' := [oX8 t_h t_a t_thrown t_taped t_at_29 t_behind_30 t_size t_kind_31 t_number_32 t_wrong_33 t_wrongAt_34 t_faultKind t_faultPlace t_x t_wayLong t_bothLeast]) [0] rfl) hK (ci := 8) (q0 := 0) rfl rfl) rfl rfl hl.1 rfl (lv_room (Nat.le_of_ble_eq_true rfl)) dX8_readString_56 ⟨Nat.zero_le _, Nat.zero_le _⟩) hS hA hP (fun H locs hP hS => ?_)
      refine jn_el hf (fun k_40 ek_40 hf => ?_)
      have J105 : ∀ (t_wrong_38 : Int32) (t_wrongAt_39 : Int32) (H : Heap) (locs : List Loc) (ls : Array Slot), va_P G.1 vwCl [oX8 t_h t_a t_thrown t_taped t_at_29 t_behind_30 t_size t_kind_31 t_number_32 t_wrong_38 t_wrongAt_39 t_faultKind t_faultPlace t_x t_wayLong t_bothLeast, arI G (t_a 3) 900 t_tape, arI G (t_a 4) 186 t_fresh] H → va_D A [oX8 t_h t_a t_thrown t_taped t_at_29 t_behind_30 t_size t_kind_31 t_number_32 t_wrong_38 t_wrongAt_39 t_faultKind t_faultPlace t_x t_wayLong t_bothLeast, arI G (t_a 3) 900 t_tape, arI G (t_a 4) 186 t_fresh] → va_S A s.heap H locs → lv_has ls 4 [(0, .ref t_h), (1, .int r_7), (2, .int r_20), (3, .int z_28)] → k_40 t_wrong_38 t_wrongAt_39 = some (o_t_fresh, o_t_at, o_t_behind, o_t_kind, o_t_number, o_t_wrong, o_t_wrongAt) → W p l e ({ frames := 8, cells := 0, slots := 0, locals := 206 } : Room) s m args below meth c H locs 0 0 Q (F0 m 105 ls []) := by
        intro t_wrong_38 t_wrongAt_39 H locs ls hP hD hS hl hf
        rw [ek_40] at hf
        refine lv_aload_n hx hb dX8_readString_105 rfl (lv_at hl 0 rfl) ?_
        refine va_get (D := G.1) (ci := 8) (v := .int t_wrong_38) (C := RX8) (T := TX8) (N := 33) hx hb hw inW8 hown hK.1 hP 0 rfl rfl 11 (by decide) (hw _ kw_13_22) (fun _ h9 => h9) rfl dX8_readString_106 ?_
        refine lv_if_eq (tgt := 113) hx hb dX8_readString_109 (by decide) (fun c_41 => ?_) (fun c_41 => ?_)
        · have hf := ip c_41 hf
          refine lv_aload_n hx hb dX8_readString_113 rfl (lv_at hl 0 rfl) ?_
          refine va_get (D := G.1) (ci := 8) (v := .ref (t_a 4)) (C := RX8) (T := TX8) (N := 33) hx hb hw inW8 hown hK.1 hP 0 rfl rfl 4 (by decide) (hw _ kw_5_14) (fun _ h9 => h9) rfl dX8_readString_114 ?_
          refine lv_iload_n hx hb dX8_readString_117 rfl (lv_at hl 1 rfl) ?_
          refine lv_iload_n hx hb dX8_readString_118 rfl (lv_at hl 2 rfl) ?_
          refine lv_iload_n hx hb dX8_readString_119 rfl (lv_at hl 3 rfl) ?_
          refine lv_iconst (v := 1) hx hb dX8_readString_120 (by decide) ?_
          refine lv_iadd hx hb dX8_readString_121 ?_
          obtain ⟨t_fresh_42, hc_43, hf⟩ := bd1_in hf
          refine wcV (w1 := [arI G (t_a 4) 186 t_fresh_42]) (va_runS (As := [.ref (t_a 4), .int r_7, .int r_20, .int (z_28 + 1)]) (rest := []) ⟨hx, hb, hml, hown, hw⟩ ((ctX8_sets l G 186 (t_a 4) t_fresh r_7 r_20 (z_28 + 1) _ hc_43) _) (kS hw calX8_sets kw_17_10 rfl rfl ⟨Nat.le_of_ble_eq_true rfl, Nat.le_of_ble_eq_true rfl⟩) (wpS (hP.sub (ws' := [arI G (t_a 4) 186 t_fresh]) [2] rfl) (hD.sub (ws' := [arI G (t_a 4) 186 t_fresh]) [2] (by decide) rfl) hK) rfl rfl hl.1 rfl (lv_room (Nat.le_of_ble_eq_true rfl)) dX8_readString_122 ⟨Nat.zero_le _, Nat.zero_le _⟩) hS hA hP hD [2] rfl rfl (fun H locs hP hD hS => ?_)
          have hP : va_P G.1 vwCl [oX8 t_h t_a t_thrown t_taped t_at_29 t_behind_30 t_size t_kind_31 t_number_32 t_wrong_38 t_wrongAt_39 t_faultKind t_faultPlace t_x t_wayLong t_bothLeast, arI G (t_a 3) 900 t_tape, arI G (t_a 4) 186 t_fresh_42] H := hP
          have hD : va_D A [oX8 t_h t_a t_thrown t_taped t_at_29 t_behind_30 t_size t_kind_31 t_number_32 t_wrong_38 t_wrongAt_39 t_faultKind t_faultPlace t_x t_wayLong t_bothLeast, arI G (t_a 3) 900 t_tape, arI G (t_a 4) 186 t_fresh_42] := hD
          exact hRet _ _ _ _ _ _ _ _ _ _ _ hf hP hS dX8_readString_125
        · have hf := iq c_41 hf
          exact hRet _ _ _ _ _ _ _ _ _ _ _ hf hP hS dX8_readString_112
      refine lv_if_ne (tgt := 70) hx hb dX8_readString_59 (by decide) (fun c_44 => ?_) (fun c_44 => ?_)
      · have hf := iq c_44 hf
        refine lv_aload_n hx hb dX8_readString_70 rfl (lv_at hl 1 rfl) ?_
        refine va_get (D := G.1) (ci := 8) (v := .ref (t_a 4)) (C := RX8) (T := TX8) (N := 33) hx hb hw inW8 hown hK.1 hP 0 rfl rfl 4 (by decide) (hw _ kw_5_14) (fun _ h9 => h9) rfl dX8_readString_71 ?_
        refine lv_iload_n hx hb dX8_readString_74 rfl (lv_at hl 2 rfl) ?_
        refine lv_iload_n hx hb dX8_readString_75 rfl (lv_at hl 3 rfl) ?_
        refine jn_el hf (fun k_46 ek_46 hf => ?_)
        have J84 : ∀ (z_45 : Int32) (H : Heap) (locs : List Loc) (ls : Array Slot), va_P G.1 vwCl [oX8 t_h t_a t_thrown t_taped t_at_29 t_behind_30 t_size t_kind_31 t_number_32 t_wrong_33 t_wrongAt_34 t_faultKind t_faultPlace t_x t_wayLong t_bothLeast, arI G (t_a 3) 900 t_tape, arI G (t_a 4) 186 t_fresh] H → va_D A [oX8 t_h t_a t_thrown t_taped t_at_29 t_behind_30 t_size t_kind_31 t_number_32 t_wrong_33 t_wrongAt_34 t_faultKind t_faultPlace t_x t_wayLong t_bothLeast, arI G (t_a 3) 900 t_tape, arI G (t_a 4) 186 t_fresh] → va_S A s.heap H locs → lv_has ls 4 [(0, .ref t_h), (1, .int r_7), (2, .int r_20), (3, .int z_28)] → k_46 z_45 = some (o_t_fresh, o_t_at, o_t_behind, o_t_kind, o_t_number, o_t_wrong, o_t_wrongAt) → W p l e ({ frames := 8, cells := 0, slots := 0, locals := 206 } : Room) s m args below meth c H locs 0 0 Q (F0 m 84 ls [.int z_45, .ref (t_a 4)]) := by
          intro z_45 H locs ls hP hD hS hl hf
          rw [ek_46] at hf
          refine lv_iload_n hx hb dX8_readString_84 rfl (lv_at hl 1 rfl) ?_
          refine lv_iload_n hx hb dX8_readString_85 rfl (lv_at hl 2 rfl) ?_
          refine jn_el hf (fun k_48 ek_48 hf => ?_)
          have J94 : ∀ (z_47 : Int32) (H : Heap) (locs : List Loc) (ls : Array Slot), va_P G.1 vwCl [oX8 t_h t_a t_thrown t_taped t_at_29 t_behind_30 t_size t_kind_31 t_number_32 t_wrong_33 t_wrongAt_34 t_faultKind t_faultPlace t_x t_wayLong t_bothLeast, arI G (t_a 3) 900 t_tape, arI G (t_a 4) 186 t_fresh] H → va_D A [oX8 t_h t_a t_thrown t_taped t_at_29 t_behind_30 t_size t_kind_31 t_number_32 t_wrong_33 t_wrongAt_34 t_faultKind t_faultPlace t_x t_wayLong t_bothLeast, arI G (t_a 3) 900 t_tape, arI G (t_a 4) 186 t_fresh] → va_S A s.heap H locs → lv_has ls 4 [(0, .ref t_h), (1, .int r_7), (2, .int r_20), (3, .int z_28)] → k_48 z_47 = some (o_t_fresh, o_t_at, o_t_behind, o_t_kind, o_t_number, o_t_wrong, o_t_wrongAt) → W p l e ({ frames := 8, cells := 0, slots := 0, locals := 206 } : Room) s m args below meth c H locs 0 0 Q (F0 m 94 ls [.int z_47, .int z_45, .ref (t_a 4)]) := by
            intro z_47 H locs ls hP hD hS hl hf
            rw [ek_48] at hf
            obtain ⟨r_49, hc_50, hf⟩ := bd1_in hf
            refine rcI (va_runS (As := [.ref (t_a 4), .int z_45, .int z_47]) (rest := []) ⟨hx, hb, hml, hown, hw⟩ ((ctX8_refusesIn l G 186 (t_a 4) t_fresh z_45 z_47 _ hc_50) _) (kS hw calX8_refusesIn kw_16_22 rfl rfl ⟨Nat.le_of_ble_eq_true rfl, Nat.le_of_ble_eq_true rfl⟩) (rpS (hP.sub (ws' := [arI G (t_a 4) 186 t_fresh]) [2] rfl) hK) rfl rfl hl.1 rfl (lv_room (Nat.le_of_ble_eq_true rfl)) dX8_readString_94 ⟨Nat.zero_le _, Nat.zero_le _⟩) hS hA hP (fun H locs hP hS => ?_)
            refine lv_if_eq (tgt := 105) hx hb dX8_readString_97 (by decide) (fun c_51 => ?_) (fun c_51 => ?_)
            · have hf := ip c_51 hf
              exact J105 _ _ _ _ _ hP hD hS (lv_sub hl [0, 1, 2, 3] rfl) hf
            · have hf := iq c_51 hf
              refine lv_aload_n hx hb dX8_readString_100 rfl (lv_at hl 0 rfl) ?_
              refine lv_iconst (v := 5) hx hb dX8_readString_101 (by decide) ?_
              obtain ⟨t_wrong_52, t_wrongAt_53, hc_54, hf⟩ := bd2_in hf
              refine wcV (w1 := [oX8 t_h t_a t_thrown t_taped t_at_29 t_behind_30 t_size t_kind_31 t_number_32 t_wrong_52 t_wrongAt_53 t_faultKind t_faultPlace t_x t_wayLong t_bothLeast]) (va_runV (As := [.int 5]) (rest := []) ⟨hx, hb, hml, hown, hw⟩ ((ctX8_fails l G t_h t_a t_thrown t_taped t_at_29 t_behind_30 t_size t_kind_31 t_number_32 t_wrong_33 t_wrongAt_34 t_faultKind t_faultPlace t_x t_wayLong t_bothLeast 5 _ _ hc_54) _) (kV hw calX8_fails kw_15_15 rfl rfl ⟨Nat.le_of_ble_eq_true rfl, Nat.le_of_ble_eq_true rfl⟩) (wpV (hP.sub (ws' := [oX8 t_h t_a t_thrown t_taped t_at_29 t_behind_30 t_size t_kind_31 t_number_32 t_wrong_33 t_wrongAt_34 t_faultKind t_faultPlace t_x t_wayLong t_bothLeast]) [0] rfl) (hD.sub (ws' := [oX8 t_h t_a t_thrown t_taped t_at_29 t_behind_30 t_size t_kind_31 t_number_32 t_wrong_33 t_wrongAt_34 t_faultKind t_faultPlace t_x t_wayLong t_bothLeast]) [0] (by decide) rfl) hK (ci := 8) (q0 := 0) rfl rfl) rfl rfl hl.1 rfl (lv_room (Nat.le_of_ble_eq_true rfl)) dX8_readString_102 ⟨Nat.zero_le _, Nat.zero_le _⟩) hS hA hP hD [0] rfl rfl (fun H locs hP hD hS => ?_)
              have hP : va_P G.1 vwCl [oX8 t_h t_a t_thrown t_taped t_at_29 t_behind_30 t_size t_kind_31 t_number_32 t_wrong_52 t_wrongAt_53 t_faultKind t_faultPlace t_x t_wayLong t_bothLeast, arI G (t_a 3) 900 t_tape, arI G (t_a 4) 186 t_fresh] H := hP
              have hD : va_D A [oX8 t_h t_a t_thrown t_taped t_at_29 t_behind_30 t_size t_kind_31 t_number_32 t_wrong_52 t_wrongAt_53 t_faultKind t_faultPlace t_x t_wayLong t_bothLeast, arI G (t_a 3) 900 t_tape, arI G (t_a 4) 186 t_fresh] := hD
              exact J105 _ _ _ _ _ hP hD hS (lv_sub hl [0, 1, 2, 3] rfl) hf
          refine lv_icmp_ge (tgt := 93) hx hb dX8_readString_86 (by decide) (fun c_55 => ?_) (fun c_55 => ?_)
          · have hf := ip c_55 hf
            refine lv_iload_n hx hb dX8_readString_93 rfl (lv_at hl 1 rfl) ?_
            exact J94 _ _ _ _ hP hD hS (lv_sub hl [0, 1, 2, 3] rfl) hf
          · have hf := iq c_55 hf
            refine lv_iload_n hx hb dX8_readString_89 rfl (lv_at hl 2 rfl) ?_
            refine lv_goto (tgt := 94) hx hb dX8_readString_90 (by decide) ?_
            exact J94 _ _ _ _ hP hD hS (lv_sub hl [0, 1, 2, 3] rfl) hf
        refine lv_icmp_ge (tgt := 83) hx hb dX8_readString_76 (by decide) (fun c_56 => ?_) (fun c_56 => ?_)
        · have hf := ip c_56 hf
          refine lv_iload_n hx hb dX8_readString_83 rfl (lv_at hl 3 rfl) ?_
          exact J84 _ _ _ _ hP hD hS (lv_sub hl [1, 2, 3, 0] rfl) hf
        · have hf := iq c_56 hf
          refine lv_iload_n hx hb dX8_readString_79 rfl (lv_at hl 2 rfl) ?_
          refine lv_goto (tgt := 84) hx hb dX8_readString_80 (by decide) ?_
          exact J84 _ _ _ _ hP hD hS (lv_sub hl [1, 2, 3, 0] rfl) hf
      · have hf := ip c_44 hf
        refine lv_aload_n hx hb dX8_readString_62 rfl (lv_at hl 1 rfl) ?_
        refine lv_iconst (v := 2) hx hb dX8_readString_63 (by decide) ?_
        obtain ⟨t_wrong_57, t_wrongAt_58, hc_59, hf⟩ := bd2_in hf
        refine wcV (w1 := [oX8 t_h t_a t_thrown t_taped t_at_29 t_behind_30 t_size t_kind_31 t_number_32 t_wrong_57 t_wrongAt_58 t_faultKind t_faultPlace t_x t_wayLong t_bothLeast]) (va_runV (As := [.int 2]) (rest := []) ⟨hx, hb, hml, hown, hw⟩ ((ctX8_fails l G t_h t_a t_thrown t_taped t_at_29 t_behind_30 t_size t_kind_31 t_number_32 t_wrong_33 t_wrongAt_34 t_faultKind t_faultPlace t_x t_wayLong t_bothLeast 2 _ _ hc_59) _) (kV hw calX8_fails kw_15_15 rfl rfl ⟨Nat.le_of_ble_eq_true rfl, Nat.le_of_ble_eq_true rfl⟩) (wpV (hP.sub (ws' := [oX8 t_h t_a t_thrown t_taped t_at_29 t_behind_30 t_size t_kind_31 t_number_32 t_wrong_33 t_wrongAt_34 t_faultKind t_faultPlace t_x t_wayLong t_bothLeast]) [0] rfl) (hD.sub (ws' := [oX8 t_h t_a t_thrown t_taped t_at_29 t_behind_30 t_size t_kind_31 t_number_32 t_wrong_33 t_wrongAt_34 t_faultKind t_faultPlace t_x t_wayLong t_bothLeast]) [0] (by decide) rfl) hK (ci := 8) (q0 := 0) rfl rfl) rfl rfl hl.1 rfl (lv_room (Nat.le_of_ble_eq_true rfl)) dX8_readString_64 ⟨Nat.zero_le _, Nat.zero_le _⟩) hS hA hP hD [0] rfl rfl (fun H locs hP hD hS => ?_)
        have hP : va_P G.1 vwCl [oX8 t_h t_a t_thrown t_taped t_at_29 t_behind_30 t_size t_kind_31 t_number_32 t_wrong_57 t_wrongAt_58 t_faultKind t_faultPlace t_x t_wayLong t_bothLeast, arI G (t_a 3) 900 t_tape, arI G (t_a 4) 186 t_fresh] H := hP
        have hD : va_D A [oX8 t_h t_a t_thrown t_taped t_at_29 t_behind_30 t_size t_kind_31 t_number_32 t_wrong_57 t_wrongAt_58 t_faultKind t_faultPlace t_x t_wayLong t_bothLeast, arI G (t_a 3) 900 t_tape, arI G (t_a 4) 186 t_fresh] := hD
        refine lv_goto (tgt := 105) hx hb dX8_readString_67 (by decide) ?_
        exact J105 _ _ _ _ _ hP hD hS (lv_sub hl [1, 2, 3, 0] rfl) hf
    refine lv_if_eq (tgt := 51) hx hb dX8_readString_38 (by decide) (fun c_60 => ?_) (fun c_60 => ?_)
    · have hf := ip c_60 hf
      refine lv_iconst (v := 0) hx hb dX8_readString_51 (by decide) ?_
      exact J52 _ _ _ _ _ _ _ _ _ _ hP hD hS (lv_sub hl [1, 2, 0] rfl) hf
    · have hf := iq c_60 hf
      refine lv_aload_n hx hb dX8_readString_41 rfl (lv_at hl 1 rfl) ?_
      refine lv_iconst (v := 0) hx hb dX8_readString_42 (by decide) ?_
      refine lv_bipush (v := 9) hx hb dX8_readString_43 (by decide) ?_
      obtain ⟨r_67, t_at_61, t_behind_62, t_kind_63, t_number_64, t_wrong_65, t_wrongAt_66, hc_68, hf⟩ := bd7_in hf
      refine wcI (w1 := [oX8 t_h t_a t_thrown t_taped t_at_61 t_behind_62 t_size t_kind_63 t_number_64 t_wrong_65 t_wrongAt_66 t_faultKind t_faultPlace t_x t_wayLong t_bothLeast, arI G (t_a 3) 900 t_tape]) (va_runV (As := [.int 0, .int 9]) (rest := []) ⟨hx, hb, hml, hown, hw⟩ ((ctX8_takes l G ad av t_h t_a t_thrown t_tape t_taped t_at_22 t_behind_23 t_size t_kind_24 t_number_25 t_wrong_18 t_wrongAt_19 t_faultKind t_faultPlace t_x t_wayLong t_bothLeast 0 9 _ _ _ _ _ _ _ hc_68) _) (kV hw calX8_takes kw_15_19 rfl rfl ⟨Nat.le_of_ble_eq_true rfl, Nat.le_of_ble_eq_true rfl⟩) (wsPV (hP.sub (ws' := [oX8 t_h t_a t_thrown t_taped t_at_22 t_behind_23 t_size t_kind_24 t_number_25 t_wrong_18 t_wrongAt_19 t_faultKind t_faultPlace t_x t_wayLong t_bothLeast, arI G (t_a 3) 900 t_tape]) [0, 1] rfl) (hD.sub (ws' := [oX8 t_h t_a t_thrown t_taped t_at_22 t_behind_23 t_size t_kind_24 t_number_25 t_wrong_18 t_wrongAt_19 t_faultKind t_faultPlace t_x t_wayLong t_bothLeast, arI G (t_a 3) 900 t_tape]) [0, 1] (by decide) rfl) hE hS (va_free (wc := [oX8 t_h t_a t_thrown t_taped t_at_22 t_behind_23 t_size t_kind_24 t_number_25 t_wrong_18 t_wrongAt_19 t_faultKind t_faultPlace t_x t_wayLong t_bothLeast, arI G (t_a 3) 900 t_tape]) hD hS hA [0, 1] rfl) hK (ci := 8) (q0 := 0) rfl rfl) rfl rfl hl.1 rfl (lv_room (Nat.le_of_ble_eq_true rfl)) dX8_readString_45 ⟨Nat.zero_le _, Nat.zero_le _⟩) hS hA hP hD [0, 1] rfl rfl (fun H locs hP hD hS => ?_)
      have hP : va_P G.1 vwCl [oX8 t_h t_a t_thrown t_taped t_at_61 t_behind_62 t_size t_kind_63 t_number_64 t_wrong_65 t_wrongAt_66 t_faultKind t_faultPlace t_x t_wayLong t_bothLeast, arI G (t_a 3) 900 t_tape, arI G (t_a 4) 186 t_fresh] H := hP
      have hD : va_D A [oX8 t_h t_a t_thrown t_taped t_at_61 t_behind_62 t_size t_kind_63 t_number_64 t_wrong_65 t_wrongAt_66 t_faultKind t_faultPlace t_x t_wayLong t_bothLeast, arI G (t_a 3) 900 t_tape, arI G (t_a 4) 186 t_fresh] := hD
      refine lv_goto (tgt := 52) hx hb dX8_readString_48 (by decide) ?_
      exact J52 _ _ _ _ _ _ _ _ _ _ hP hD hS (lv_sub hl [1, 2, 0] rfl) hf
  refine lv_if_eq (tgt := 27) hx hb dX8_readString_11 (by decide) (fun c_69 => ?_) (fun c_69 => ?_)
  · have hf := ip c_69 hf
    exact J27 _ _ _ _ _ hP hD hS (lv_sub hl [1, 0] rfl) hf
  · have hf := iq c_69 hf
    refine lv_aload_n hx hb dX8_readString_14 rfl (lv_at hl 1 rfl) ?_
    refine va_get (D := G.1) (ci := 8) (v := .int t_number_4) (C := RX8) (T := TX8) (N := 33) hx hb hw inW8 hown hK.1 hP 0 rfl rfl 10 (by decide) (hw _ kw_14_10) (fun _ h9 => h9) rfl dX8_readString_15 ?_
    refine lv_iload_n hx hb dX8_readString_18 rfl (lv_at hl 0 rfl) ?_
    refine lv_icmp_ne (tgt := 27) hx hb dX8_readString_19 (by decide) (fun c_70 => ?_) (fun c_70 => ?_)
    · have hf := iq c_70 hf
      exact J27 _ _ _ _ _ hP hD hS (lv_sub hl [1, 0] rfl) hf
    · have hf := ip c_70 hf
      refine lv_aload_n hx hb dX8_readString_22 rfl (lv_at hl 1 rfl) ?_
      refine lv_iconst (v := 3) hx hb dX8_readString_23 (by decide) ?_
      obtain ⟨t_wrong_71, t_wrongAt_72, hc_73, hf⟩ := bd2_in hf
      refine wcV (w1 := [oX8 t_h t_a t_thrown t_taped t_at_1 t_behind_2 t_size t_kind_3 t_number_4 t_wrong_71 t_wrongAt_72 t_faultKind t_faultPlace t_x t_wayLong t_bothLeast]) (va_runV (As := [.int 3]) (rest := []) ⟨hx, hb, hml, hown, hw⟩ ((ctX8_fails l G t_h t_a t_thrown t_taped t_at_1 t_behind_2 t_size t_kind_3 t_number_4 t_wrong_5 t_wrongAt_6 t_faultKind t_faultPlace t_x t_wayLong t_bothLeast 3 _ _ hc_73) _) (kV hw calX8_fails kw_15_15 rfl rfl ⟨Nat.le_of_ble_eq_true rfl, Nat.le_of_ble_eq_true rfl⟩) (wpV (hP.sub (ws' := [oX8 t_h t_a t_thrown t_taped t_at_1 t_behind_2 t_size t_kind_3 t_number_4 t_wrong_5 t_wrongAt_6 t_faultKind t_faultPlace t_x t_wayLong t_bothLeast]) [0] rfl) (hD.sub (ws' := [oX8 t_h t_a t_thrown t_taped t_at_1 t_behind_2 t_size t_kind_3 t_number_4 t_wrong_5 t_wrongAt_6 t_faultKind t_faultPlace t_x t_wayLong t_bothLeast]) [0] (by decide) rfl) hK (ci := 8) (q0 := 0) rfl rfl) rfl rfl hl.1 rfl (lv_room (Nat.le_of_ble_eq_true rfl)) dX8_readString_24 ⟨Nat.zero_le _, Nat.zero_le _⟩) hS hA hP hD [0] rfl rfl (fun H locs hP hD hS => ?_)
      have hP : va_P G.1 vwCl [oX8 t_h t_a t_thrown t_taped t_at_1 t_behind_2 t_size t_kind_3 t_number_4 t_wrong_71 t_wrongAt_72 t_faultKind t_faultPlace t_x t_wayLong t_bothLeast, arI G (t_a 3) 900 t_tape, arI G (t_a 4) 186 t_fresh] H := hP
      have hD : va_D A [oX8 t_h t_a t_thrown t_taped t_at_1 t_behind_2 t_size t_kind_3 t_number_4 t_wrong_71 t_wrongAt_72 t_faultKind t_faultPlace t_x t_wayLong t_bothLeast, arI G (t_a 3) 900 t_tape, arI G (t_a 4) 186 t_fresh] := hD
      exact J27 _ _ _ _ _ hP hD hS (lv_sub hl [1, 0] rfl) hf
theorem calX8_readLine : CalV yX8_readLine cX8_readLine 1 none 0 := ⟨⟨kw_15_6, kw_1_5, by decide +kernel⟩, kw_15_4, kw_15_5⟩
set_option maxHeartbeats 8000000 in
set_option maxRecDepth 100000 in
theorem ctX8_readLine (l : Launch) (G : GT) (ad : Nat → Nat) (av : Nat → Nat) (t_h : Nat) (t_a : Nat → Nat) (t_thrown : Int32) (t_tape : Nat → Int32) (t_fresh : Nat → Int32) (t_taped : Int32) (t_at : Int32) (t_behind : Int32) (t_size : Int32) (t_kind : Int32) (t_number : Int32) (t_wrong : Int32) (t_wrongAt : Int32) (t_faultKind : Int32) (t_faultPlace : Int32) (t_x : Int32) (t_wayLong : Int32) (t_bothLeast : Int32) (o_t_fresh : Nat → Int32) (o_t_at : Int32) (o_t_behind : Int32) (o_t_kind : Int32) (o_t_number : Int32) (o_t_wrong : Int32) (o_t_wrongAt : Int32) (hf : fX8_readLine t_tape t_fresh t_at t_behind t_size t_kind t_number t_wrong t_wrongAt = some (o_t_fresh, o_t_at, o_t_behind, o_t_kind, o_t_number, o_t_wrong, o_t_wrongAt)) : WsV l yX8_readLine (Cond.code yX8_readLine cX8_readLine 1 none) { frames := 9, cells := 0, slots := 0, locals := 231 } G ad av [.ref t_h] [oX8 t_h t_a t_thrown t_taped t_at t_behind t_size t_kind t_number t_wrong t_wrongAt t_faultKind t_faultPlace t_x t_wayLong t_bothLeast, arI G (t_a 3) 900 t_tape, arI G (t_a 4) 186 t_fresh] [oX8 t_h t_a t_thrown t_taped o_t_at o_t_behind t_size o_t_kind o_t_number o_t_wrong o_t_wrongAt t_faultKind t_faultPlace t_x t_wayLong t_bothLeast, arI G (t_a 3) 900 t_tape, arI G (t_a 4) 186 o_t_fresh] := by
  intro sz
  refine Met.ofW (cc := cX8_readLine) (maxL := 1) (ret := none) (by decide) rfl ?_
  intro p e s m args below meth c s₁ B hml hv
  obtain ⟨hargs, hsz, hP, hD0, hE0, hK⟩ := hv
  subst hsz
  obtain ⟨hx, hb, hr, hw, hown, hlk⟩ := fwB B
  refine fw_enter hargs (Nat.le_of_ble_eq_true rfl) (fun ls hl => ?_)
  have hl : lv_has ls 1 [(0, .ref t_h)] := hl
  refine fw_Q (P := fun Q => ∃ A : Nat → Prop, va_D A [oX8 t_h t_a t_thrown t_taped t_at t_behind t_size t_kind t_number t_wrong t_wrongAt t_faultKind t_faultPlace t_x t_wayLong t_bothLeast, arI G (t_a 3) 900 t_tape, arI G (t_a 4) 186 t_fresh] ∧ va_S A s.heap s.heap [] ∧ (∀ q, s.heap.size ≤ q → A q) ∧ SE ad av A s s.heap ∧ ∀ (n_t_fresh : Nat → Int32) (n_t_at : Int32) (n_t_behind : Int32) (n_t_kind : Int32) (n_t_number : Int32) (n_t_wrong : Int32) (n_t_wrongAt : Int32) (H : Heap) (locs : List Loc) (pc : Nat) (ls : Array Slot), some (n_t_fresh, n_t_at, n_t_behind, n_t_kind, n_t_number, n_t_wrong, n_t_wrongAt) = some (o_t_fresh, o_t_at, o_t_behind, o_t_kind, o_t_number, o_t_wrong, o_t_wrongAt) → va_P G.1 vwCl [oX8 t_h t_a t_thrown t_taped n_t_at n_t_behind t_size n_t_kind n_t_number n_t_wrong n_t_wrongAt t_faultKind t_faultPlace t_x t_wayLong t_bothLeast, arI G (t_a 3) 900 t_tape, arI G (t_a 4) 186 n_t_fresh] H → va_S A s.heap H locs → decode cX8_readLine pc = .ok (.return_, 1) → W p l e ({ frames := 9, cells := 0, slots := 0, locals := 231 } : Room) s m args below meth c H locs 0 0 Q (F0 m pc ls [])) ⟨va_A [oX8 t_h t_a t_thrown t_taped t_at t_behind t_size t_kind t_number t_wrong t_wrongAt t_faultKind t_faultPlace t_x t_wayLong t_bothLeast, arI G (t_a 3) 900 t_tape, arI G (t_a 4) 186 t_fresh] s.heap.size, hD0.self (sz := s.heap.size), va_S.rf, fun q h => Or.inr h, hE0, ?_⟩ ?_
  · intro n_t_fresh n_t_at n_t_behind n_t_kind n_t_number n_t_wrong n_t_wrongAt H locs pc ls h hP hS hd
    cases h
    exact retWV hx hb hr hlk hS hP hd
  rintro Q ⟨A, hD, hS, hA, hE, hRet⟩
  change W p l e ({ frames := 9, cells := 0, slots := 0, locals := 231 } : Room) s m args below meth c _ _ 0 0 Q _
  unfold fX8_readLine at hf
  refine lv_aload_n hx hb dX8_readLine_0 rfl (lv_at hl 0 rfl) ?_
  refine lv_iconst (v := 0) hx hb dX8_readLine_1 (by decide) ?_
  obtain ⟨r_1, hc_2, hf⟩ := bd1_in hf
  refine rcI (va_runV (As := [.int 0]) (rest := []) ⟨hx, hb, hml, hown, hw⟩ ((ctX8_is l G t_h t_a t_thrown t_taped t_at t_behind t_size t_kind t_number t_wrong t_wrongAt t_faultKind t_faultPlace t_x t_wayLong t_bothLeast 0 _ hc_2) _) (kV hw calX8_is kw_15_7 rfl rfl ⟨Nat.le_of_ble_eq_true rfl, Nat.le_of_ble_eq_true rfl⟩) (rpV (hP.sub (ws' := [oX8 t_h t_a t_thrown t_taped t_at t_behind t_size t_kind t_number t_wrong t_wrongAt t_faultKind t_faultPlace t_x t_wayLong t_bothLeast]) [0] rfl) hK (ci := 8) (q0 := 0) rfl rfl) rfl rfl hl.1 rfl (lv_room (Nat.le_of_ble_eq_true rfl)) dX8_readLine_2 ⟨Nat.zero_le _, Nat.zero_le _⟩) hS hA hP (fun H locs hP hS => ?_)
  refine jn_el hf (fun k_10 ek_10 hf => ?_)
  have J131 : ∀ (t_fresh_3 : Nat → Int32) (t_at_4 : Int32) (t_behind_5 : Int32) (t_kind_6 : Int32) (t_number_7 : Int32) (t_wrong_8 : Int32) (t_wrongAt_9 : Int32) (H : Heap) (locs : List Loc) (ls : Array Slot), va_P G.1 vwCl [oX8 t_h t_a t_thrown t_taped t_at_4 t_behind_5 t_size t_kind_6 t_number_7 t_wrong_8 t_wrongAt_9 t_faultKind t_faultPlace t_x t_wayLong t_bothLeast, arI G (t_a 3) 900 t_tape, arI G (t_a 4) 186 t_fresh_3] H → va_D A [oX8 t_h t_a t_thrown t_taped t_at_4 t_behind_5 t_size t_kind_6 t_number_7 t_wrong_8 t_wrongAt_9 t_faultKind t_faultPlace t_x t_wayLong t_bothLeast, arI G (t_a 3) 900 t_tape, arI G (t_a 4) 186 t_fresh_3] → va_S A s.heap H locs → lv_has ls 1 [(0, .ref t_h)] → k_10 t_fresh_3 t_at_4 t_behind_5 t_kind_6 t_number_7 t_wrong_8 t_wrongAt_9 = some (o_t_fresh, o_t_at, o_t_behind, o_t_kind, o_t_number, o_t_wrong, o_t_wrongAt) → W p l e ({ frames := 9, cells := 0, slots := 0, locals := 231 } : Room) s m args below meth c H locs 0 0 Q (F0 m 131 ls []) := by
    intro t_fresh_3 t_at_4 t_behind_5 t_kind_6 t_number_7 t_wrong_8 t_wrongAt_9 H locs ls hP hD hS hl hf
    rw [ek_10] at hf
    refine lv_aload_n hx hb dX8_readLine_131 rfl (lv_at hl 0 rfl) ?_
    refine lv_bipush (v := 9) hx hb dX8_readLine_132 (by decide) ?_
    obtain ⟨r_15, t_at_11, t_behind_12, t_kind_13, t_number_14, hc_16, hf⟩ := bd5_in hf
    refine wcI (w1 := [oX8 t_h t_a t_thrown t_taped t_at_11 t_behind_12 t_size t_kind_13 t_number_14 t_wrong_8 t_wrongAt_9 t_faultKind t_faultPlace t_x t_wayLong t_bothLeast, arI G (t_a 3) 900 t_tape]) (va_runV (As := [.int 9]) (rest := []) ⟨hx, hb, hml, hown, hw⟩ ((ctX8_eats l G ad av t_h t_a t_thrown t_tape t_taped t_at_4 t_behind_5 t_size t_kind_6 t_number_7 t_wrong_8 t_wrongAt_9 t_faultKind t_faultPlace t_x t_wayLong t_bothLeast 9 _ _ _ _ _ hc_16) _) (kV hw calX8_eats kw_16_10 rfl rfl ⟨Nat.le_of_ble_eq_true rfl, Nat.le_of_ble_eq_true rfl⟩) (wsPV (hP.sub (ws' := [oX8 t_h t_a t_thrown t_taped t_at_4 t_behind_5 t_size t_kind_6 t_number_7 t_wrong_8 t_wrongAt_9 t_faultKind t_faultPlace t_x t_wayLong t_bothLeast, arI G (t_a 3) 900 t_tape]) [0, 1] rfl) (hD.sub (ws' := [oX8 t_h t_a t_thrown t_taped t_at_4 t_behind_5 t_size t_kind_6 t_number_7 t_wrong_8 t_wrongAt_9 t_faultKind t_faultPlace t_x t_wayLong t_bothLeast, arI G (t_a 3) 900 t_tape]) [0, 1] (by decide) rfl) hE hS (va_free (wc := [oX8 t_h t_a t_thrown t_taped t_at_4 t_behind_5 t_size t_kind_6 t_number_7 t_wrong_8 t_wrongAt_9 t_faultKind t_faultPlace t_x t_wayLong t_bothLeast, arI G (t_a 3) 900 t_tape]) hD hS hA [0, 1] rfl) hK (ci := 8) (q0 := 0) rfl rfl) rfl rfl hl.1 rfl (lv_room (Nat.le_of_ble_eq_true rfl)) dX8_readLine_134 ⟨Nat.zero_le _, Nat.zero_le _⟩) hS hA hP hD [0, 1] rfl rfl (fun H locs hP hD hS => ?_)
    have hP : va_P G.1 vwCl [oX8 t_h t_a t_thrown t_taped t_at_11 t_behind_12 t_size t_kind_13 t_number_14 t_wrong_8 t_wrongAt_9 t_faultKind t_faultPlace t_x t_wayLong t_bothLeast, arI G (t_a 3) 900 t_tape, arI G (t_a 4) 186 t_fresh_3] H := hP
    have hD : va_D A [oX8 t_h t_a t_thrown t_taped t_at_11 t_behind_12 t_size t_kind_13 t_number_14 t_wrong_8 t_wrongAt_9 t_faultKind t_faultPlace t_x t_wayLong t_bothLeast, arI G (t_a 3) 900 t_tape, arI G (t_a 4) 186 t_fresh_3] := hD
    refine jn_el hf (fun k_19 ek_19 hf => ?_)
    have J145 : ∀ (t_wrong_17 : Int32) (t_wrongAt_18 : Int32) (H : Heap) (locs : List Loc) (ls : Array Slot), va_P G.1 vwCl [oX8 t_h t_a t_thrown t_taped t_at_11 t_behind_12 t_size t_kind_13 t_number_14 t_wrong_17 t_wrongAt_18 t_faultKind t_faultPlace t_x t_wayLong t_bothLeast, arI G (t_a 3) 900 t_tape, arI G (t_a 4) 186 t_fresh_3] H → va_D A [oX8 t_h t_a t_thrown t_taped t_at_11 t_behind_12 t_size t_kind_13 t_number_14 t_wrong_17 t_wrongAt_18 t_faultKind t_faultPlace t_x t_wayLong t_bothLeast, arI G (t_a 3) 900 t_tape, arI G (t_a 4) 186 t_fresh_3] → va_S A s.heap H locs → lv_has ls 1 [(0, .ref t_h)] → k_19 t_wrong_17 t_wrongAt_18 = some (o_t_fresh, o_t_at, o_t_behind, o_t_kind, o_t_number, o_t_wrong, o_t_wrongAt) → W p l e ({ frames := 9, cells := 0, slots := 0, locals := 231 } : Room) s m args below meth c H locs 0 0 Q (F0 m 145 ls []) := by
      intro t_wrong_17 t_wrongAt_18 H locs ls hP hD hS hl hf
      rw [ek_19] at hf
      refine lv_aload_n hx hb dX8_readLine_145 rfl (lv_at hl 0 rfl) ?_
      refine va_get (D := G.1) (ci := 8) (v := .ref (t_a 4)) (C := RX8) (T := TX8) (N := 33) hx hb hw inW8 hown hK.1 hP 0 rfl rfl 4 (by decide) (hw _ kw_5_14) (fun _ h9 => h9) rfl dX8_readLine_146 ?_
      refine lv_iconst (v := 5) hx hb dX8_readLine_149 (by decide) ?_
      refine lv_dup2_11 hx hb dX8_readLine_150 rfl rfl ?_
      obtain ⟨hi_21, hf⟩ := rdI_in hf
      refine va_iald hx hb hK.1 hP 2 0 rfl rfl hi_21 dX8_readLine_151 ?_
      refine lv_topi (fun x_20 ex_20 => ?_)
      have hf := hf x_20 ex_20
      refine lv_iconst (v := 1) hx hb dX8_readLine_152 (by decide) ?_
      refine lv_iadd hx hb dX8_readLine_153 ?_
      obtain ⟨hi_23, hf⟩ := wrI_in hf
      refine xiast hx hb hK.1 hP hD hS 2 0 rfl rfl hi_23 dX8_readLine_154 (fun t_fresh_22 H locs et_fresh_22 hP hD hS => ?_)
      have hf := hf t_fresh_22 et_fresh_22
      have hP : va_P G.1 vwCl [oX8 t_h t_a t_thrown t_taped t_at_11 t_behind_12 t_size t_kind_13 t_number_14 t_wrong_17 t_wrongAt_18 t_faultKind t_faultPlace t_x t_wayLong t_bothLeast, arI G (t_a 3) 900 t_tape, arI G (t_a 4) 186 t_fresh_22] H := hP
      have hD : va_D A [oX8 t_h t_a t_thrown t_taped t_at_11 t_behind_12 t_size t_kind_13 t_number_14 t_wrong_17 t_wrongAt_18 t_faultKind t_faultPlace t_x t_wayLong t_bothLeast, arI G (t_a 3) 900 t_tape, arI G (t_a 4) 186 t_fresh_22] := hD
      exact hRet _ _ _ _ _ _ _ _ _ _ _ hf hP hS dX8_readLine_155
    refine lv_if_ne (tgt := 145) hx hb dX8_readLine_137 (by decide) (fun c_24 => ?_) (fun c_24 => ?_)
    · have hf := iq c_24 hf
      exact J145 _ _ _ _ _ hP hD hS (lv_sub hl [0] rfl) hf
    · have hf := ip c_24 hf
      refine lv_aload_n hx hb dX8_readLine_140 rfl (lv_at hl 0 rfl) ?_
      refine lv_iconst (v := 2) hx hb dX8_readLine_141 (by decide) ?_
      obtain ⟨t_wrong_25, t_wrongAt_26, hc_27, hf⟩ := bd2_in hf
      refine wcV (w1 := [oX8 t_h t_a t_thrown t_taped t_at_11 t_behind_12 t_size t_kind_13 t_number_14 t_wrong_25 t_wrongAt_26 t_faultKind t_faultPlace t_x t_wayLong t_bothLeast]) (va_runV (As := [.int 2]) (rest := []) ⟨hx, hb, hml, hown, hw⟩ ((ctX8_fails l G t_h t_a t_thrown t_taped t_at_11 t_behind_12 t_size t_kind_13 t_number_14 t_wrong_8 t_wrongAt_9 t_faultKind t_faultPlace t_x t_wayLong t_bothLeast 2 _ _ hc_27) _) (kV hw calX8_fails kw_15_15 rfl rfl ⟨Nat.le_of_ble_eq_true rfl, Nat.le_of_ble_eq_true rfl⟩) (wpV (hP.sub (ws' := [oX8 t_h t_a t_thrown t_taped t_at_11 t_behind_12 t_size t_kind_13 t_number_14 t_wrong_8 t_wrongAt_9 t_faultKind t_faultPlace t_x t_wayLong t_bothLeast]) [0] rfl) (hD.sub (ws' := [oX8 t_h t_a t_thrown t_taped t_at_11 t_behind_12 t_size t_kind_13 t_number_14 t_wrong_8 t_wrongAt_9 t_faultKind t_faultPlace t_x t_wayLong t_bothLeast]) [0] (by decide) rfl) hK (ci := 8) (q0 := 0) rfl rfl) rfl rfl hl.1 rfl (lv_room (Nat.le_of_ble_eq_true rfl)) dX8_readLine_142 ⟨Nat.zero_le _, Nat.zero_le _⟩) hS hA hP hD [0] rfl rfl (fun H locs hP hD hS => ?_)
      have hP : va_P G.1 vwCl [oX8 t_h t_a t_thrown t_taped t_at_11 t_behind_12 t_size t_kind_13 t_number_14 t_wrong_25 t_wrongAt_26 t_faultKind t_faultPlace t_x t_wayLong t_bothLeast, arI G (t_a 3) 900 t_tape, arI G (t_a 4) 186 t_fresh_3] H := hP
      have hD : va_D A [oX8 t_h t_a t_thrown t_taped t_at_11 t_behind_12 t_size t_kind_13 t_number_14 t_wrong_25 t_wrongAt_26 t_faultKind t_faultPlace t_x t_wayLong t_bothLeast, arI G (t_a 3) 900 t_tape, arI G (t_a 4) 186 t_fresh_3] := hD
      exact J145 _ _ _ _ _ hP hD hS (lv_sub hl [0] rfl) hf
  refine lv_if_eq (tgt := 15) hx hb dX8_readLine_5 (by decide) (fun c_28 => ?_) (fun c_28 => ?_)
  · have hf := ip c_28 hf
    refine lv_aload_n hx hb dX8_readLine_15 rfl (lv_at hl 0 rfl) ?_
    refine va_get (D := G.1) (ci := 8) (v := .ref (t_a 4)) (C := RX8) (T := TX8) (N := 33) hx hb hw inW8 hown hK.1 hP 0 rfl rfl 4 (by decide) (hw _ kw_5_14) (fun _ h9 => h9) rfl dX8_readLine_16 ?_
    refine lv_iconst (v := 0) hx hb dX8_readLine_19 (by decide) ?_
    obtain ⟨hi_30, hf⟩ := rdI_in hf
    refine va_iald hx hb hK.1 hP 2 0 rfl rfl hi_30 dX8_readLine_20 ?_
    refine lv_topi (fun x_29 ex_29 => ?_)
    have hf := hf x_29 ex_29
    refine lv_if_ne (tgt := 32) hx hb dX8_readLine_21 (by decide) (fun c_31 => ?_) (fun c_31 => ?_)
    · have hf := iq c_31 hf
      refine lv_aload_n hx hb dX8_readLine_32 rfl (lv_at hl 0 rfl) ?_
      refine lv_iconst (v := 2) hx hb dX8_readLine_33 (by decide) ?_
      obtain ⟨r_32, hc_33, hf⟩ := bd1_in hf
      refine rcI (va_runV (As := [.int 2]) (rest := []) ⟨hx, hb, hml, hown, hw⟩ ((ctX8_is l G t_h t_a t_thrown t_taped t_at t_behind t_size t_kind t_number t_wrong t_wrongAt t_faultKind t_faultPlace t_x t_wayLong t_bothLeast 2 _ hc_33) _) (kV hw calX8_is kw_15_7 rfl rfl ⟨Nat.le_of_ble_eq_true rfl, Nat.le_of_ble_eq_true rfl⟩) (rpV (hP.sub (ws' := [oX8 t_h t_a t_thrown t_taped t_at t_behind t_size t_kind t_number t_wrong t_wrongAt t_faultKind t_faultPlace t_x t_wayLong t_bothLeast]) [0] rfl) hK (ci := 8) (q0 := 0) rfl rfl) rfl rfl hl.1 rfl (lv_room (Nat.le_of_ble_eq_true rfl)) dX8_readLine_34 ⟨Nat.zero_le _, Nat.zero_le _⟩) hS hA hP (fun H locs hP hS => ?_)
      refine lv_if_eq (tgt := 47) hx hb dX8_readLine_37 (by decide) (fun c_34 => ?_) (fun c_34 => ?_)
      · have hf := ip c_34 hf
        refine lv_aload_n hx hb dX8_readLine_47 rfl (lv_at hl 0 rfl) ?_
        refine lv_iconst (v := 1) hx hb dX8_readLine_48 (by decide) ?_
        obtain ⟨r_39, t_at_35, t_behind_36, t_kind_37, t_number_38, hc_40, hf⟩ := bd5_in hf
        refine wcI (w1 := [oX8 t_h t_a t_thrown t_taped t_at_35 t_behind_36 t_size t_kind_37 t_number_38 t_wrong t_wrongAt t_faultKind t_faultPlace t_x t_wayLong t_bothLeast, arI G (t_a 3) 900 t_tape]) (va_runV (As := [.int 1]) (rest := []) ⟨hx, hb, hml, hown, hw⟩ ((ctX8_eats l G ad av t_h t_a t_thrown t_tape t_taped t_at t_behind t_size t_kind t_number t_wrong t_wrongAt t_faultKind t_faultPlace t_x t_wayLong t_bothLeast 1 _ _ _ _ _ hc_40) _) (kV hw calX8_eats kw_16_10 rfl rfl ⟨Nat.le_of_ble_eq_true rfl, Nat.le_of_ble_eq_true rfl⟩) (wsPV (hP.sub (ws' := [oX8 t_h t_a t_thrown t_taped t_at t_behind t_size t_kind t_number t_wrong t_wrongAt t_faultKind t_faultPlace t_x t_wayLong t_bothLeast, arI G (t_a 3) 900 t_tape]) [0, 1] rfl) (hD.sub (ws' := [oX8 t_h t_a t_thrown t_taped t_at t_behind t_size t_kind t_number t_wrong t_wrongAt t_faultKind t_faultPlace t_x t_wayLong t_bothLeast, arI G (t_a 3) 900 t_tape]) [0, 1] (by decide) rfl) hE hS (va_free (wc := [oX8 t_h t_a t_thrown t_taped t_at t_behind t_size t_kind t_number t_wrong t_wrongAt t_faultKind t_faultPlace t_x t_wayLong t_bothLeast, arI G (t_a 3) 900 t_tape]) hD hS hA [0, 1] rfl) hK (ci := 8) (q0 := 0) rfl rfl) rfl rfl hl.1 rfl (lv_room (Nat.le_of_ble_eq_true rfl)) dX8_readLine_49 ⟨Nat.zero_le _, Nat.zero_le _⟩) hS hA hP hD [0, 1] rfl rfl (fun H locs hP hD hS => ?_)
        have hP : va_P G.1 vwCl [oX8 t_h t_a t_thrown t_taped t_at_35 t_behind_36 t_size t_kind_37 t_number_38 t_wrong t_wrongAt t_faultKind t_faultPlace t_x t_wayLong t_bothLeast, arI G (t_a 3) 900 t_tape, arI G (t_a 4) 186 t_fresh] H := hP
        have hD : va_D A [oX8 t_h t_a t_thrown t_taped t_at_35 t_behind_36 t_size t_kind_37 t_number_38 t_wrong t_wrongAt t_faultKind t_faultPlace t_x t_wayLong t_bothLeast, arI G (t_a 3) 900 t_tape, arI G (t_a 4) 186 t_fresh] := hD
        refine lv_if_eq (tgt := 62) hx hb dX8_readLine_52 (by decide) (fun c_41 => ?_) (fun c_41 => ?_)
        · have hf := ip c_41 hf
          refine lv_aload_n hx hb dX8_readLine_62 rfl (lv_at hl 0 rfl) ?_
          refine lv_iconst (v := 3) hx hb dX8_readLine_63 (by decide) ?_
          obtain ⟨r_46, t_at_42, t_behind_43, t_kind_44, t_number_45, hc_47, hf⟩ := bd5_in hf
          refine wcI (w1 := [oX8 t_h t_a t_thrown t_taped t_at_42 t_behind_43 t_size t_kind_44 t_number_45 t_wrong t_wrongAt t_faultKind t_faultPlace t_x t_wayLong t_bothLeast, arI G (t_a 3) 900 t_tape]) (va_runV (As := [.int 3]) (rest := []) ⟨hx, hb, hml, hown, hw⟩ ((ctX8_eats l G ad av t_h t_a t_thrown t_tape t_taped t_at_35 t_behind_36 t_size t_kind_37 t_number_38 t_wrong t_wrongAt t_faultKind t_faultPlace t_x t_wayLong t_bothLeast 3 _ _ _ _ _ hc_47) _) (kV hw calX8_eats kw_16_10 rfl rfl ⟨Nat.le_of_ble_eq_true rfl, Nat.le_of_ble_eq_true rfl⟩) (wsPV (hP.sub (ws' := [oX8 t_h t_a t_thrown t_taped t_at_35 t_behind_36 t_size t_kind_37 t_number_38 t_wrong t_wrongAt t_faultKind t_faultPlace t_x t_wayLong t_bothLeast, arI G (t_a 3) 900 t_tape]) [0, 1] rfl) (hD.sub (ws' := [oX8 t_h t_a t_thrown t_taped t_at_35 t_behind_36 t_size t_kind_37 t_number_38 t_wrong t_wrongAt t_faultKind t_faultPlace t_x t_wayLong t_bothLeast, arI G (t_a 3) 900 t_tape]) [0, 1] (by decide) rfl) hE hS (va_free (wc := [oX8 t_h t_a t_thrown t_taped t_at_35 t_behind_36 t_size t_kind_37 t_number_38 t_wrong t_wrongAt t_faultKind t_faultPlace t_x t_wayLong t_bothLeast, arI G (t_a 3) 900 t_tape]) hD hS hA [0, 1] rfl) hK (ci := 8) (q0 := 0) rfl rfl) rfl rfl hl.1 rfl (lv_room (Nat.le_of_ble_eq_true rfl)) dX8_readLine_64 ⟨Nat.zero_le _, Nat.zero_le _⟩) hS hA hP hD [0, 1] rfl rfl (fun H locs hP hD hS => ?_)
          have hP : va_P G.1 vwCl [oX8 t_h t_a t_thrown t_taped t_at_42 t_behind_43 t_size t_kind_44 t_number_45 t_wrong t_wrongAt t_faultKind t_faultPlace t_x t_wayLong t_bothLeast, arI G (t_a 3) 900 t_tape, arI G (t_a 4) 186 t_fresh] H := hP
          have hD : va_D A [oX8 t_h t_a t_thrown t_taped t_at_42 t_behind_43 t_size t_kind_44 t_number_45 t_wrong t_wrongAt t_faultKind t_faultPlace t_x t_wayLong t_bothLeast, arI G (t_a 3) 900 t_tape, arI G (t_a 4) 186 t_fresh] := hD
          refine lv_if_eq (tgt := 86) hx hb dX8_readLine_67 (by decide) (fun c_48 => ?_) (fun c_48 => ?_)
          · have hf := ip c_48 hf
            refine lv_aload_n hx hb dX8_readLine_86 rfl (lv_at hl 0 rfl) ?_
            refine lv_iconst (v := 4) hx hb dX8_readLine_87 (by decide) ?_
            obtain ⟨r_53, t_at_49, t_behind_50, t_kind_51, t_number_52, hc_54, hf⟩ := bd5_in hf
            refine wcI (w1 := [oX8 t_h t_a t_thrown t_taped t_at_49 t_behind_50 t_size t_kind_51 t_number_52 t_wrong t_wrongAt t_faultKind t_faultPlace t_x t_wayLong t_bothLeast, arI G (t_a 3) 900 t_tape]) (va_runV (As := [.int 4]) (rest := []) ⟨hx, hb, hml, hown, hw⟩ ((ctX8_eats l G ad av t_h t_a t_thrown t_tape t_taped t_at_42 t_behind_43 t_size t_kind_44 t_number_45 t_wrong t_wrongAt t_faultKind t_faultPlace t_x t_wayLong t_bothLeast 4 _ _ _ _ _ hc_54) _) (kV hw calX8_eats kw_16_10 rfl rfl ⟨Nat.le_of_ble_eq_true rfl, Nat.le_of_ble_eq_true rfl⟩) (wsPV (hP.sub (ws' := [oX8 t_h t_a t_thrown t_taped t_at_42 t_behind_43 t_size t_kind_44 t_number_45 t_wrong t_wrongAt t_faultKind t_faultPlace t_x t_wayLong t_bothLeast, arI G (t_a 3) 900 t_tape]) [0, 1] rfl) (hD.sub (ws' := [oX8 t_h t_a t_thrown t_taped t_at_42 t_behind_43 t_size t_kind_44 t_number_45 t_wrong t_wrongAt t_faultKind t_faultPlace t_x t_wayLong t_bothLeast, arI G (t_a 3) 900 t_tape]) [0, 1] (by decide) rfl) hE hS (va_free (wc := [oX8 t_h t_a t_thrown t_taped t_at_42 t_behind_43 t_size t_kind_44 t_number_45 t_wrong t_wrongAt t_faultKind t_faultPlace t_x t_wayLong t_bothLeast, arI G (t_a 3) 900 t_tape]) hD hS hA [0, 1] rfl) hK (ci := 8) (q0 := 0) rfl rfl) rfl rfl hl.1 rfl (lv_room (Nat.le_of_ble_eq_true rfl)) dX8_readLine_88 ⟨Nat.zero_le _, Nat.zero_le _⟩) hS hA hP hD [0, 1] rfl rfl (fun H locs hP hD hS => ?_)
            have hP : va_P G.1 vwCl [oX8 t_h t_a t_thrown t_taped t_at_49 t_behind_50 t_size t_kind_51 t_number_52 t_wrong t_wrongAt t_faultKind t_faultPlace t_x t_wayLong t_bothLeast, arI G (t_a 3) 900 t_tape, arI G (t_a 4) 186 t_fresh] H := hP
            have hD : va_D A [oX8 t_h t_a t_thrown t_taped t_at_49 t_behind_50 t_size t_kind_51 t_number_52 t_wrong t_wrongAt t_faultKind t_faultPlace t_x t_wayLong t_bothLeast, arI G (t_a 3) 900 t_tape, arI G (t_a 4) 186 t_fresh] := hD
            refine lv_if_eq (tgt := 111) hx hb dX8_readLine_91 (by decide) (fun c_55 => ?_) (fun c_55 => ?_)
            · have hf := ip c_55 hf
              refine lv_aload_n hx hb dX8_readLine_111 rfl (lv_at hl 0 rfl) ?_
              refine lv_iconst (v := 5) hx hb dX8_readLine_112 (by decide) ?_
              obtain ⟨r_60, t_at_56, t_behind_57, t_kind_58, t_number_59, hc_61, hf⟩ := bd5_in hf
              refine wcI (w1 := [oX8 t_h t_a t_thrown t_taped t_at_56 t_behind_57 t_size t_kind_58 t_number_59 t_wrong t_wrongAt t_faultKind t_faultPlace t_x t_wayLong t_bothLeast, arI G (t_a 3) 900 t_tape]) (va_runV (As := [.int 5]) (rest := []) ⟨hx, hb, hml, hown, hw⟩ ((ctX8_eats l G ad av t_h t_a t_thrown t_tape t_taped t_at_49 t_behind_50 t_size t_kind_51 t_number_52 t_wrong t_wrongAt t_faultKind t_faultPlace t_x t_wayLong t_bothLeast 5 _ _ _ _ _ hc_61) _) (kV hw calX8_eats kw_16_10 rfl rfl ⟨Nat.le_of_ble_eq_true rfl, Nat.le_of_ble_eq_true rfl⟩) (wsPV (hP.sub (ws' := [oX8 t_h t_a t_thrown t_taped t_at_49 t_behind_50 t_size t_kind_51 t_number_52 t_wrong t_wrongAt t_faultKind t_faultPlace t_x t_wayLong t_bothLeast, arI G (t_a 3) 900 t_tape]) [0, 1] rfl) (hD.sub (ws' := [oX8 t_h t_a t_thrown t_taped t_at_49 t_behind_50 t_size t_kind_51 t_number_52 t_wrong t_wrongAt t_faultKind t_faultPlace t_x t_wayLong t_bothLeast, arI G (t_a 3) 900 t_tape]) [0, 1] (by decide) rfl) hE hS (va_free (wc := [oX8 t_h t_a t_thrown t_taped t_at_49 t_behind_50 t_size t_kind_51 t_number_52 t_wrong t_wrongAt t_faultKind t_faultPlace t_x t_wayLong t_bothLeast, arI G (t_a 3) 900 t_tape]) hD hS hA [0, 1] rfl) hK (ci := 8) (q0 := 0) rfl rfl) rfl rfl hl.1 rfl (lv_room (Nat.le_of_ble_eq_true rfl)) dX8_readLine_113 ⟨Nat.zero_le _, Nat.zero_le _⟩) hS hA hP hD [0, 1] rfl rfl (fun H locs hP hD hS => ?_)
              have hP : va_P G.1 vwCl [oX8 t_h t_a t_thrown t_taped t_at_56 t_behind_57 t_size t_kind_58 t_number_59 t_wrong t_wrongAt t_faultKind t_faultPlace t_x t_wayLong t_bothLeast, arI G (t_a 3) 900 t_tape, arI G (t_a 4) 186 t_fresh] H := hP
              have hD : va_D A [oX8 t_h t_a t_thrown t_taped t_at_56 t_behind_57 t_size t_kind_58 t_number_59 t_wrong t_wrongAt t_faultKind t_faultPlace t_x t_wayLong t_bothLeast, arI G (t_a 3) 900 t_tape, arI G (t_a 4) 186 t_fresh] := hD
              refine lv_if_eq (tgt := 126) hx hb dX8_readLine_116 (by decide) (fun c_62 => ?_) (fun c_62 => ?_)
              · have hf := ip c_62 hf
                refine lv_aload_n hx hb dX8_readLine_126 rfl (lv_at hl 0 rfl) ?_
                refine lv_iconst (v := 2) hx hb dX8_readLine_127 (by decide) ?_
                obtain ⟨t_wrong_63, t_wrongAt_64, hc_65, hf⟩ := bd2_in hf
                refine wcV (w1 := [oX8 t_h t_a t_thrown t_taped t_at_56 t_behind_57 t_size t_kind_58 t_number_59 t_wrong_63 t_wrongAt_64 t_faultKind t_faultPlace t_x t_wayLong t_bothLeast]) (va_runV (As := [.int 2]) (rest := []) ⟨hx, hb, hml, hown, hw⟩ ((ctX8_fails l G t_h t_a t_thrown t_taped t_at_56 t_behind_57 t_size t_kind_58 t_number_59 t_wrong t_wrongAt t_faultKind t_faultPlace t_x t_wayLong t_bothLeast 2 _ _ hc_65) _) (kV hw calX8_fails kw_15_15 rfl rfl ⟨Nat.le_of_ble_eq_true rfl, Nat.le_of_ble_eq_true rfl⟩) (wpV (hP.sub (ws' := [oX8 t_h t_a t_thrown t_taped t_at_56 t_behind_57 t_size t_kind_58 t_number_59 t_wrong t_wrongAt t_faultKind t_faultPlace t_x t_wayLong t_bothLeast]) [0] rfl) (hD.sub (ws' := [oX8 t_h t_a t_thrown t_taped t_at_56 t_behind_57 t_size t_kind_58 t_number_59 t_wrong t_wrongAt t_faultKind t_faultPlace t_x t_wayLong t_bothLeast]) [0] (by decide) rfl) hK (ci := 8) (q0 := 0) rfl rfl) rfl rfl hl.1 rfl (lv_room (Nat.le_of_ble_eq_true rfl)) dX8_readLine_128 ⟨Nat.zero_le _, Nat.zero_le _⟩) hS hA hP hD [0] rfl rfl (fun H locs hP hD hS => ?_)
                have hP : va_P G.1 vwCl [oX8 t_h t_a t_thrown t_taped t_at_56 t_behind_57 t_size t_kind_58 t_number_59 t_wrong_63 t_wrongAt_64 t_faultKind t_faultPlace t_x t_wayLong t_bothLeast, arI G (t_a 3) 900 t_tape, arI G (t_a 4) 186 t_fresh] H := hP
                have hD : va_D A [oX8 t_h t_a t_thrown t_taped t_at_56 t_behind_57 t_size t_kind_58 t_number_59 t_wrong_63 t_wrongAt_64 t_faultKind t_faultPlace t_x t_wayLong t_bothLeast, arI G (t_a 3) 900 t_tape, arI G (t_a 4) 186 t_fresh] := hD
                exact J131 _ _ _ _ _ _ _ _ _ _ hP hD hS (lv_sub hl [0] rfl) hf
              · have hf := iq c_62 hf
                refine lv_aload_n hx hb dX8_readLine_119 rfl (lv_at hl 0 rfl) ?_
                obtain ⟨t_fresh_66, t_at_67, t_behind_68, t_kind_69, t_number_70, t_wrong_71, t_wrongAt_72, hc_73, hf⟩ := bd7_in hf
                refine wcV (w1 := [oX8 t_h t_a t_thrown t_taped t_at_67 t_behind_68 t_size t_kind_69 t_number_70 t_wrong_71 t_wrongAt_72 t_faultKind t_faultPlace t_x t_wayLong t_bothLeast, arI G (t_a 3) 900 t_tape, arI G (t_a 4) 186 t_fresh_66]) (va_runV (As := []) (rest := []) ⟨hx, hb, hml, hown, hw⟩ ((ctX8_readString l G ad av t_h t_a t_thrown t_tape t_fresh t_taped t_at_56 t_behind_57 t_size t_kind_58 t_number_59 t_wrong t_wrongAt t_faultKind t_faultPlace t_x t_wayLong t_bothLeast _ _ _ _ _ _ _ hc_73) _) (kV hw calX8_readString kw_16_18 rfl rfl ⟨Nat.le_of_ble_eq_true rfl, Nat.le_of_ble_eq_true rfl⟩) (wsPV (hP.sub (ws' := [oX8 t_h t_a t_thrown t_taped t_at_56 t_behind_57 t_size t_kind_58 t_number_59 t_wrong t_wrongAt t_faultKind t_faultPlace t_x t_wayLong t_bothLeast, arI G (t_a 3) 900 t_tape, arI G (t_a 4) 186 t_fresh]) [0, 1, 2] rfl) (hD.sub (ws' := [oX8 t_h t_a t_thrown t_taped t_at_56 t_behind_57 t_size t_kind_58 t_number_59 t_wrong t_wrongAt t_faultKind t_faultPlace t_x t_wayLong t_bothLeast, arI G (t_a 3) 900 t_tape, arI G (t_a 4) 186 t_fresh]) [0, 1, 2] (by decide) rfl) hE hS (va_free (wc := [oX8 t_h t_a t_thrown t_taped t_at_56 t_behind_57 t_size t_kind_58 t_number_59 t_wrong t_wrongAt t_faultKind t_faultPlace t_x t_wayLong t_bothLeast, arI G (t_a 3) 900 t_tape, arI G (t_a 4) 186 t_fresh]) hD hS hA [0, 1, 2] rfl) hK (ci := 8) (q0 := 0) rfl rfl) rfl rfl hl.1 rfl (lv_room (Nat.le_of_ble_eq_true rfl)) dX8_readLine_120 ⟨Nat.zero_le _, Nat.zero_le _⟩) hS hA hP hD [0, 1, 2] rfl rfl (fun H locs hP hD hS => ?_)
                have hP : va_P G.1 vwCl [oX8 t_h t_a t_thrown t_taped t_at_67 t_behind_68 t_size t_kind_69 t_number_70 t_wrong_71 t_wrongAt_72 t_faultKind t_faultPlace t_x t_wayLong t_bothLeast, arI G (t_a 3) 900 t_tape, arI G (t_a 4) 186 t_fresh_66] H := hP
                have hD : va_D A [oX8 t_h t_a t_thrown t_taped t_at_67 t_behind_68 t_size t_kind_69 t_number_70 t_wrong_71 t_wrongAt_72 t_faultKind t_faultPlace t_x t_wayLong t_bothLeast, arI G (t_a 3) 900 t_tape, arI G (t_a 4) 186 t_fresh_66] := hD
                refine lv_goto (tgt := 131) hx hb dX8_readLine_123 (by decide) ?_
                exact J131 _ _ _ _ _ _ _ _ _ _ hP hD hS (lv_sub hl [0] rfl) hf
            · have hf := iq c_55 hf
              refine lv_aload_n hx hb dX8_readLine_94 rfl (lv_at hl 0 rfl) ?_
              refine va_get (D := G.1) (ci := 8) (v := .ref (t_a 4)) (C := RX8) (T := TX8) (N := 33) hx hb hw inW8 hown hK.1 hP 0 rfl rfl 4 (by decide) (hw _ kw_5_14) (fun _ h9 => h9) rfl dX8_readLine_95 ?_
              refine lv_iconst (v := 3) hx hb dX8_readLine_98 (by decide) ?_
              refine lv_aload_n hx hb dX8_readLine_99 rfl (lv_at hl 0 rfl) ?_
              refine lv_iconst (v := 1) hx hb dX8_readLine_100 (by decide) ?_
              refine lv_sipush (v := 999) hx hb dX8_readLine_101 (by decide) ?_
              obtain ⟨r_80, t_at_74, t_behind_75, t_kind_76, t_number_77, t_wrong_78, t_wrongAt_79, hc_81, hf⟩ := bd7_in hf
              refine wcI (w1 := [oX8 t_h t_a t_thrown t_taped t_at_74 t_behind_75 t_size t_kind_76 t_number_77 t_wrong_78 t_wrongAt_79 t_faultKind t_faultPlace t_x t_wayLong t_bothLeast, arI G (t_a 3) 900 t_tape]) (va_runV (As := [.int 1, .int 999]) (rest := [.int 3, .ref (t_a 4)]) ⟨hx, hb, hml, hown, hw⟩ ((ctX8_takes l G ad av t_h t_a t_thrown t_tape t_taped t_at_49 t_behind_50 t_size t_kind_51 t_number_52 t_wrong t_wrongAt t_faultKind t_faultPlace t_x t_wayLong t_bothLeast 1 999 _ _ _ _ _ _ _ hc_81) _) (kV hw calX8_takes kw_15_19 rfl rfl ⟨Nat.le_of_ble_eq_true rfl, Nat.le_of_ble_eq_true rfl⟩) (wsPV (hP.sub (ws' := [oX8 t_h t_a t_thrown t_taped t_at_49 t_behind_50 t_size t_kind_51 t_number_52 t_wrong t_wrongAt t_faultKind t_faultPlace t_x t_wayLong t_bothLeast, arI G (t_a 3) 900 t_tape]) [0, 1] rfl) (hD.sub (ws' := [oX8 t_h t_a t_thrown t_taped t_at_49 t_behind_50 t_size t_kind_51 t_number_52 t_wrong t_wrongAt t_faultKind t_faultPlace t_x t_wayLong t_bothLeast, arI G (t_a 3) 900 t_tape]) [0, 1] (by decide) rfl) hE hS (va_free (wc := [oX8 t_h t_a t_thrown t_taped t_at_49 t_behind_50 t_size t_kind_51 t_number_52 t_wrong t_wrongAt t_faultKind t_faultPlace t_x t_wayLong t_bothLeast, arI G (t_a 3) 900 t_tape]) hD hS hA [0, 1] rfl) hK (ci := 8) (q0 := 0) rfl rfl) rfl rfl hl.1 rfl (lv_room (Nat.le_of_ble_eq_true rfl)) dX8_readLine_104 ⟨Nat.zero_le _, Nat.zero_le _⟩) hS hA hP hD [0, 1] rfl rfl (fun H locs hP hD hS => ?_)
              have hP : va_P G.1 vwCl [oX8 t_h t_a t_thrown t_taped t_at_74 t_behind_75 t_size t_kind_76 t_number_77 t_wrong_78 t_wrongAt_79 t_faultKind t_faultPlace t_x t_wayLong t_bothLeast, arI G (t_a 3) 900 t_tape, arI G (t_a 4) 186 t_fresh] H := hP
              have hD : va_D A [oX8 t_h t_a t_thrown t_taped t_at_74 t_behind_75 t_size t_kind_76 t_number_77 t_wrong_78 t_wrongAt_79 t_faultKind t_faultPlace t_x t_wayLong t_bothLeast, arI G (t_a 3) 900 t_tape, arI G (t_a 4) 186 t_fresh] := hD
              obtain ⟨hi_83, hf⟩ := wrI_in hf
              refine xiast hx hb hK.1 hP hD hS 2 0 rfl rfl hi_83 dX8_readLine_107 (fun t_fresh_82 H locs et_fresh_82 hP hD hS => ?_)
              have hf := hf t_fresh_82 et_fresh_82
              have hP : va_P G.1 vwCl [oX8 t_h t_a t_thrown t_taped t_at_74 t_behind_75 t_size t_kind_76 t_number_77 t_wrong_78 t_wrongAt_79 t_faultKind t_faultPlace t_x t_wayLong t_bothLeast, arI G (t_a 3) 900 t_tape, arI G (t_a 4) 186 t_fresh_82] H := hP
              have hD : va_D A [oX8 t_h t_a t_thrown t_taped t_at_74 t_behind_75 t_size t_kind_76 t_number_77 t_wrong_78 t_wrongAt_79 t_faultKind t_faultPlace t_x t_wayLong t_bothLeast, arI G (t_a 3) 900 t_tape, arI G (t_a 4) 186 t_fresh_82] := hD
              refine lv_goto (tgt := 131) hx hb dX8_readLine_108 (by decide) ?_
              exact J131 _ _ _ _ _ _ _ _ _ _ hP hD hS (lv_sub hl [0] rfl) hf
          · have hf := iq c_48 hf
            refine lv_aload_n hx hb dX8_readLine_70 rfl (lv_at hl 0 rfl) ?_
            refine va_get (D := G.1) (ci := 8) (v := .ref (t_a 4)) (C := RX8) (T := TX8) (N := 33) hx hb hw inW8 hown hK.1 hP 0 rfl rfl 4 (by decide) (hw _ kw_5_14) (fun _ h9 => h9) rfl dX8_readLine_71 ?_
            refine lv_iconst (v := 2) hx hb dX8_readLine_74 (by decide) ?_
            refine lv_aload_n hx hb dX8_readLine_75 rfl (lv_at hl 0 rfl) ?_
            refine lv_iconst (v := 0) hx hb dX8_readLine_76 (by decide) ?_
            refine lv_bipush (v := 20) hx hb dX8_readLine_77 (by decide) ?_
            obtain ⟨r_90, t_at_84, t_behind_85, t_kind_86, t_number_87, t_wrong_88, t_wrongAt_89, hc_91, hf⟩ := bd7_in hf
            refine wcI (w1 := [oX8 t_h t_a t_thrown t_taped t_at_84 t_behind_85 t_size t_kind_86 t_number_87 t_wrong_88 t_wrongAt_89 t_faultKind t_faultPlace t_x t_wayLong t_bothLeast, arI G (t_a 3) 900 t_tape]) (va_runV (As := [.int 0, .int 20]) (rest := [.int 2, .ref (t_a 4)]) ⟨hx, hb, hml, hown, hw⟩ ((ctX8_takes l G ad av t_h t_a t_thrown t_tape t_taped t_at_42 t_behind_43 t_size t_kind_44 t_number_45 t_wrong t_wrongAt t_faultKind t_faultPlace t_x t_wayLong t_bothLeast 0 20 _ _ _ _ _ _ _ hc_91) _) (kV hw calX8_takes kw_15_19 rfl rfl ⟨Nat.le_of_ble_eq_true rfl, Nat.le_of_ble_eq_true rfl⟩) (wsPV (hP.sub (ws' := [oX8 t_h t_a t_thrown t_taped t_at_42 t_behind_43 t_size t_kind_44 t_number_45 t_wrong t_wrongAt t_faultKind t_faultPlace t_x t_wayLong t_bothLeast, arI G (t_a 3) 900 t_tape]) [0, 1] rfl) (hD.sub (ws' := [oX8 t_h t_a t_thrown t_taped t_at_42 t_behind_43 t_size t_kind_44 t_number_45 t_wrong t_wrongAt t_faultKind t_faultPlace t_x t_wayLong t_bothLeast, arI G (t_a 3) 900 t_tape]) [0, 1] (by decide) rfl) hE hS (va_free (wc := [oX8 t_h t_a t_thrown t_taped t_at_42 t_behind_43 t_size t_kind_44 t_number_45 t_wrong t_wrongAt t_faultKind t_faultPlace t_x t_wayLong t_bothLeast, arI G (t_a 3) 900 t_tape]) hD hS hA [0, 1] rfl) hK (ci := 8) (q0 := 0) rfl rfl) rfl rfl hl.1 rfl (lv_room (Nat.le_of_ble_eq_true rfl)) dX8_readLine_79 ⟨Nat.zero_le _, Nat.zero_le _⟩) hS hA hP hD [0, 1] rfl rfl (fun H locs hP hD hS => ?_)
            have hP : va_P G.1 vwCl [oX8 t_h t_a t_thrown t_taped t_at_84 t_behind_85 t_size t_kind_86 t_number_87 t_wrong_88 t_wrongAt_89 t_faultKind t_faultPlace t_x t_wayLong t_bothLeast, arI G (t_a 3) 900 t_tape, arI G (t_a 4) 186 t_fresh] H := hP
            have hD : va_D A [oX8 t_h t_a t_thrown t_taped t_at_84 t_behind_85 t_size t_kind_86 t_number_87 t_wrong_88 t_wrongAt_89 t_faultKind t_faultPlace t_x t_wayLong t_bothLeast, arI G (t_a 3) 900 t_tape, arI G (t_a 4) 186 t_fresh] := hD
            obtain ⟨hi_93, hf⟩ := wrI_in hf
            refine xiast hx hb hK.1 hP hD hS 2 0 rfl rfl hi_93 dX8_readLine_82 (fun t_fresh_92 H locs et_fresh_92 hP hD hS => ?_)
            have hf := hf t_fresh_92 et_fresh_92
            have hP : va_P G.1 vwCl [oX8 t_h t_a t_thrown t_taped t_at_84 t_behind_85 t_size t_kind_86 t_number_87 t_wrong_88 t_wrongAt_89 t_faultKind t_faultPlace t_x t_wayLong t_bothLeast, arI G (t_a 3) 900 t_tape, arI G (t_a 4) 186 t_fresh_92] H := hP
            have hD : va_D A [oX8 t_h t_a t_thrown t_taped t_at_84 t_behind_85 t_size t_kind_86 t_number_87 t_wrong_88 t_wrongAt_89 t_faultKind t_faultPlace t_x t_wayLong t_bothLeast, arI G (t_a 3) 900 t_tape, arI G (t_a 4) 186 t_fresh_92] := hD
            refine lv_goto (tgt := 131) hx hb dX8_readLine_83 (by decide) ?_
            exact J131 _ _ _ _ _ _ _ _ _ _ hP hD hS (lv_sub hl [0] rfl) hf
        · have hf := iq c_41 hf
          refine lv_aload_n hx hb dX8_readLine_55 rfl (lv_at hl 0 rfl) ?_
          obtain ⟨t_fresh_94, t_at_95, t_behind_96, t_kind_97, t_number_98, t_wrong_99, t_wrongAt_100, hc_101, hf⟩ := bd7_in hf
          refine wcV (w1 := [oX8 t_h t_a t_thrown t_taped t_at_95 t_behind_96 t_size t_kind_97 t_number_98 t_wrong_99 t_wrongAt_100 t_faultKind t_faultPlace t_x t_wayLong t_bothLeast, arI G (t_a 3) 900 t_tape, arI G (t_a 4) 186 t_fresh_94]) (va_runV (As := []) (rest := []) ⟨hx, hb, hml, hown, hw⟩ ((ctX8_readCans l G ad av t_h t_a t_thrown t_tape t_fresh t_taped t_at_35 t_behind_36 t_size t_kind_37 t_number_38 t_wrong t_wrongAt t_faultKind t_faultPlace t_x t_wayLong t_bothLeast _ _ _ _ _ _ _ hc_101) _) (kV hw calX8_readCans kw_16_14 rfl rfl ⟨Nat.le_of_ble_eq_true rfl, Nat.le_of_ble_eq_true rfl⟩) (wsPV (hP.sub (ws' := [oX8 t_h t_a t_thrown t_taped t_at_35 t_behind_36 t_size t_kind_37 t_number_38 t_wrong t_wrongAt t_faultKind t_faultPlace t_x t_wayLong t_bothLeast, arI G (t_a 3) 900 t_tape, arI G (t_a 4) 186 t_fresh]) [0, 1, 2] rfl) (hD.sub (ws' := [oX8 t_h t_a t_thrown t_taped t_at_35 t_behind_36 t_size t_kind_37 t_number_38 t_wrong t_wrongAt t_faultKind t_faultPlace t_x t_wayLong t_bothLeast, arI G (t_a 3) 900 t_tape, arI G (t_a 4) 186 t_fresh]) [0, 1, 2] (by decide) rfl) hE hS (va_free (wc := [oX8 t_h t_a t_thrown t_taped t_at_35 t_behind_36 t_size t_kind_37 t_number_38 t_wrong t_wrongAt t_faultKind t_faultPlace t_x t_wayLong t_bothLeast, arI G (t_a 3) 900 t_tape, arI G (t_a 4) 186 t_fresh]) hD hS hA [0, 1, 2] rfl) hK (ci := 8) (q0 := 0) rfl rfl) rfl rfl hl.1 rfl (lv_room (Nat.le_of_ble_eq_true rfl)) dX8_readLine_56 ⟨Nat.zero_le _, Nat.zero_le _⟩) hS hA hP hD [0, 1, 2] rfl rfl (fun H locs hP hD hS => ?_)
          have hP : va_P G.1 vwCl [oX8 t_h t_a t_thrown t_taped t_at_95 t_behind_96 t_size t_kind_97 t_number_98 t_wrong_99 t_wrongAt_100 t_faultKind t_faultPlace t_x t_wayLong t_bothLeast, arI G (t_a 3) 900 t_tape, arI G (t_a 4) 186 t_fresh_94] H := hP
          have hD : va_D A [oX8 t_h t_a t_thrown t_taped t_at_95 t_behind_96 t_size t_kind_97 t_number_98 t_wrong_99 t_wrongAt_100 t_faultKind t_faultPlace t_x t_wayLong t_bothLeast, arI G (t_a 3) 900 t_tape, arI G (t_a 4) 186 t_fresh_94] := hD
          refine lv_goto (tgt := 131) hx hb dX8_readLine_59 (by decide) ?_
          exact J131 _ _ _ _ _ _ _ _ _ _ hP hD hS (lv_sub hl [0] rfl) hf
      · have hf := iq c_34 hf
        refine lv_aload_n hx hb dX8_readLine_40 rfl (lv_at hl 0 rfl) ?_
        obtain ⟨t_fresh_102, t_at_103, t_behind_104, t_kind_105, t_number_106, t_wrong_107, t_wrongAt_108, hc_109, hf⟩ := bd7_in hf
        refine wcV (w1 := [oX8 t_h t_a t_thrown t_taped t_at_103 t_behind_104 t_size t_kind_105 t_number_106 t_wrong_107 t_wrongAt_108 t_faultKind t_faultPlace t_x t_wayLong t_bothLeast, arI G (t_a 3) 900 t_tape, arI G (t_a 4) 186 t_fresh_102]) (va_runV (As := []) (rest := []) ⟨hx, hb, hml, hown, hw⟩ ((ctX8_readWash l G ad av t_h t_a t_thrown t_tape t_fresh t_taped t_at t_behind t_size t_kind t_number t_wrong t_wrongAt t_faultKind t_faultPlace t_x t_wayLong t_bothLeast _ _ _ _ _ _ _ hc_109) _) (kV hw calX8_readWash kw_15_23 rfl rfl ⟨Nat.le_of_ble_eq_true rfl, Nat.le_of_ble_eq_true rfl⟩) (wsPV (hP.sub (ws' := [oX8 t_h t_a t_thrown t_taped t_at t_behind t_size t_kind t_number t_wrong t_wrongAt t_faultKind t_faultPlace t_x t_wayLong t_bothLeast, arI G (t_a 3) 900 t_tape, arI G (t_a 4) 186 t_fresh]) [0, 1, 2] rfl) (hD.sub (ws' := [oX8 t_h t_a t_thrown t_taped t_at t_behind t_size t_kind t_number t_wrong t_wrongAt t_faultKind t_faultPlace t_x t_wayLong t_bothLeast, arI G (t_a 3) 900 t_tape, arI G (t_a 4) 186 t_fresh]) [0, 1, 2] (by decide) rfl) hE hS (va_free (wc := [oX8 t_h t_a t_thrown t_taped t_at t_behind t_size t_kind t_number t_wrong t_wrongAt t_faultKind t_faultPlace t_x t_wayLong t_bothLeast, arI G (t_a 3) 900 t_tape, arI G (t_a 4) 186 t_fresh]) hD hS hA [0, 1, 2] rfl) hK (ci := 8) (q0 := 0) rfl rfl) rfl rfl hl.1 rfl (lv_room (Nat.le_of_ble_eq_true rfl)) dX8_readLine_41 ⟨Nat.zero_le _, Nat.zero_le _⟩) hS hA hP hD [0, 1, 2] rfl rfl (fun H locs hP hD hS => ?_)
        have hP : va_P G.1 vwCl [oX8 t_h t_a t_thrown t_taped t_at_103 t_behind_104 t_size t_kind_105 t_number_106 t_wrong_107 t_wrongAt_108 t_faultKind t_faultPlace t_x t_wayLong t_bothLeast, arI G (t_a 3) 900 t_tape, arI G (t_a 4) 186 t_fresh_102] H := hP
        have hD : va_D A [oX8 t_h t_a t_thrown t_taped t_at_103 t_behind_104 t_size t_kind_105 t_number_106 t_wrong_107 t_wrongAt_108 t_faultKind t_faultPlace t_x t_wayLong t_bothLeast, arI G (t_a 3) 900 t_tape, arI G (t_a 4) 186 t_fresh_102] := hD
        refine lv_goto (tgt := 131) hx hb dX8_readLine_44 (by decide) ?_
        exact J131 _ _ _ _ _ _ _ _ _ _ hP hD hS (lv_sub hl [0] rfl) hf
    · have hf := ip c_31 hf
      refine lv_aload_n hx hb dX8_readLine_24 rfl (lv_at hl 0 rfl) ?_
      refine lv_iconst (v := 2) hx hb dX8_readLine_25 (by decide) ?_
      obtain ⟨t_wrong_110, t_wrongAt_111, hc_112, hf⟩ := bd2_in hf
      refine wcV (w1 := [oX8 t_h t_a t_thrown t_taped t_at t_behind t_size t_kind t_number t_wrong_110 t_wrongAt_111 t_faultKind t_faultPlace t_x t_wayLong t_bothLeast]) (va_runV (As := [.int 2]) (rest := []) ⟨hx, hb, hml, hown, hw⟩ ((ctX8_fails l G t_h t_a t_thrown t_taped t_at t_behind t_size t_kind t_number t_wrong t_wrongAt t_faultKind t_faultPlace t_x t_wayLong t_bothLeast 2 _ _ hc_112) _) (kV hw calX8_fails kw_15_15 rfl rfl ⟨Nat.le_of_ble_eq_true rfl, Nat.le_of_ble_eq_true rfl⟩) (wpV (hP.sub (ws' := [oX8 t_h t_a t_thrown t_taped t_at t_behind t_size t_kind t_number t_wrong t_wrongAt t_faultKind t_faultPlace t_x t_wayLong t_bothLeast]) [0] rfl) (hD.sub (ws' := [oX8 t_h t_a t_thrown t_taped t_at t_behind t_size t_kind t_number t_wrong t_wrongAt t_faultKind t_faultPlace t_x t_wayLong t_bothLeast]) [0] (by decide) rfl) hK (ci := 8) (q0 := 0) rfl rfl) rfl rfl hl.1 rfl (lv_room (Nat.le_of_ble_eq_true rfl)) dX8_readLine_26 ⟨Nat.zero_le _, Nat.zero_le _⟩) hS hA hP hD [0] rfl rfl (fun H locs hP hD hS => ?_)
      have hP : va_P G.1 vwCl [oX8 t_h t_a t_thrown t_taped t_at t_behind t_size t_kind t_number t_wrong_110 t_wrongAt_111 t_faultKind t_faultPlace t_x t_wayLong t_bothLeast, arI G (t_a 3) 900 t_tape, arI G (t_a 4) 186 t_fresh] H := hP
      have hD : va_D A [oX8 t_h t_a t_thrown t_taped t_at t_behind t_size t_kind t_number t_wrong_110 t_wrongAt_111 t_faultKind t_faultPlace t_x t_wayLong t_bothLeast, arI G (t_a 3) 900 t_tape, arI G (t_a 4) 186 t_fresh] := hD
      refine lv_goto (tgt := 131) hx hb dX8_readLine_29 (by decide) ?_
      exact J131 _ _ _ _ _ _ _ _ _ _ hP hD hS (lv_sub hl [0] rfl) hf
  · have hf := iq c_28 hf
    refine lv_aload_n hx hb dX8_readLine_8 rfl (lv_at hl 0 rfl) ?_
    obtain ⟨t_fresh_113, t_at_114, t_behind_115, t_kind_116, t_number_117, t_wrong_118, t_wrongAt_119, hc_120, hf⟩ := bd7_in hf
    refine wcV (w1 := [oX8 t_h t_a t_thrown t_taped t_at_114 t_behind_115 t_size t_kind_116 t_number_117 t_wrong_118 t_wrongAt_119 t_faultKind t_faultPlace t_x t_wayLong t_bothLeast, arI G (t_a 3) 900 t_tape, arI G (t_a 4) 186 t_fresh_113]) (va_runV (As := []) (rest := []) ⟨hx, hb, hml, hown, hw⟩ ((ctX8_readWindows l G ad av t_h t_a t_thrown t_tape t_fresh t_taped t_at t_behind t_size t_kind t_number t_wrong t_wrongAt t_faultKind t_faultPlace t_x t_wayLong t_bothLeast _ _ _ _ _ _ _ hc_120) _) (kV hw calX8_readWindows kw_15_11 rfl rfl ⟨Nat.le_of_ble_eq_true rfl, Nat.le_of_ble_eq_true rfl⟩) (wsPV (hP.sub (ws' := [oX8 t_h t_a t_thrown t_taped t_at t_behind t_size t_kind t_number t_wrong t_wrongAt t_faultKind t_faultPlace t_x t_wayLong t_bothLeast, arI G (t_a 3) 900 t_tape, arI G (t_a 4) 186 t_fresh]) [0, 1, 2] rfl) (hD.sub (ws' := [oX8 t_h t_a t_thrown t_taped t_at t_behind t_size t_kind t_number t_wrong t_wrongAt t_faultKind t_faultPlace t_x t_wayLong t_bothLeast, arI G (t_a 3) 900 t_tape, arI G (t_a 4) 186 t_fresh]) [0, 1, 2] (by decide) rfl) hE hS (va_free (wc := [oX8 t_h t_a t_thrown t_taped t_at t_behind t_size t_kind t_number t_wrong t_wrongAt t_faultKind t_faultPlace t_x t_wayLong t_bothLeast, arI G (t_a 3) 900 t_tape, arI G (t_a 4) 186 t_fresh]) hD hS hA [0, 1, 2] rfl) hK (ci := 8) (q0 := 0) rfl rfl) rfl rfl hl.1 rfl (lv_room (Nat.le_of_ble_eq_true rfl)) dX8_readLine_9 ⟨Nat.zero_le _, Nat.zero_le _⟩) hS hA hP hD [0, 1, 2] rfl rfl (fun H locs hP hD hS => ?_)
    have hP : va_P G.1 vwCl [oX8 t_h t_a t_thrown t_taped t_at_114 t_behind_115 t_size t_kind_116 t_number_117 t_wrong_118 t_wrongAt_119 t_faultKind t_faultPlace t_x t_wayLong t_bothLeast, arI G (t_a 3) 900 t_tape, arI G (t_a 4) 186 t_fresh_113] H := hP
    have hD : va_D A [oX8 t_h t_a t_thrown t_taped t_at_114 t_behind_115 t_size t_kind_116 t_number_117 t_wrong_118 t_wrongAt_119 t_faultKind t_faultPlace t_x t_wayLong t_bothLeast, arI G (t_a 3) 900 t_tape, arI G (t_a 4) 186 t_fresh_113] := hD
    refine lv_goto (tgt := 131) hx hb dX8_readLine_12 (by decide) ?_
    exact J131 _ _ _ _ _ _ _ _ _ _ hP hD hS (lv_sub hl [0] rfl) hf
theorem calX8_court : CalV yX8_court cX8_court 3 (some .int) 1 := ⟨⟨kw_13_19, kw_1_5, by decide +kernel⟩, kw_13_17, kw_13_18⟩
set_option maxHeartbeats 8000000 in
set_option maxRecDepth 100000 in
theorem ctX8_court (l : Launch) (G : GT) (ad : Nat → Nat) (av : Nat → Nat) (t_h : Nat) (t_a : Nat → Nat) (t_thrown : Int32) (t_all : Nat → Int32) (t_tape : Nat → Int32) (t_fresh : Nat → Int32) (t_taped : Int32) (t_at : Int32) (t_behind : Int32) (t_size : Int32) (t_kind : Int32) (t_number : Int32) (t_wrong : Int32) (t_wrongAt : Int32) (t_faultKind : Int32) (t_faultPlace : Int32) (t_x : Int32) (t_wayLong : Int32) (t_bothLeast : Int32) (v1 : Int32) (r : Int32) (o_t_thrown : Int32) (o_t_all : Nat → Int32) (o_t_fresh : Nat → Int32) (o_t_taped : Int32) (o_t_at : Int32) (o_t_behind : Int32) (o_t_size : Int32) (o_t_kind : Int32) (o_t_number : Int32) (o_t_wrong : Int32) (o_t_wrongAt : Int32) (o_t_faultKind : Int32) (o_t_faultPlace : Int32) (hf : fX8_court t_thrown t_all t_tape t_fresh t_taped t_at t_behind t_size t_kind t_number t_wrong t_wrongAt t_faultKind t_faultPlace v1 = some (r, o_t_thrown, o_t_all, o_t_fresh, o_t_taped, o_t_at, o_t_behind, o_t_size, o_t_kind, o_t_number, o_t_wrong, o_t_wrongAt, o_t_faultKind, o_t_faultPlace)) : WsI l yX8_court (Cond.code yX8_court cX8_court 3 (some .int)) { frames := 10, cells := 0, slots := 0, locals := 251 } G ad av [.ref t_h, .int v1] [oX8 t_h t_a t_thrown t_taped t_at t_behind t_size t_kind t_number t_wrong t_wrongAt t_faultKind t_faultPlace t_x t_wayLong t_bothLeast, arI G (t_a 1) 558 t_all, arI G (t_a 3) 900 t_tape, arI G (t_a 4) 186 t_fresh] [oX8 t_h t_a o_t_thrown o_t_taped o_t_at o_t_behind o_t_size o_t_kind o_t_number o_t_wrong o_t_wrongAt o_t_faultKind o_t_faultPlace t_x t_wayLong t_bothLeast, arI G (t_a 1) 558 o_t_all, arI G (t_a 3) 900 t_tape, arI G (t_a 4) 186 o_t_fresh] r := by
  intro sz
  refine Met.ofW (cc := cX8_court) (maxL := 3) (ret := (some .int)) (by decide) rfl ?_
  intro p e s m args below meth c s₁ B hml hv
  obtain ⟨hargs, hsz, hP, hD0, hE0, hK⟩ := hv
  subst hsz
  obtain ⟨hx, hb, hr, hw, hown, hlk⟩ := fwB B
  refine fw_enter hargs (Nat.le_of_ble_eq_true rfl) (fun ls hl => ?_)
  have hl : lv_has ls 3 [(0, .ref t_h), (1, .int v1)] := hl
  refine fw_Q (P := fun Q => ∃ A : Nat → Prop, va_D A [oX8 t_h t_a t_thrown t_taped t_at t_behind t_size t_kind t_number t_wrong t_wrongAt t_faultKind t_faultPlace t_x t_wayLong t_bothLeast, arI G (t_a 1) 558 t_all, arI G (t_a 3) 900 t_tape, arI G (t_a 4) 186 t_fresh] ∧ va_S A s.heap s.heap [] ∧ (∀ q, s.heap.size ≤ q → A q) ∧ SE ad av A s s.heap ∧ ∀ (v : Int32) (n_t_thrown : Int32) (n_t_all : Nat → Int32) (n_t_fresh : Nat → Int32) (n_t_taped : Int32) (n_t_at : Int32) (n_t_behind : Int32) (n_t_size : Int32) (n_t_kind : Int32) (n_t_number : Int32) (n_t_wrong : Int32) (n_t_wrongAt : Int32) (n_t_faultKind : Int32) (n_t_faultPlace : Int32) (H : Heap) (locs : List Loc) (pc : Nat) (ls : Array Slot), some (v, n_t_thrown, n_t_all, n_t_fresh, n_t_taped, n_t_at, n_t_behind, n_t_size, n_t_kind, n_t_number, n_t_wrong, n_t_wrongAt, n_t_faultKind, n_t_faultPlace) = some (r, o_t_thrown, o_t_all, o_t_fresh, o_t_taped, o_t_at, o_t_behind, o_t_size, o_t_kind, o_t_number, o_t_wrong, o_t_wrongAt, o_t_faultKind, o_t_faultPlace) → va_P G.1 vwCl [oX8 t_h t_a n_t_thrown n_t_taped n_t_at n_t_behind n_t_size n_t_kind n_t_number n_t_wrong n_t_wrongAt n_t_faultKind n_t_faultPlace t_x t_wayLong t_bothLeast, arI G (t_a 1) 558 n_t_all, arI G (t_a 3) 900 t_tape, arI G (t_a 4) 186 n_t_fresh] H → va_S A s.heap H locs → decode cX8_court pc = .ok (.ireturn, 1) → W p l e ({ frames := 10, cells := 0, slots := 0, locals := 251 } : Room) s m args below meth c H locs 0 0 Q (F0 m pc ls [.int v])) ⟨va_A [oX8 t_h t_a t_thrown t_taped t_at t_behind t_size t_kind t_number t_wrong t_wrongAt t_faultKind t_faultPlace t_x t_wayLong t_bothLeast, arI G (t_a 1) 558 t_all, arI G (t_a 3) 900 t_tape, arI G (t_a 4) 186 t_fresh] s.heap.size, hD0.self (sz := s.heap.size), va_S.rf, fun q h => Or.inr h, hE0, ?_⟩ ?_
  · intro v n_t_thrown n_t_all n_t_fresh n_t_taped n_t_at n_t_behind n_t_size n_t_kind n_t_number n_t_wrong n_t_wrongAt n_t_faultKind n_t_faultPlace H locs pc ls h hP hS hd
    cases h
    exact retWI hx hb hr hlk hS hP rfl hd
  rintro Q ⟨A, hD, hS, hA, hE, hRet⟩
  change W p l e ({ frames := 10, cells := 0, slots := 0, locals := 251 } : Room) s m args below meth c _ _ 0 0 Q _
  have L44 : ∀ (t_thrown : Int32) (t_all : Nat → Int32) (t_taped : Int32) (t_at : Int32) (t_behind : Int32) (t_size : Int32) (t_kind : Int32) (t_number : Int32) (t_wrong : Int32) (t_wrongAt : Int32) (t_faultKind : Int32) (t_faultPlace : Int32) (K : (Nat → Int32) → Option (Int32 × Int32 × (Nat → Int32) × (Nat → Int32) × Int32 × Int32 × Int32 × Int32 × Int32 × Int32 × Int32 × Int32 × Int32 × Int32)) (n : Nat) (l2 : Int32) (t_fresh : Nat → Int32) (H : Heap) (locs : List Loc) (ls : Array Slot), va_P G.1 vwCl [oX8 t_h t_a t_thrown t_taped t_at t_behind t_size t_kind t_number t_wrong t_wrongAt t_faultKind t_faultPlace t_x t_wayLong t_bothLeast, arI G (t_a 1) 558 t_all, arI G (t_a 3) 900 t_tape, arI G (t_a 4) 186 t_fresh] H → va_D A [oX8 t_h t_a t_thrown t_taped t_at t_behind t_size t_kind t_number t_wrong t_wrongAt t_faultKind t_faultPlace t_x t_wayLong t_bothLeast, arI G (t_a 1) 558 t_all, arI G (t_a 3) 900 t_tape, arI G (t_a 4) 186 t_fresh] → va_S A s.heap H locs → lv_has ls 3 [(0, .ref t_h), (2, .int l2)] → fX8_court_44  K n l2 t_fresh = some (r, o_t_thrown, o_t_all, o_t_fresh, o_t_taped, o_t_at, o_t_behind, o_t_size, o_t_kind, o_t_number, o_t_wrong, o_t_wrongAt, o_t_faultKind, o_t_faultPlace) → (∀ (kt_fresh : Nat → Int32) (H : Heap) (locs : List Loc) (ls : Array Slot), va_P G.1 vwCl [oX8 t_h t_a t_thrown t_taped t_at t_behind t_size t_kind t_number t_wrong t_wrongAt t_faultKind t_faultPlace t_x t_wayLong t_bothLeast, arI G (t_a 1) 558 t_all, arI G (t_a 3) 900 t_tape, arI G (t_a 4) 186 kt_fresh] H → va_D A [oX8 t_h t_a t_thrown t_taped t_at t_behind t_size t_kind t_number t_wrong t_wrongAt t_faultKind t_faultPlace t_x t_wayLong t_bothLeast, arI G (t_a 1) 558 t_all, arI G (t_a 3) 900 t_tape, arI G (t_a 4) 186 kt_fresh] → va_S A s.heap H locs → lv_has ls 3 [(0, .ref t_h)] → K kt_fresh = some (r, o_t_thrown, o_t_all, o_t_fresh, o_t_taped, o_t_at, o_t_behind, o_t_size, o_t_kind, o_t_number, o_t_wrong, o_t_wrongAt, o_t_faultKind, o_t_faultPlace) → W p l e ({ frames := 10, cells := 0, slots := 0, locals := 251 } : Room) s m args below meth c H locs 0 0 Q (F0 m 74 ls [])) → W p l e ({ frames := 10, cells := 0, slots := 0, locals := 251 } : Room) s m args below meth c H locs 0 0 Q (F0 m 44 ls []) := by
    intro t_thrown t_all t_taped t_at t_behind t_size t_kind t_number t_wrong t_wrongAt t_faultKind t_faultPlace K n
    induction n with
    | zero => intro l2 t_fresh H locs ls hP hD hS hl hf; rw [fX8_court_44] at hf; cases hf
    | succ n ih =>
      intro l2 t_fresh H locs ls hP hD hS hl hf hX
      rw [fX8_court_44] at hf
      refine lv_iload_n hx hb dX8_court_44 rfl (lv_at hl 1 rfl) ?_
      refine lv_sipush (v := 186) hx hb dX8_court_45 (by decide) ?_
      refine lv_icmp_ge (tgt := 74) hx hb dX8_court_48 (by decide) (fun c_4 => ?_) (fun c_4 => ?_)
      · have hf := ip c_4 hf
        exact hX _ _ _ _ hP hD hS (lv_sub hl [0] rfl) hf
      · have hf := iq c_4 hf
        refine lv_aload_n hx hb dX8_court_51 rfl (lv_at hl 0 rfl) ?_
        refine va_get (D := G.1) (ci := 8) (v := .ref (t_a 4)) (C := RX8) (T := TX8) (N := 33) hx hb hw inW8 hown hK.1 hP 0 rfl rfl 4 (by decide) (hw _ kw_5_14) (fun _ h9 => h9) rfl dX8_court_52 ?_
        refine lv_iload_n hx hb dX8_court_55 rfl (lv_at hl 1 rfl) ?_
        refine lv_iload_n hx hb dX8_court_56 rfl (lv_at hl 1 rfl) ?_
        refine lv_iconst (v := 3) hx hb dX8_court_57 (by decide) ?_
        refine jn_el hf (fun k_6 ek_6 hf => ?_)
        have J67 : ∀ (z_5 : Int32) (H : Heap) (locs : List Loc) (ls : Array Slot), va_P G.1 vwCl [oX8 t_h t_a t_thrown t_taped t_at t_behind t_size t_kind t_number t_wrong t_wrongAt t_faultKind t_faultPlace t_x t_wayLong t_bothLeast, arI G (t_a 1) 558 t_all, arI G (t_a 3) 900 t_tape, arI G (t_a 4) 186 t_fresh] H → va_D A [oX8 t_h t_a t_thrown t_taped t_at t_behind t_size t_kind t_number t_wrong t_wrongAt t_faultKind t_faultPlace t_x t_wayLong t_bothLeast, arI G (t_a 1) 558 t_all, arI G (t_a 3) 900 t_tape, arI G (t_a 4) 186 t_fresh] → va_S A s.heap H locs → lv_has ls 3 [(0, .ref t_h), (2, .int l2)] → k_6 z_5 = some (r, o_t_thrown, o_t_all, o_t_fresh, o_t_taped, o_t_at, o_t_behind, o_t_size, o_t_kind, o_t_number, o_t_wrong, o_t_wrongAt, o_t_faultKind, o_t_faultPlace) → W p l e ({ frames := 10, cells := 0, slots := 0, locals := 251 } : Room) s m args below meth c H locs 0 0 Q (F0 m 67 ls [.int z_5, .int l2, .ref (t_a 4)]) := by
          intro z_5 H locs ls hP hD hS hl hf
          rw [ek_6] at hf
          obtain ⟨hi_8, hf⟩ := wrI_in hf
          refine xiast hx hb hK.1 hP hD hS 3 0 rfl rfl hi_8 dX8_court_67 (fun t_fresh_7 H locs et_fresh_7 hP hD hS => ?_)
          have hf := hf t_fresh_7 et_fresh_7
          have hP : va_P G.1 vwCl [oX8 t_h t_a t_thrown t_taped t_at t_behind t_size t_kind t_number t_wrong t_wrongAt t_faultKind t_faultPlace t_x t_wayLong t_bothLeast, arI G (t_a 1) 558 t_all, arI G (t_a 3) 900 t_tape, arI G (t_a 4) 186 t_fresh_7] H := hP
          have hD : va_D A [oX8 t_h t_a t_thrown t_taped t_at t_behind t_size t_kind t_number t_wrong t_wrongAt t_faultKind t_faultPlace t_x t_wayLong t_bothLeast, arI G (t_a 1) 558 t_all, arI G (t_a 3) 900 t_tape, arI G (t_a 4) 186 t_fresh_7] := hD
          refine lv_iinc (v := (l2 + 1)) (lv' := [(2, .int (l2 + 1)), (0, .ref t_h)]) hx hb dX8_court_68 hl (k := 1) rfl (by rfl) (by decide) rfl (fun ls hl => ?_)
          refine lv_goto (tgt := 44) hx hb dX8_court_71 (by decide) ?_
          exact ih _ _ _ _ _ hP hD hS (lv_sub hl [1, 0] rfl) hf hX
        refine lv_icmp_ne (tgt := 66) hx hb dX8_court_58 (by decide) (fun c_9 => ?_) (fun c_9 => ?_)
        · have hf := iq c_9 hf
          refine lv_iconst (v := 0) hx hb dX8_court_66 (by decide) ?_
          exact J67 _ _ _ _ hP hD hS (lv_sub hl [0, 1] rfl) hf
        · have hf := ip c_9 hf
          refine lv_bipush (v := 60) hx hb dX8_court_61 (by decide) ?_
          refine lv_goto (tgt := 67) hx hb dX8_court_63 (by decide) ?_
          exact J67 _ _ _ _ hP hD hS (lv_sub hl [0, 1] rfl) hf
  have L78 : ∀ (t_thrown : Int32) (t_all : Nat → Int32) (t_taped : Int32) (t_size : Int32) (t_faultKind : Int32) (t_faultPlace : Int32) (K : (Nat → Int32) → Int32 → Int32 → Int32 → Int32 → Int32 → Int32 → Option (Int32 × Int32 × (Nat → Int32) × (Nat → Int32) × Int32 × Int32 × Int32 × Int32 × Int32 × Int32 × Int32 × Int32 × Int32 × Int32)) (n : Nat) (t_fresh : Nat → Int32) (t_at : Int32) (t_behind : Int32) (t_kind : Int32) (t_number : Int32) (t_wrong : Int32) (t_wrongAt : Int32) (H : Heap) (locs : List Loc) (ls : Array Slot), va_P G.1 vwCl [oX8 t_h t_a t_thrown t_taped t_at t_behind t_size t_kind t_number t_wrong t_wrongAt t_faultKind t_faultPlace t_x t_wayLong t_bothLeast, arI G (t_a 1) 558 t_all, arI G (t_a 3) 900 t_tape, arI G (t_a 4) 186 t_fresh] H → va_D A [oX8 t_h t_a t_thrown t_taped t_at t_behind t_size t_kind t_number t_wrong t_wrongAt t_faultKind t_faultPlace t_x t_wayLong t_bothLeast, arI G (t_a 1) 558 t_all, arI G (t_a 3) 900 t_tape, arI G (t_a 4) 186 t_fresh] → va_S A s.heap H locs → lv_has ls 3 [(0, .ref t_h)] → fX8_court_78 t_tape t_size K n t_fresh t_at t_behind t_kind t_number t_wrong t_wrongAt = some (r, o_t_thrown, o_t_all, o_t_fresh, o_t_taped, o_t_at, o_t_behind, o_t_size, o_t_kind, o_t_number, o_t_wrong, o_t_wrongAt, o_t_faultKind, o_t_faultPlace) → (∀ (kt_fresh : Nat → Int32) (kt_at : Int32) (kt_behind : Int32) (kt_kind : Int32) (kt_number : Int32) (kt_wrong : Int32) (kt_wrongAt : Int32) (H : Heap) (locs : List Loc) (ls : Array Slot), va_P G.1 vwCl [oX8 t_h t_a t_thrown t_taped kt_at kt_behind t_size kt_kind kt_number kt_wrong kt_wrongAt t_faultKind t_faultPlace t_x t_wayLong t_bothLeast, arI G (t_a 1) 558 t_all, arI G (t_a 3) 900 t_tape, arI G (t_a 4) 186 kt_fresh] H → va_D A [oX8 t_h t_a t_thrown t_taped kt_at kt_behind t_size kt_kind kt_number kt_wrong kt_wrongAt t_faultKind t_faultPlace t_x t_wayLong t_bothLeast, arI G (t_a 1) 558 t_all, arI G (t_a 3) 900 t_tape, arI G (t_a 4) 186 kt_fresh] → va_S A s.heap H locs → lv_has ls 3 [(0, .ref t_h)] → K kt_fresh kt_at kt_behind kt_kind kt_number kt_wrong kt_wrongAt = some (r, o_t_thrown, o_t_all, o_t_fresh, o_t_taped, o_t_at, o_t_behind, o_t_size, o_t_kind, o_t_number, o_t_wrong, o_t_wrongAt, o_t_faultKind, o_t_faultPlace) → W p l e ({ frames := 10, cells := 0, slots := 0, locals := 251 } : Room) s m args below meth c H locs 0 0 Q (F0 m 101 ls [])) → W p l e ({ frames := 10, cells := 0, slots := 0, locals := 251 } : Room) s m args below meth c H locs 0 0 Q (F0 m 78 ls []) := by
    intro t_thrown t_all t_taped t_size t_faultKind t_faultPlace K n
    induction n with
    | zero => intro t_fresh t_at t_behind t_kind t_number t_wrong t_wrongAt H locs ls hP hD hS hl hf; rw [fX8_court_78] at hf; cases hf
    | succ n ih =>
      intro t_fresh t_at t_behind t_kind t_number t_wrong t_wrongAt H locs ls hP hD hS hl hf hX
      rw [fX8_court_78] at hf
      refine lv_aload_n hx hb dX8_court_78 rfl (lv_at hl 0 rfl) ?_
      refine va_get (D := G.1) (ci := 8) (v := .int t_wrong) (C := RX8) (T := TX8) (N := 33) hx hb hw inW8 hown hK.1 hP 0 rfl rfl 11 (by decide) (hw _ kw_13_22) (fun _ h9 => h9) rfl dX8_court_79 ?_
      refine lv_if_ne (tgt := 101) hx hb dX8_court_82 (by decide) (fun c_16 => ?_) (fun c_16 => ?_)
      · have hf := iq c_16 hf
        exact hX _ _ _ _ _ _ _ _ _ _ hP hD hS (lv_sub hl [0] rfl) hf
      · have hf := ip c_16 hf
        refine lv_aload_n hx hb dX8_court_85 rfl (lv_at hl 0 rfl) ?_
        refine va_get (D := G.1) (ci := 8) (v := .int t_kind) (C := RX8) (T := TX8) (N := 33) hx hb hw inW8 hown hK.1 hP 0 rfl rfl 9 (by decide) (hw _ kw_13_23) (fun _ h9 => h9) rfl dX8_court_86 ?_
        refine lv_bipush (v := 10) hx hb dX8_court_89 (by decide) ?_
        refine lv_icmp_eq (tgt := 101) hx hb dX8_court_91 (by decide) (fun c_17 => ?_) (fun c_17 => ?_)
        · have hf := ip c_17 hf
          exact hX _ _ _ _ _ _ _ _ _ _ hP hD hS (lv_sub hl [0] rfl) hf
        · have hf := iq c_17 hf
          refine lv_aload_n hx hb dX8_court_94 rfl (lv_at hl 0 rfl) ?_
          obtain ⟨t_fresh_18, t_at_19, t_behind_20, t_kind_21, t_number_22, t_wrong_23, t_wrongAt_24, hc_25, hf⟩ := bd7_in hf
          refine wcV (w1 := [oX8 t_h t_a t_thrown t_taped t_at_19 t_behind_20 t_size t_kind_21 t_number_22 t_wrong_23 t_wrongAt_24 t_faultKind t_faultPlace t_x t_wayLong t_bothLeast, arI G (t_a 3) 900 t_tape, arI G (t_a 4) 186 t_fresh_18]) (va_runV (As := []) (rest := []) ⟨hx, hb, hml, hown, hw⟩ ((ctX8_readLine l G ad av t_h t_a t_thrown t_tape t_fresh t_taped t_at t_behind t_size t_kind t_number t_wrong t_wrongAt t_faultKind t_faultPlace t_x t_wayLong t_bothLeast _ _ _ _ _ _ _ hc_25) _) (kV hw calX8_readLine kw_15_3 rfl rfl ⟨Nat.le_of_ble_eq_true rfl, Nat.le_of_ble_eq_true rfl⟩) (wsPV (hP.sub (ws' := [oX8 t_h t_a t_thrown t_taped t_at t_behind t_size t_kind t_number t_wrong t_wrongAt t_faultKind t_faultPlace t_x t_wayLong t_bothLeast, arI G (t_a 3) 900 t_tape, arI G (t_a 4) 186 t_fresh]) [0, 2, 3] rfl) (hD.sub (ws' := [oX8 t_h t_a t_thrown t_taped t_at t_behind t_size t_kind t_number t_wrong t_wrongAt t_faultKind t_faultPlace t_x t_wayLong t_bothLeast, arI G (t_a 3) 900 t_tape, arI G (t_a 4) 186 t_fresh]) [0, 2, 3] (by decide) rfl) hE hS (va_free (wc := [oX8 t_h t_a t_thrown t_taped t_at t_behind t_size t_kind t_number t_wrong t_wrongAt t_faultKind t_faultPlace t_x t_wayLong t_bothLeast, arI G (t_a 3) 900 t_tape, arI G (t_a 4) 186 t_fresh]) hD hS hA [0, 2, 3] rfl) hK (ci := 8) (q0 := 0) rfl rfl) rfl rfl hl.1 rfl (lv_room (Nat.le_of_ble_eq_true rfl)) dX8_court_95 ⟨Nat.zero_le _, Nat.zero_le _⟩) hS hA hP hD [0, 2, 3] rfl rfl (fun H locs hP hD hS => ?_)
          have hP : va_P G.1 vwCl [oX8 t_h t_a t_thrown t_taped t_at_19 t_behind_20 t_size t_kind_21 t_number_22 t_wrong_23 t_wrongAt_24 t_faultKind t_faultPlace t_x t_wayLong t_bothLeast, arI G (t_a 1) 558 t_all, arI G (t_a 3) 900 t_tape, arI G (t_a 4) 186 t_fresh_18] H := hP
          have hD : va_D A [oX8 t_h t_a t_thrown t_taped t_at_19 t_behind_20 t_size t_kind_21 t_number_22 t_wrong_23 t_wrongAt_24 t_faultKind t_faultPlace t_x t_wayLong t_bothLeast, arI G (t_a 1) 558 t_all, arI G (t_a 3) 900 t_tape, arI G (t_a 4) 186 t_fresh_18] := hD
          refine lv_goto (tgt := 78) hx hb dX8_court_98 (by decide) ?_
          exact ih _ _ _ _ _ _ _ _ _ _ hP hD hS (lv_sub hl [0] rfl) hf hX
  have L145 : ∀ (t_thrown : Int32) (t_fresh : Nat → Int32) (t_taped : Int32) (t_at : Int32) (t_behind : Int32) (t_size : Int32) (t_kind : Int32) (t_number : Int32) (t_wrong : Int32) (t_wrongAt : Int32) (t_faultKind : Int32) (t_faultPlace : Int32) (K : (Nat → Int32) → Option (Int32 × Int32 × (Nat → Int32) × (Nat → Int32) × Int32 × Int32 × Int32 × Int32 × Int32 × Int32 × Int32 × Int32 × Int32 × Int32)) (n : Nat) (l2 : Int32) (t_all : Nat → Int32) (H : Heap) (locs : List Loc) (ls : Array Slot), va_P G.1 vwCl [oX8 t_h t_a t_thrown t_taped t_at t_behind t_size t_kind t_number t_wrong t_wrongAt t_faultKind t_faultPlace t_x t_wayLong t_bothLeast, arI G (t_a 1) 558 t_all, arI G (t_a 3) 900 t_tape, arI G (t_a 4) 186 t_fresh] H → va_D A [oX8 t_h t_a t_thrown t_taped t_at t_behind t_size t_kind t_number t_wrong t_wrongAt t_faultKind t_faultPlace t_x t_wayLong t_bothLeast, arI G (t_a 1) 558 t_all, arI G (t_a 3) 900 t_tape, arI G (t_a 4) 186 t_fresh] → va_S A s.heap H locs → lv_has ls 3 [(0, .ref t_h), (2, .int l2)] → fX8_court_145 t_fresh K n l2 t_all = some (r, o_t_thrown, o_t_all, o_t_fresh, o_t_taped, o_t_at, o_t_behind, o_t_size, o_t_kind, o_t_number, o_t_wrong, o_t_wrongAt, o_t_faultKind, o_t_faultPlace) → (∀ (kt_all : Nat → Int32) (H : Heap) (locs : List Loc) (ls : Array Slot), va_P G.1 vwCl [oX8 t_h t_a t_thrown t_taped t_at t_behind t_size t_kind t_number t_wrong t_wrongAt t_faultKind t_faultPlace t_x t_wayLong t_bothLeast, arI G (t_a 1) 558 kt_all, arI G (t_a 3) 900 t_tape, arI G (t_a 4) 186 t_fresh] H → va_D A [oX8 t_h t_a t_thrown t_taped t_at t_behind t_size t_kind t_number t_wrong t_wrongAt t_faultKind t_faultPlace t_x t_wayLong t_bothLeast, arI G (t_a 1) 558 kt_all, arI G (t_a 3) 900 t_tape, arI G (t_a 4) 186 t_fresh] → va_S A s.heap H locs → lv_has ls 3 [(0, .ref t_h)] → K kt_all = some (r, o_t_thrown, o_t_all, o_t_fresh, o_t_taped, o_t_at, o_t_behind, o_t_size, o_t_kind, o_t_number, o_t_wrong, o_t_wrongAt, o_t_faultKind, o_t_faultPlace) → W p l e ({ frames := 10, cells := 0, slots := 0, locals := 251 } : Room) s m args below meth c H locs 0 0 Q (F0 m 170 ls [])) → W p l e ({ frames := 10, cells := 0, slots := 0, locals := 251 } : Room) s m args below meth c H locs 0 0 Q (F0 m 145 ls []) := by
    intro t_thrown t_fresh t_taped t_at t_behind t_size t_kind t_number t_wrong t_wrongAt t_faultKind t_faultPlace K n
    induction n with
    | zero => intro l2 t_all H locs ls hP hD hS hl hf; rw [fX8_court_145] at hf; cases hf
    | succ n ih =>
      intro l2 t_all H locs ls hP hD hS hl hf hX
      rw [fX8_court_145] at hf
      refine lv_iload_n hx hb dX8_court_145 rfl (lv_at hl 1 rfl) ?_
      refine lv_sipush (v := 186) hx hb dX8_court_146 (by decide) ?_
      refine lv_icmp_ge (tgt := 170) hx hb dX8_court_149 (by decide) (fun c_36 => ?_) (fun c_36 => ?_)
      · have hf := ip c_36 hf
        exact hX _ _ _ _ hP hD hS (lv_sub hl [0] rfl) hf
      · have hf := iq c_36 hf
        refine lv_aload_n hx hb dX8_court_152 rfl (lv_at hl 0 rfl) ?_
        refine va_get (D := G.1) (ci := 8) (v := .ref (t_a 1)) (C := RX8) (T := TX8) (N := 33) hx hb hw inW8 hown hK.1 hP 0 rfl rfl 1 (by decide) (hw _ kw_5_11) (fun _ h9 => h9) rfl dX8_court_153 ?_
        refine lv_iload_n hx hb dX8_court_156 rfl (lv_at hl 1 rfl) ?_
        refine lv_aload_n hx hb dX8_court_157 rfl (lv_at hl 0 rfl) ?_
        refine va_get (D := G.1) (ci := 8) (v := .ref (t_a 4)) (C := RX8) (T := TX8) (N := 33) hx hb hw inW8 hown hK.1 hP 0 rfl rfl 4 (by decide) (hw _ kw_5_14) (fun _ h9 => h9) rfl dX8_court_158 ?_
        refine lv_iload_n hx hb dX8_court_161 rfl (lv_at hl 1 rfl) ?_
        obtain ⟨hi_38, hf⟩ := rdI_in hf
        refine va_iald hx hb hK.1 hP 3 0 rfl rfl hi_38 dX8_court_162 ?_
        refine lv_topi (fun x_37 ex_37 => ?_)
        have hf := hf x_37 ex_37
        obtain ⟨hi_40, hf⟩ := wrI_in hf
        refine xiast hx hb hK.1 hP hD hS 1 0 rfl rfl hi_40 dX8_court_163 (fun t_all_39 H locs et_all_39 hP hD hS => ?_)
        have hf := hf t_all_39 et_all_39
        have hP : va_P G.1 vwCl [oX8 t_h t_a t_thrown t_taped t_at t_behind t_size t_kind t_number t_wrong t_wrongAt t_faultKind t_faultPlace t_x t_wayLong t_bothLeast, arI G (t_a 1) 558 t_all_39, arI G (t_a 3) 900 t_tape, arI G (t_a 4) 186 t_fresh] H := hP
        have hD : va_D A [oX8 t_h t_a t_thrown t_taped t_at t_behind t_size t_kind t_number t_wrong t_wrongAt t_faultKind t_faultPlace t_x t_wayLong t_bothLeast, arI G (t_a 1) 558 t_all_39, arI G (t_a 3) 900 t_tape, arI G (t_a 4) 186 t_fresh] := hD
        refine lv_iinc (v := (l2 + 1)) (lv' := [(2, .int (l2 + 1)), (0, .ref t_h)]) hx hb dX8_court_164 hl (k := 1) rfl (by rfl) (by decide) rfl (fun ls hl => ?_)
        refine lv_goto (tgt := 145) hx hb dX8_court_167 (by decide) ?_
        exact ih _ _ _ _ _ hP hD hS (lv_sub hl [1, 0] rfl) hf hX
  unfold fX8_court at hf
  refine lv_aload_n hx hb dX8_court_0 rfl (lv_at hl 0 rfl) ?_
  refine lv_iconst (v := 0) hx hb dX8_court_1 (by decide) ?_
  refine va_put (D := G.1) (ci := 8) (v := .int 0) (ty := .int) (C := RX8) (T := TX8) (N := 33) hx hb hw inW8 tyX8 tyX8_ok nmX8 hown hK.1 hP hD hS 0 rfl rfl 0 (by decide) (hw _ kw_6_21) (fun _ h9 => h9) rfl (by decide +kernel) rfl rfl (Nat.le_of_ble_eq_true rfl) dX8_court_2 (fun H locs hP hD hS => ?_)
  have hP : va_P G.1 vwCl [oX8 t_h t_a 0 t_taped t_at t_behind t_size t_kind t_number t_wrong t_wrongAt t_faultKind t_faultPlace t_x t_wayLong t_bothLeast, arI G (t_a 1) 558 t_all, arI G (t_a 3) 900 t_tape, arI G (t_a 4) 186 t_fresh] H := hP
  have hD : va_D A [oX8 t_h t_a 0 t_taped t_at t_behind t_size t_kind t_number t_wrong t_wrongAt t_faultKind t_faultPlace t_x t_wayLong t_bothLeast, arI G (t_a 1) 558 t_all, arI G (t_a 3) 900 t_tape, arI G (t_a 4) 186 t_fresh] := hD
  refine lv_iload_n hx hb dX8_court_5 rfl (lv_at hl 1 rfl) ?_
  refine lv_i2l hx hb dX8_court_6 rfl ?_
  refine lv_lconst (v := 0) hx hb dX8_court_7 (by decide) ?_
  refine lv_aload_n hx hb dX8_court_8 rfl (lv_at hl 0 rfl) ?_
  refine va_get (D := G.1) (ci := 8) (v := .int t_taped) (C := RX8) (T := TX8) (N := 33) hx hb hw inW8 hown hK.1 hP 0 rfl rfl 5 (by decide) (hw _ kw_6_22) (fun _ h9 => h9) rfl dX8_court_9 ?_
  refine lv_i2l hx hb dX8_court_12 rfl ?_
  obtain ⟨r_1, hc_2, hf⟩ := bd1_in hf
  refine rcI (va_runS (As := [.long (Int32.toInt64 v1), .long 0, .long (Int32.toInt64 t_taped)]) (rest := []) ⟨hx, hb, hml, hown, hw⟩ ((ctX8_within l G (Int32.toInt64 v1) 0 (Int32.toInt64 t_taped) _ hc_2) _) (kS hw calX8_within kw_14_2 rfl rfl ⟨Nat.le_of_ble_eq_true rfl, Nat.le_of_ble_eq_true rfl⟩) (rpS (hP.sub (ws' := []) [] rfl) hK) rfl rfl hl.1 rfl (lv_room (Nat.le_of_ble_eq_true rfl)) dX8_court_13 ⟨Nat.zero_le _, Nat.zero_le _⟩) hS hA hP (fun H locs hP hS => ?_)
  refine lv_if_ne (tgt := 22) hx hb dX8_court_16 (by decide) (fun c_3 => ?_) (fun c_3 => ?_)
  · have hf := iq c_3 hf
    refine lv_aload_n hx hb dX8_court_22 rfl (lv_at hl 0 rfl) ?_
    refine lv_iload_n hx hb dX8_court_23 rfl (lv_at hl 1 rfl) ?_
    refine va_put (D := G.1) (ci := 8) (v := .int v1) (ty := .int) (C := RX8) (T := TX8) (N := 33) hx hb hw inW8 tyX8 tyX8_ok nmX8 hown hK.1 hP hD hS 0 rfl rfl 8 (by decide) (hw _ kw_13_20) (fun _ h9 => h9) rfl (by decide +kernel) rfl rfl (Nat.le_of_ble_eq_true rfl) dX8_court_24 (fun H locs hP hD hS => ?_)
    have hP : va_P G.1 vwCl [oX8 t_h t_a 0 t_taped t_at t_behind v1 t_kind t_number t_wrong t_wrongAt t_faultKind t_faultPlace t_x t_wayLong t_bothLeast, arI G (t_a 1) 558 t_all, arI G (t_a 3) 900 t_tape, arI G (t_a 4) 186 t_fresh] H := hP
    have hD : va_D A [oX8 t_h t_a 0 t_taped t_at t_behind v1 t_kind t_number t_wrong t_wrongAt t_faultKind t_faultPlace t_x t_wayLong t_bothLeast, arI G (t_a 1) 558 t_all, arI G (t_a 3) 900 t_tape, arI G (t_a 4) 186 t_fresh] := hD
    refine lv_aload_n hx hb dX8_court_27 rfl (lv_at hl 0 rfl) ?_
    refine lv_iconst (v := 0) hx hb dX8_court_28 (by decide) ?_
    refine va_put (D := G.1) (ci := 8) (v := .int 0) (ty := .int) (C := RX8) (T := TX8) (N := 33) hx hb hw inW8 tyX8 tyX8_ok nmX8 hown hK.1 hP hD hS 0 rfl rfl 5 (by decide) (hw _ kw_6_22) (fun _ h9 => h9) rfl (by decide +kernel) rfl rfl (Nat.le_of_ble_eq_true rfl) dX8_court_29 (fun H locs hP hD hS => ?_)
    have hP : va_P G.1 vwCl [oX8 t_h t_a 0 0 t_at t_behind v1 t_kind t_number t_wrong t_wrongAt t_faultKind t_faultPlace t_x t_wayLong t_bothLeast, arI G (t_a 1) 558 t_all, arI G (t_a 3) 900 t_tape, arI G (t_a 4) 186 t_fresh] H := hP
    have hD : va_D A [oX8 t_h t_a 0 0 t_at t_behind v1 t_kind t_number t_wrong t_wrongAt t_faultKind t_faultPlace t_x t_wayLong t_bothLeast, arI G (t_a 1) 558 t_all, arI G (t_a 3) 900 t_tape, arI G (t_a 4) 186 t_fresh] := hD
    refine lv_aload_n hx hb dX8_court_32 rfl (lv_at hl 0 rfl) ?_
    refine lv_iconst (v := 0) hx hb dX8_court_33 (by decide) ?_
    refine va_put (D := G.1) (ci := 8) (v := .int 0) (ty := .int) (C := RX8) (T := TX8) (N := 33) hx hb hw inW8 tyX8 tyX8_ok nmX8 hown hK.1 hP hD hS 0 rfl rfl 7 (by decide) (hw _ kw_13_21) (fun _ h9 => h9) rfl (by decide +kernel) rfl rfl (Nat.le_of_ble_eq_true rfl) dX8_court_34 (fun H locs hP hD hS => ?_)
    have hP : va_P G.1 vwCl [oX8 t_h t_a 0 0 t_at 0 v1 t_kind t_number t_wrong t_wrongAt t_faultKind t_faultPlace t_x t_wayLong t_bothLeast, arI G (t_a 1) 558 t_all, arI G (t_a 3) 900 t_tape, arI G (t_a 4) 186 t_fresh] H := hP
    have hD : va_D A [oX8 t_h t_a 0 0 t_at 0 v1 t_kind t_number t_wrong t_wrongAt t_faultKind t_faultPlace t_x t_wayLong t_bothLeast, arI G (t_a 1) 558 t_all, arI G (t_a 3) 900 t_tape, arI G (t_a 4) 186 t_fresh] := hD
    refine lv_aload_n hx hb dX8_court_37 rfl (lv_at hl 0 rfl) ?_
    refine lv_iconst (v := 0) hx hb dX8_court_38 (by decide) ?_
    refine va_put (D := G.1) (ci := 8) (v := .int 0) (ty := .int) (C := RX8) (T := TX8) (N := 33) hx hb hw inW8 tyX8 tyX8_ok nmX8 hown hK.1 hP hD hS 0 rfl rfl 11 (by decide) (hw _ kw_13_22) (fun _ h9 => h9) rfl (by decide +kernel) rfl rfl (Nat.le_of_ble_eq_true rfl) dX8_court_39 (fun H locs hP hD hS => ?_)
    have hP : va_P G.1 vwCl [oX8 t_h t_a 0 0 t_at 0 v1 t_kind t_number 0 t_wrongAt t_faultKind t_faultPlace t_x t_wayLong t_bothLeast, arI G (t_a 1) 558 t_all, arI G (t_a 3) 900 t_tape, arI G (t_a 4) 186 t_fresh] H := hP
    have hD : va_D A [oX8 t_h t_a 0 0 t_at 0 v1 t_kind t_number 0 t_wrongAt t_faultKind t_faultPlace t_x t_wayLong t_bothLeast, arI G (t_a 1) 558 t_all, arI G (t_a 3) 900 t_tape, arI G (t_a 4) 186 t_fresh] := hD
    refine lv_iconst (v := 0) hx hb dX8_court_42 (by decide) ?_
    refine lv_istore_n (lv' := [(2, .int 0), (0, .ref t_h), (1, .int v1)]) hx hb dX8_court_43 rfl hl (by decide) rfl (fun ls hl => ?_)
    refine L44 _ _ _ _ _ _ _ _ _ _ _ _ _ _ _ _ _ _ _ hP hD hS (lv_sub hl [1, 0] rfl) hf (fun t_fresh_10 H locs ls hP hD hS hl hf => ?_)
    refine lv_aload_n hx hb dX8_court_74 rfl (lv_at hl 0 rfl) ?_
    obtain ⟨t_at_11, t_behind_12, t_kind_13, t_number_14, hc_15, hf⟩ := bd4_in hf
    refine wcV (w1 := [oX8 t_h t_a 0 0 t_at_11 t_behind_12 v1 t_kind_13 t_number_14 0 t_wrongAt t_faultKind t_faultPlace t_x t_wayLong t_bothLeast, arI G (t_a 3) 900 t_tape]) (va_runV (As := []) (rest := []) ⟨hx, hb, hml, hown, hw⟩ ((ctX8_next l G ad av t_h t_a 0 t_tape 0 t_at 0 v1 t_kind t_number 0 t_wrongAt t_faultKind t_faultPlace t_x t_wayLong t_bothLeast _ _ _ _ hc_15) _) (kV hw calX8_next kw_14_5 rfl rfl ⟨Nat.le_of_ble_eq_true rfl, Nat.le_of_ble_eq_true rfl⟩) (wsPV (hP.sub (ws' := [oX8 t_h t_a 0 0 t_at 0 v1 t_kind t_number 0 t_wrongAt t_faultKind t_faultPlace t_x t_wayLong t_bothLeast, arI G (t_a 3) 900 t_tape]) [0, 2] rfl) (hD.sub (ws' := [oX8 t_h t_a 0 0 t_at 0 v1 t_kind t_number 0 t_wrongAt t_faultKind t_faultPlace t_x t_wayLong t_bothLeast, arI G (t_a 3) 900 t_tape]) [0, 2] (by decide) rfl) hE hS (va_free (wc := [oX8 t_h t_a 0 0 t_at 0 v1 t_kind t_number 0 t_wrongAt t_faultKind t_faultPlace t_x t_wayLong t_bothLeast, arI G (t_a 3) 900 t_tape]) hD hS hA [0, 2] rfl) hK (ci := 8) (q0 := 0) rfl rfl) rfl rfl hl.1 rfl (lv_room (Nat.le_of_ble_eq_true rfl)) dX8_court_75 ⟨Nat.zero_le _, Nat.zero_le _⟩) hS hA hP hD [0, 2] rfl rfl (fun H locs hP hD hS => ?_)
    have hP : va_P G.1 vwCl [oX8 t_h t_a 0 0 t_at_11 t_behind_12 v1 t_kind_13 t_number_14 0 t_wrongAt t_faultKind t_faultPlace t_x t_wayLong t_bothLeast, arI G (t_a 1) 558 t_all, arI G (t_a 3) 900 t_tape, arI G (t_a 4) 186 t_fresh_10] H := hP
    have hD : va_D A [oX8 t_h t_a 0 0 t_at_11 t_behind_12 v1 t_kind_13 t_number_14 0 t_wrongAt t_faultKind t_faultPlace t_x t_wayLong t_bothLeast, arI G (t_a 1) 558 t_all, arI G (t_a 3) 900 t_tape, arI G (t_a 4) 186 t_fresh_10] := hD
    refine L78 _ _ _ _ _ _ _ _ _ _ _ _ _ _ _ _ _ _ hP hD hS (lv_sub hl [0] rfl) hf (fun t_fresh_26 t_at_27 t_behind_28 t_kind_29 t_number_30 t_wrong_31 t_wrongAt_32 H locs ls hP hD hS hl hf => ?_)
    refine lv_aload_n hx hb dX8_court_101 rfl (lv_at hl 0 rfl) ?_
    refine lv_aload_n hx hb dX8_court_102 rfl (lv_at hl 0 rfl) ?_
    refine va_get (D := G.1) (ci := 8) (v := .int t_wrong_31) (C := RX8) (T := TX8) (N := 33) hx hb hw inW8 hown hK.1 hP 0 rfl rfl 11 (by decide) (hw _ kw_13_22) (fun _ h9 => h9) rfl dX8_court_103 ?_
    refine va_put (D := G.1) (ci := 8) (v := .int t_wrong_31) (ty := .int) (C := RX8) (T := TX8) (N := 33) hx hb hw inW8 tyX8 tyX8_ok nmX8 hown hK.1 hP hD hS 0 rfl rfl 13 (by decide) (hw _ kw_14_0) (fun _ h9 => h9) rfl (by decide +kernel) rfl rfl (Nat.le_of_ble_eq_true rfl) dX8_court_106 (fun H locs hP hD hS => ?_)
    have hP : va_P G.1 vwCl [oX8 t_h t_a 0 0 t_at_27 t_behind_28 v1 t_kind_29 t_number_30 t_wrong_31 t_wrongAt_32 t_wrong_31 t_faultPlace t_x t_wayLong t_bothLeast, arI G (t_a 1) 558 t_all, arI G (t_a 3) 900 t_tape, arI G (t_a 4) 186 t_fresh_26] H := hP
    have hD : va_D A [oX8 t_h t_a 0 0 t_at_27 t_behind_28 v1 t_kind_29 t_number_30 t_wrong_31 t_wrongAt_32 t_wrong_31 t_faultPlace t_x t_wayLong t_bothLeast, arI G (t_a 1) 558 t_all, arI G (t_a 3) 900 t_tape, arI G (t_a 4) 186 t_fresh_26] := hD
    refine lv_aload_n hx hb dX8_court_109 rfl (lv_at hl 0 rfl) ?_
    refine lv_aload_n hx hb dX8_court_110 rfl (lv_at hl 0 rfl) ?_
    refine va_get (D := G.1) (ci := 8) (v := .int t_wrong_31) (C := RX8) (T := TX8) (N := 33) hx hb hw inW8 hown hK.1 hP 0 rfl rfl 11 (by decide) (hw _ kw_13_22) (fun _ h9 => h9) rfl dX8_court_111 ?_
    refine jn_el hf (fun k_34 ek_34 hf => ?_)
    have J125 : ∀ (z_33 : Int32) (H : Heap) (locs : List Loc) (ls : Array Slot), va_P G.1 vwCl [oX8 t_h t_a 0 0 t_at_27 t_behind_28 v1 t_kind_29 t_number_30 t_wrong_31 t_wrongAt_32 t_wrong_31 t_faultPlace t_x t_wayLong t_bothLeast, arI G (t_a 1) 558 t_all, arI G (t_a 3) 900 t_tape, arI G (t_a 4) 186 t_fresh_26] H → va_D A [oX8 t_h t_a 0 0 t_at_27 t_behind_28 v1 t_kind_29 t_number_30 t_wrong_31 t_wrongAt_32 t_wrong_31 t_faultPlace t_x t_wayLong t_bothLeast, arI G (t_a 1) 558 t_all, arI G (t_a 3) 900 t_tape, arI G (t_a 4) 186 t_fresh_26] → va_S A s.heap H locs → lv_has ls 3 [(0, .ref t_h)] → k_34 z_33 = some (r, o_t_thrown, o_t_all, o_t_fresh, o_t_taped, o_t_at, o_t_behind, o_t_size, o_t_kind, o_t_number, o_t_wrong, o_t_wrongAt, o_t_faultKind, o_t_faultPlace) → W p l e ({ frames := 10, cells := 0, slots := 0, locals := 251 } : Room) s m args below meth c H locs 0 0 Q (F0 m 125 ls [.int z_33, .ref t_h]) := by
      intro z_33 H locs ls hP hD hS hl hf
      rw [ek_34] at hf
      refine va_put (D := G.1) (ci := 8) (v := .int z_33) (ty := .int) (C := RX8) (T := TX8) (N := 33) hx hb hw inW8 tyX8 tyX8_ok nmX8 hown hK.1 hP hD hS 0 rfl rfl 14 (by decide) (hw _ kw_5_15) (fun _ h9 => h9) rfl (by decide +kernel) rfl rfl (Nat.le_of_ble_eq_true rfl) dX8_court_125 (fun H locs hP hD hS => ?_)
      have hP : va_P G.1 vwCl [oX8 t_h t_a 0 0 t_at_27 t_behind_28 v1 t_kind_29 t_number_30 t_wrong_31 t_wrongAt_32 t_wrong_31 z_33 t_x t_wayLong t_bothLeast, arI G (t_a 1) 558 t_all, arI G (t_a 3) 900 t_tape, arI G (t_a 4) 186 t_fresh_26] H := hP
      have hD : va_D A [oX8 t_h t_a 0 0 t_at_27 t_behind_28 v1 t_kind_29 t_number_30 t_wrong_31 t_wrongAt_32 t_wrong_31 z_33 t_x t_wayLong t_bothLeast, arI G (t_a 1) 558 t_all, arI G (t_a 3) 900 t_tape, arI G (t_a 4) 186 t_fresh_26] := hD
      refine lv_aload_n hx hb dX8_court_128 rfl (lv_at hl 0 rfl) ?_
      refine va_get (D := G.1) (ci := 8) (v := .int t_wrong_31) (C := RX8) (T := TX8) (N := 33) hx hb hw inW8 hown hK.1 hP 0 rfl rfl 11 (by decide) (hw _ kw_13_22) (fun _ h9 => h9) rfl dX8_court_129 ?_
      refine lv_if_eq (tgt := 143) hx hb dX8_court_132 (by decide) (fun c_35 => ?_) (fun c_35 => ?_)
      · have hf := ip c_35 hf
        refine lv_iconst (v := 0) hx hb dX8_court_143 (by decide) ?_
        refine lv_istore_n (lv' := [(2, .int 0), (0, .ref t_h)]) hx hb dX8_court_144 rfl hl (by decide) rfl (fun ls hl => ?_)
        refine L145 _ _ _ _ _ _ _ _ _ _ _ _ _ _ _ _ _ _ _ hP hD hS (lv_sub hl [1, 0] rfl) hf (fun t_all_41 H locs ls hP hD hS hl hf => ?_)
        refine lv_aload_n hx hb dX8_court_170 rfl (lv_at hl 0 rfl) ?_
        refine va_get (D := G.1) (ci := 8) (v := .ref (t_a 1)) (C := RX8) (T := TX8) (N := 33) hx hb hw inW8 hown hK.1 hP 0 rfl rfl 1 (by decide) (hw _ kw_5_11) (fun _ h9 => h9) rfl dX8_court_171 ?_
        refine lv_iconst (v := 5) hx hb dX8_court_174 (by decide) ?_
        obtain ⟨hi_43, hf⟩ := rdI_in hf
        refine va_iald hx hb hK.1 hP 1 0 rfl rfl hi_43 dX8_court_175 ?_
        refine lv_topi (fun x_42 ex_42 => ?_)
        have hf := hf x_42 ex_42
        exact hRet _ _ _ _ _ _ _ _ _ _ _ _ _ _ _ _ _ _ hf hP hS dX8_court_176
      · have hf := iq c_35 hf
        refine lv_bipush (v := (-30)) hx hb dX8_court_135 (by decide) ?_
        refine lv_aload_n hx hb dX8_court_137 rfl (lv_at hl 0 rfl) ?_
        refine va_get (D := G.1) (ci := 8) (v := .int t_wrong_31) (C := RX8) (T := TX8) (N := 33) hx hb hw inW8 hown hK.1 hP 0 rfl rfl 11 (by decide) (hw _ kw_13_22) (fun _ h9 => h9) rfl dX8_court_138 ?_
        refine lv_isub hx hb dX8_court_141 ?_
        exact hRet _ _ _ _ _ _ _ _ _ _ _ _ _ _ _ _ _ _ hf hP hS dX8_court_142
    refine lv_if_ne (tgt := 121) hx hb dX8_court_114 (by decide) (fun c_44 => ?_) (fun c_44 => ?_)
    · have hf := iq c_44 hf
      refine lv_aload_n hx hb dX8_court_121 rfl (lv_at hl 0 rfl) ?_
      refine va_get (D := G.1) (ci := 8) (v := .int t_wrongAt_32) (C := RX8) (T := TX8) (N := 33) hx hb hw inW8 hown hK.1 hP 0 rfl rfl 12 (by decide) (hw _ kw_14_1) (fun _ h9 => h9) rfl dX8_court_122 ?_
      exact J125 _ _ _ _ hP hD hS (lv_sub hl [0] rfl) hf
    · have hf := ip c_44 hf
      refine lv_iconst (v := (-1)) hx hb dX8_court_117 (by decide) ?_
      refine lv_goto (tgt := 125) hx hb dX8_court_118 (by decide) ?_
      exact J125 _ _ _ _ hP hD hS (lv_sub hl [0] rfl) hf
  · have hf := ip c_3 hf
    refine lv_bipush (v := (-3)) hx hb dX8_court_19 (by decide) ?_
    exact hRet _ _ _ _ _ _ _ _ _ _ _ _ _ _ _ _ _ _ hf hP hS dX8_court_21
theorem calX8_goesBoth : CalV yX8_goesBoth cX8_goesBoth 8 none 6 := ⟨⟨kw_37_2, kw_1_5, by decide +kernel⟩, kw_37_0, kw_37_1⟩
set_option maxHeartbeats 8000000 in
set_option maxRecDepth 100000 in
theorem ctX8_goesBoth (l : Launch) (G : GT) : ∀ (dd : Nat) (t_h : Nat) (t_a : Nat → Nat) (t_thrown : Int32) (t_all : Nat → Int32) (t_taped : Int32) (t_at : Int32) (t_behind : Int32) (t_size : Int32) (t_kind : Int32) (t_number : Int32) (t_wrong : Int32) (t_wrongAt : Int32) (t_faultKind : Int32) (t_faultPlace : Int32) (t_x : Int32) (t_loss : Nat → Int32) (t_hops : Nat → Int32) (t_wayLong : Int32) (t_bothLeast : Int32) (v1 : Int32) (v2 : Int32) (v3 : Int32) (v4 : Int32) (v5 : Int32) (v6 : Int32) (o_t_loss : Nat → Int32) (o_t_hops : Nat → Int32) (o_t_bothLeast : Int32) (hf : fX8_goesBoth dd t_all t_loss t_hops t_bothLeast v1 v2 v3 v4 v5 v6 = some (o_t_loss, o_t_hops, o_t_bothLeast)), WrV l yX8_goesBoth (Cond.code yX8_goesBoth cX8_goesBoth 8 none) { frames := 5 + dd, cells := 0, slots := 0, locals := 121 + dd * 27 } G [.ref t_h, .int v1, .int v2, .int v3, .int v4, .int v5, .int v6] [oX8 t_h t_a t_thrown t_taped t_at t_behind t_size t_kind t_number t_wrong t_wrongAt t_faultKind t_faultPlace t_x t_wayLong t_bothLeast, arI G (t_a 1) 558 t_all, arI G (t_a 16) 12 t_loss, arI G (t_a 17) 12 t_hops] [oX8 t_h t_a t_thrown t_taped t_at t_behind t_size t_kind t_number t_wrong t_wrongAt t_faultKind t_faultPlace t_x t_wayLong o_t_bothLeast, arI G (t_a 1) 558 t_all, arI G (t_a 16) 12 o_t_loss, arI G (t_a 17) 12 o_t_hops] := by
  intro dd
  induction dd with
  | zero => intro t_h t_a t_thrown t_all t_taped t_at t_behind t_size t_kind t_number t_wrong t_wrongAt t_faultKind t_faultPlace t_x t_loss t_hops t_wayLong t_bothLeast v1 v2 v3 v4 v5 v6 o_t_loss o_t_hops o_t_bothLeast hf; rw [fX8_goesBoth] at hf; cases hf
  | succ dd ihd =>
  intro t_h t_a t_thrown t_all t_taped t_at t_behind t_size t_kind t_number t_wrong t_wrongAt t_faultKind t_faultPlace t_x t_loss t_hops t_wayLong t_bothLeast v1 v2 v3 v4 v5 v6 o_t_loss o_t_hops o_t_bothLeast hf
  rw [fX8_goesBoth] at hf
  intro sz
  refine Met.ofW (cc := cX8_goesBoth) (maxL := 8) (ret := none) (by decide) rfl ?_
  intro p e s m args below meth c s₁ B hml hv
  obtain ⟨hargs, hsz, hP, hD0, hK⟩ := hv
  subst hsz
  obtain ⟨hx, hb, hr, hw, hown, hlk⟩ := fwB B
  refine fw_enter hargs (Nat.le_of_ble_eq_true rfl) (fun ls hl => ?_)
  have hl : lv_has ls 8 [(0, .ref t_h), (1, .int v1), (2, .int v2), (3, .int v3), (4, .int v4), (5, .int v5), (6, .int v6)] := hl
  refine fw_Q (P := fun Q => ∃ A : Nat → Prop, va_D A [oX8 t_h t_a t_thrown t_taped t_at t_behind t_size t_kind t_number t_wrong t_wrongAt t_faultKind t_faultPlace t_x t_wayLong t_bothLeast, arI G (t_a 1) 558 t_all, arI G (t_a 16) 12 t_loss, arI G (t_a 17) 12 t_hops] ∧ va_S A s.heap s.heap [] ∧ (∀ q, s.heap.size ≤ q → A q) ∧ ∀ (n_t_loss : Nat → Int32) (n_t_hops : Nat → Int32) (n_t_bothLeast : Int32) (H : Heap) (locs : List Loc) (pc : Nat) (ls : Array Slot), some (n_t_loss, n_t_hops, n_t_bothLeast) = some (o_t_loss, o_t_hops, o_t_bothLeast) → va_P G.1 vwCl [oX8 t_h t_a t_thrown t_taped t_at t_behind t_size t_kind t_number t_wrong t_wrongAt t_faultKind t_faultPlace t_x t_wayLong n_t_bothLeast, arI G (t_a 1) 558 t_all, arI G (t_a 16) 12 n_t_loss, arI G (t_a 17) 12 n_t_hops] H → va_S A s.heap H locs → decode cX8_goesBoth pc = .ok (.return_, 1) → W p l e ({ frames := 5 + (dd + 1), cells := 0, slots := 0, locals := 121 + (dd + 1) * 27 } : Room) s m args below meth c H locs 0 0 Q (F0 m pc ls [])) ⟨va_A [oX8 t_h t_a t_thrown t_taped t_at t_behind t_size t_kind t_number t_wrong t_wrongAt t_faultKind t_faultPlace t_x t_wayLong t_bothLeast, arI G (t_a 1) 558 t_all, arI G (t_a 16) 12 t_loss, arI G (t_a 17) 12 t_hops] s.heap.size, hD0.self (sz := s.heap.size), va_S.rf, fun q h => Or.inr h, ?_⟩ ?_
  · intro n_t_loss n_t_hops n_t_bothLeast H locs pc ls h hP hS hd
    cases h
    exact retWV hx hb hr hlk hS hP hd
  rintro Q ⟨A, hD, hS, hA, hRet⟩
  change W p l e ({ frames := 5 + (dd + 1), cells := 0, slots := 0, locals := 121 + (dd + 1) * 27 } : Room) s m args below meth c _ _ 0 0 Q _
  have L73 : ∀  (K : (Nat → Int32) → (Nat → Int32) → Int32 → Option ((Nat → Int32) × (Nat → Int32) × Int32)) (n : Nat) (l7 : Int32) (t_loss : Nat → Int32) (t_hops : Nat → Int32) (t_bothLeast : Int32) (H : Heap) (locs : List Loc) (ls : Array Slot), va_P G.1 vwCl [oX8 t_h t_a t_thrown t_taped t_at t_behind t_size t_kind t_number t_wrong t_wrongAt t_faultKind t_faultPlace t_x t_wayLong t_bothLeast, arI G (t_a 1) 558 t_all, arI G (t_a 16) 12 t_loss, arI G (t_a 17) 12 t_hops] H → va_D A [oX8 t_h t_a t_thrown t_taped t_at t_behind t_size t_kind t_number t_wrong t_wrongAt t_faultKind t_faultPlace t_x t_wayLong t_bothLeast, arI G (t_a 1) 558 t_all, arI G (t_a 16) 12 t_loss, arI G (t_a 17) 12 t_hops] → va_S A s.heap H locs → lv_has ls 8 [(0, .ref t_h), (1, .int v1), (2, .int v2), (3, .int v3), (4, .int v4), (5, .int v5), (6, .int v6), (7, .int l7)] → fX8_goesBoth_73 (fX8_goesBoth dd) v1 v2 v3 v4 v5 v6 t_all K n l7 t_loss t_hops t_bothLeast = some (o_t_loss, o_t_hops, o_t_bothLeast) → (∀ (kt_loss : Nat → Int32) (kt_hops : Nat → Int32) (kt_bothLeast : Int32) (H : Heap) (locs : List Loc) (ls : Array Slot), va_P G.1 vwCl [oX8 t_h t_a t_thrown t_taped t_at t_behind t_size t_kind t_number t_wrong t_wrongAt t_faultKind t_faultPlace t_x t_wayLong kt_bothLeast, arI G (t_a 1) 558 t_all, arI G (t_a 16) 12 kt_loss, arI G (t_a 17) 12 kt_hops] H → va_D A [oX8 t_h t_a t_thrown t_taped t_at t_behind t_size t_kind t_number t_wrong t_wrongAt t_faultKind t_faultPlace t_x t_wayLong kt_bothLeast, arI G (t_a 1) 558 t_all, arI G (t_a 16) 12 kt_loss, arI G (t_a 17) 12 kt_hops] → va_S A s.heap H locs → lv_has ls 8 [] → K kt_loss kt_hops kt_bothLeast = some (o_t_loss, o_t_hops, o_t_bothLeast) → W p l e ({ frames := 5 + (dd + 1), cells := 0, slots := 0, locals := 121 + (dd + 1) * 27 } : Room) s m args below meth c H locs 0 0 Q (F0 m 156 ls [])) → W p l e ({ frames := 5 + (dd + 1), cells := 0, slots := 0, locals := 121 + (dd + 1) * 27 } : Room) s m args below meth c H locs 0 0 Q (F0 m 73 ls []) := by
    intro  K n
    induction n with
    | zero => intro l7 t_loss t_hops t_bothLeast H locs ls hP hD hS hl hf; rw [fX8_goesBoth_73] at hf; cases hf
    | succ n ih =>
      intro l7 t_loss t_hops t_bothLeast H locs ls hP hD hS hl hf hX
      rw [fX8_goesBoth_73] at hf
      refine lv_iload hx hb dX8_goesBoth_73 (lv_at hl 7 rfl) ?_
      refine lv_aload_n hx hb dX8_goesBoth_75 rfl (lv_at hl 0 rfl) ?_
      refine va_get (D := G.1) (ci := 8) (v := .ref (t_a 1)) (C := RX8) (T := TX8) (N := 33) hx hb hw inW8 hown hK.1 hP 0 rfl rfl 1 (by decide) (hw _ kw_5_11) (fun _ h9 => h9) rfl dX8_goesBoth_76 ?_
      refine lv_iconst (v := 0) hx hb dX8_goesBoth_79 (by decide) ?_
      obtain ⟨hi_3, hf⟩ := rdI_in hf
      refine va_iald hx hb hK.1 hP 1 0 rfl rfl hi_3 dX8_goesBoth_80 ?_
      refine lv_topi (fun x_2 ex_2 => ?_)
      have hf := hf x_2 ex_2
      refine lv_icmp_ge (tgt := 156) hx hb dX8_goesBoth_81 (by decide) (fun c_4 => ?_) (fun c_4 => ?_)
      · have hf := ip c_4 hf
        exact hX _ _ _ _ _ _ hP hD hS (lv_sub hl [] rfl) hf
      · have hf := iq c_4 hf
        refine lv_iload_n hx hb dX8_goesBoth_84 rfl (lv_at hl 3 rfl) ?_
        refine lv_iload hx hb dX8_goesBoth_85 (lv_at hl 7 rfl) ?_
        refine lv_ishr hx hb dX8_goesBoth_87 ?_
        refine lv_iconst (v := 1) hx hb dX8_goesBoth_88 (by decide) ?_
        refine lv_iand hx hb dX8_goesBoth_89 ?_
        refine lv_if_ne (tgt := 150) hx hb dX8_goesBoth_90 (by decide) (fun c_5 => ?_) (fun c_5 => ?_)
        · have hf := iq c_5 hf
          refine lv_iinc (v := (l7 + 1)) (lv' := [(7, .int (l7 + 1)), (0, .ref t_h), (1, .int v1), (2, .int v2), (3, .int v3), (4, .int v4), (5, .int v5), (6, .int v6)]) hx hb dX8_goesBoth_150 hl (k := 7) rfl (by rfl) (by decide) rfl (fun ls hl => ?_)
          refine lv_goto (tgt := 73) hx hb dX8_goesBoth_153 (by decide) ?_
          exact ih _ _ _ _ _ _ _ hP hD hS (lv_sub hl [1, 2, 3, 4, 5, 6, 7, 0] rfl) hf hX
        · have hf := ip c_5 hf
          refine lv_iload hx hb dX8_goesBoth_93 (lv_at hl 7 rfl) ?_
          refine lv_iload hx hb dX8_goesBoth_95 (lv_at hl 5 rfl) ?_
          refine lv_icmp_eq (tgt := 150) hx hb dX8_goesBoth_97 (by decide) (fun c_6 => ?_) (fun c_6 => ?_)
          · have hf := ip c_6 hf
            refine lv_iinc (v := (l7 + 1)) (lv' := [(7, .int (l7 + 1)), (0, .ref t_h), (1, .int v1), (2, .int v2), (3, .int v3), (4, .int v4), (5, .int v5), (6, .int v6)]) hx hb dX8_goesBoth_150 hl (k := 7) rfl (by rfl) (by decide) rfl (fun ls hl => ?_)
            refine lv_goto (tgt := 73) hx hb dX8_goesBoth_153 (by decide) ?_
            exact ih _ _ _ _ _ _ _ hP hD hS (lv_sub hl [1, 2, 3, 4, 5, 6, 7, 0] rfl) hf hX
          · have hf := iq c_6 hf
            refine lv_iload hx hb dX8_goesBoth_100 (lv_at hl 7 rfl) ?_
            refine lv_iload hx hb dX8_goesBoth_102 (lv_at hl 6 rfl) ?_
            refine lv_icmp_eq (tgt := 150) hx hb dX8_goesBoth_104 (by decide) (fun c_7 => ?_) (fun c_7 => ?_)
            · have hf := ip c_7 hf
              refine lv_iinc (v := (l7 + 1)) (lv' := [(7, .int (l7 + 1)), (0, .ref t_h), (1, .int v1), (2, .int v2), (3, .int v3), (4, .int v4), (5, .int v5), (6, .int v6)]) hx hb dX8_goesBoth_150 hl (k := 7) rfl (by rfl) (by decide) rfl (fun ls hl => ?_)
              refine lv_goto (tgt := 73) hx hb dX8_goesBoth_153 (by decide) ?_
              exact ih _ _ _ _ _ _ _ hP hD hS (lv_sub hl [1, 2, 3, 4, 5, 6, 7, 0] rfl) hf hX
            · have hf := iq c_7 hf
              refine lv_aload_n hx hb dX8_goesBoth_107 rfl (lv_at hl 0 rfl) ?_
              refine lv_iload_n hx hb dX8_goesBoth_108 rfl (lv_at hl 1 rfl) ?_
              refine lv_iload hx hb dX8_goesBoth_109 (lv_at hl 7 rfl) ?_
              refine lv_aload_n hx hb dX8_goesBoth_111 rfl (lv_at hl 0 rfl) ?_
              refine va_get (D := G.1) (ci := 8) (v := .ref (t_a 1)) (C := RX8) (T := TX8) (N := 33) hx hb hw inW8 hown hK.1 hP 0 rfl rfl 1 (by decide) (hw _ kw_5_11) (fun _ h9 => h9) rfl dX8_goesBoth_112 ?_
              refine lv_iconst (v := 1) hx hb dX8_goesBoth_115 (by decide) ?_
              obtain ⟨hi_9, hf⟩ := rdI_in hf
              refine va_iald hx hb hK.1 hP 1 0 rfl rfl hi_9 dX8_goesBoth_116 ?_
              refine lv_topi (fun x_8 ex_8 => ?_)
              have hf := hf x_8 ex_8
              obtain ⟨r_10, hc_11, hf⟩ := bd1_in hf
              refine rcI (va_runV (As := [.int v1, .int l7, .int x_8]) (rest := []) ⟨hx, hb, hml, hown, hw⟩ ((ctX8_talks l G t_h t_a t_thrown t_all t_taped t_at t_behind t_size t_kind t_number t_wrong t_wrongAt t_faultKind t_faultPlace t_x t_wayLong t_bothLeast v1 l7 x_8 _ hc_11) _) (kV hw calX8_talks kw_20_12 rfl rfl ⟨(by dsimp only; omega), (by dsimp only; omega)⟩) (rpV (hP.sub (ws' := [oX8 t_h t_a t_thrown t_taped t_at t_behind t_size t_kind t_number t_wrong t_wrongAt t_faultKind t_faultPlace t_x t_wayLong t_bothLeast, arI G (t_a 1) 558 t_all]) [0, 1] rfl) hK (ci := 8) (q0 := 0) rfl rfl) rfl rfl hl.1 rfl (lv_room (Nat.le_of_ble_eq_true rfl)) dX8_goesBoth_117 ⟨Nat.zero_le _, Nat.zero_le _⟩) hS hA hP (fun H locs hP hS => ?_)
              refine lv_if_eq (tgt := 150) hx hb dX8_goesBoth_120 (by decide) (fun c_12 => ?_) (fun c_12 => ?_)
              · have hf := ip c_12 hf
                refine lv_iinc (v := (l7 + 1)) (lv' := [(7, .int (l7 + 1)), (0, .ref t_h), (1, .int v1), (2, .int v2), (3, .int v3), (4, .int v4), (5, .int v5), (6, .int v6)]) hx hb dX8_goesBoth_150 hl (k := 7) rfl (by rfl) (by decide) rfl (fun ls hl => ?_)
                refine lv_goto (tgt := 73) hx hb dX8_goesBoth_153 (by decide) ?_
                exact ih _ _ _ _ _ _ _ hP hD hS (lv_sub hl [1, 2, 3, 4, 5, 6, 7, 0] rfl) hf hX
              · have hf := iq c_12 hf
                refine lv_aload_n hx hb dX8_goesBoth_123 rfl (lv_at hl 0 rfl) ?_
                refine lv_iload hx hb dX8_goesBoth_124 (lv_at hl 7 rfl) ?_
                refine lv_iload_n hx hb dX8_goesBoth_126 rfl (lv_at hl 2 rfl) ?_
                refine lv_iload_n hx hb dX8_goesBoth_127 rfl (lv_at hl 3 rfl) ?_
                refine lv_iconst (v := 1) hx hb dX8_goesBoth_128 (by decide) ?_
                refine lv_iload hx hb dX8_goesBoth_129 (lv_at hl 7 rfl) ?_
                refine lv_ishl hx hb dX8_goesBoth_131 ?_
                refine lv_ior hx hb dX8_goesBoth_132 ?_
                refine lv_iload hx hb dX8_goesBoth_133 (lv_at hl 4 rfl) ?_
                refine lv_aload_n hx hb dX8_goesBoth_135 rfl (lv_at hl 0 rfl) ?_
                refine lv_iload_n hx hb dX8_goesBoth_136 rfl (lv_at hl 1 rfl) ?_
                refine lv_iload hx hb dX8_goesBoth_137 (lv_at hl 7 rfl) ?_
                obtain ⟨r_13, hc_14, hf⟩ := bd1_in hf
                refine rcI (va_runV (As := [.int v1, .int l7]) (rest := [.int v4, .int (v3 ||| ((1 : Int32) <<< (l7 &&& 31))), .int v2, .int l7, .ref t_h]) ⟨hx, hb, hml, hown, hw⟩ ((ctX8_lossOf l G t_h t_a t_thrown t_all t_taped t_at t_behind t_size t_kind t_number t_wrong t_wrongAt t_faultKind t_faultPlace t_x t_wayLong t_bothLeast v1 l7 _ hc_14) _) (kV hw calX8_lossOf kw_22_15 rfl rfl ⟨(by dsimp only; omega), (by dsimp only; omega)⟩) (rpV (hP.sub (ws' := [oX8 t_h t_a t_thrown t_taped t_at t_behind t_size t_kind t_number t_wrong t_wrongAt t_faultKind t_faultPlace t_x t_wayLong t_bothLeast, arI G (t_a 1) 558 t_all]) [0, 1] rfl) hK (ci := 8) (q0 := 0) rfl rfl) rfl rfl hl.1 rfl (lv_room (Nat.le_of_ble_eq_true rfl)) dX8_goesBoth_139 ⟨Nat.zero_le _, Nat.zero_le _⟩) hS hA hP (fun H locs hP hS => ?_)
                refine lv_iadd hx hb dX8_goesBoth_142 ?_
                refine lv_iload hx hb dX8_goesBoth_143 (lv_at hl 5 rfl) ?_
                refine lv_iload hx hb dX8_goesBoth_145 (lv_at hl 6 rfl) ?_
                obtain ⟨t_loss_15, t_hops_16, t_bothLeast_17, hc_18, hf⟩ := bd3_in hf
                refine wcV (w1 := [oX8 t_h t_a t_thrown t_taped t_at t_behind t_size t_kind t_number t_wrong t_wrongAt t_faultKind t_faultPlace t_x t_wayLong t_bothLeast_17, arI G (t_a 1) 558 t_all, arI G (t_a 16) 12 t_loss_15, arI G (t_a 17) 12 t_hops_16]) (va_runV (As := [.int l7, .int v2, .int (v3 ||| ((1 : Int32) <<< (l7 &&& 31))), .int (v4 + r_13), .int v5, .int v6]) (rest := []) ⟨hx, hb, hml, hown, hw⟩ ((ihd t_h t_a t_thrown t_all t_taped t_at t_behind t_size t_kind t_number t_wrong t_wrongAt t_faultKind t_faultPlace t_x t_loss t_hops t_wayLong t_bothLeast l7 v2 (v3 ||| ((1 : Int32) <<< (l7 &&& 31))) (v4 + r_13) v5 v6 _ _ _ hc_18) _) (kV hw calX8_goesBoth kw_36_23 rfl rfl ⟨(by dsimp only; omega), (by dsimp only; omega)⟩) (wpV (hP.sub (ws' := [oX8 t_h t_a t_thrown t_taped t_at t_behind t_size t_kind t_number t_wrong t_wrongAt t_faultKind t_faultPlace t_x t_wayLong t_bothLeast, arI G (t_a 1) 558 t_all, arI G (t_a 16) 12 t_loss, arI G (t_a 17) 12 t_hops]) [0, 1, 2, 3] rfl) (hD.sub (ws' := [oX8 t_h t_a t_thrown t_taped t_at t_behind t_size t_kind t_number t_wrong t_wrongAt t_faultKind t_faultPlace t_x t_wayLong t_bothLeast, arI G (t_a 1) 558 t_all, arI G (t_a 16) 12 t_loss, arI G (t_a 17) 12 t_hops]) [0, 1, 2, 3] (by decide) rfl) hK (ci := 8) (q0 := 0) rfl rfl) rfl rfl hl.1 rfl (lv_room (Nat.le_of_ble_eq_true rfl)) dX8_goesBoth_147 ⟨Nat.zero_le _, Nat.zero_le _⟩) hS hA hP hD [0, 1, 2, 3] rfl rfl (fun H locs hP hD hS => ?_)
                have hP : va_P G.1 vwCl [oX8 t_h t_a t_thrown t_taped t_at t_behind t_size t_kind t_number t_wrong t_wrongAt t_faultKind t_faultPlace t_x t_wayLong t_bothLeast_17, arI G (t_a 1) 558 t_all, arI G (t_a 16) 12 t_loss_15, arI G (t_a 17) 12 t_hops_16] H := hP
                have hD : va_D A [oX8 t_h t_a t_thrown t_taped t_at t_behind t_size t_kind t_number t_wrong t_wrongAt t_faultKind t_faultPlace t_x t_wayLong t_bothLeast_17, arI G (t_a 1) 558 t_all, arI G (t_a 16) 12 t_loss_15, arI G (t_a 17) 12 t_hops_16] := hD
                refine lv_iinc (v := (l7 + 1)) (lv' := [(7, .int (l7 + 1)), (0, .ref t_h), (1, .int v1), (2, .int v2), (3, .int v3), (4, .int v4), (5, .int v5), (6, .int v6)]) hx hb dX8_goesBoth_150 hl (k := 7) rfl (by rfl) (by decide) rfl (fun ls hl => ?_)
                refine lv_goto (tgt := 73) hx hb dX8_goesBoth_153 (by decide) ?_
                exact ih _ _ _ _ _ _ _ hP hD hS (lv_sub hl [1, 2, 3, 4, 5, 6, 7, 0] rfl) hf hX
  unfold fX8_goesBoth_b at hf
  refine lv_iload_n hx hb dX8_goesBoth_0 rfl (lv_at hl 1 rfl) ?_
  refine lv_iload_n hx hb dX8_goesBoth_1 rfl (lv_at hl 2 rfl) ?_
  refine lv_icmp_ne (tgt := 70) hx hb dX8_goesBoth_2 (by decide) (fun c_1 => ?_) (fun c_1 => ?_)
  · have hf := iq c_1 hf
    refine lv_iconst (v := 0) hx hb dX8_goesBoth_70 (by decide) ?_
    refine lv_istore (lv' := [(7, .int 0), (0, .ref t_h), (1, .int v1), (2, .int v2), (3, .int v3), (4, .int v4), (5, .int v5), (6, .int v6)]) hx hb dX8_goesBoth_71 hl (by decide) rfl (fun ls hl => ?_)
    refine L73  _ _ _ _ _ _ _ _ _ hP hD hS (lv_sub hl [1, 2, 3, 4, 5, 6, 7, 0] rfl) hf (fun t_loss_19 t_hops_20 t_bothLeast_21 H locs ls hP hD hS hl hf => ?_)
    exact hRet _ _ _ _ _ _ _ hf hP hS dX8_goesBoth_156
  · have hf := ip c_1 hf
    refine lv_aload_n hx hb dX8_goesBoth_5 rfl (lv_at hl 0 rfl) ?_
    refine lv_iload hx hb dX8_goesBoth_6 (lv_at hl 6 rfl) ?_
    refine lv_iload_n hx hb dX8_goesBoth_8 rfl (lv_at hl 3 rfl) ?_
    refine lv_aload_n hx hb dX8_goesBoth_9 rfl (lv_at hl 0 rfl) ?_
    refine va_get (D := G.1) (ci := 8) (v := .ref (t_a 1)) (C := RX8) (T := TX8) (N := 33) hx hb hw inW8 hown hK.1 hP 0 rfl rfl 1 (by decide) (hw _ kw_5_11) (fun _ h9 => h9) rfl dX8_goesBoth_10 ?_
    refine lv_iconst (v := 1) hx hb dX8_goesBoth_13 (by decide) ?_
    obtain ⟨hi_23, hf⟩ := rdI_in hf
    refine va_iald hx hb hK.1 hP 1 0 rfl rfl hi_23 dX8_goesBoth_14 ?_
    refine lv_topi (fun x_22 ex_22 => ?_)
    have hf := hf x_22 ex_22
    obtain ⟨t_loss_24, t_hops_25, hc_26, hf⟩ := bd2_in hf
    refine wcV (w1 := [oX8 t_h t_a t_thrown t_taped t_at t_behind t_size t_kind t_number t_wrong t_wrongAt t_faultKind t_faultPlace t_x t_wayLong t_bothLeast, arI G (t_a 1) 558 t_all, arI G (t_a 16) 12 t_loss_24, arI G (t_a 17) 12 t_hops_25]) (va_runV (As := [.int v6, .int v3, .int x_22]) (rest := []) ⟨hx, hb, hml, hown, hw⟩ ((ctX8_laysLoss l G t_h t_a t_thrown t_all t_taped t_at t_behind t_size t_kind t_number t_wrong t_wrongAt t_faultKind t_faultPlace t_x t_loss t_hops t_wayLong t_bothLeast v6 v3 x_22 _ _ hc_26) _) (kV hw calX8_laysLoss kw_30_4 rfl rfl ⟨(by dsimp only; omega), (by dsimp only; omega)⟩) (wpV (hP.sub (ws' := [oX8 t_h t_a t_thrown t_taped t_at t_behind t_size t_kind t_number t_wrong t_wrongAt t_faultKind t_faultPlace t_x t_wayLong t_bothLeast, arI G (t_a 1) 558 t_all, arI G (t_a 16) 12 t_loss, arI G (t_a 17) 12 t_hops]) [0, 1, 2, 3] rfl) (hD.sub (ws' := [oX8 t_h t_a t_thrown t_taped t_at t_behind t_size t_kind t_number t_wrong t_wrongAt t_faultKind t_faultPlace t_x t_wayLong t_bothLeast, arI G (t_a 1) 558 t_all, arI G (t_a 16) 12 t_loss, arI G (t_a 17) 12 t_hops]) [0, 1, 2, 3] (by decide) rfl) hK (ci := 8) (q0 := 0) rfl rfl) rfl rfl hl.1 rfl (lv_room (Nat.le_of_ble_eq_true rfl)) dX8_goesBoth_15 ⟨Nat.zero_le _, Nat.zero_le _⟩) hS hA hP hD [0, 1, 2, 3] rfl rfl (fun H locs hP hD hS => ?_)
    have hP : va_P G.1 vwCl [oX8 t_h t_a t_thrown t_taped t_at t_behind t_size t_kind t_number t_wrong t_wrongAt t_faultKind t_faultPlace t_x t_wayLong t_bothLeast, arI G (t_a 1) 558 t_all, arI G (t_a 16) 12 t_loss_24, arI G (t_a 17) 12 t_hops_25] H := hP
    have hD : va_D A [oX8 t_h t_a t_thrown t_taped t_at t_behind t_size t_kind t_number t_wrong t_wrongAt t_faultKind t_faultPlace t_x t_wayLong t_bothLeast, arI G (t_a 1) 558 t_all, arI G (t_a 16) 12 t_loss_24, arI G (t_a 17) 12 t_hops_25] := hD
    refine lv_aload_n hx hb dX8_goesBoth_18 rfl (lv_at hl 0 rfl) ?_
    refine va_get (D := G.1) (ci := 8) (v := .ref (t_a 16)) (C := RX8) (T := TX8) (N := 33) hx hb hw inW8 hown hK.1 hP 0 rfl rfl 16 (by decide) (hw _ kw_5_16) (fun _ h9 => h9) rfl dX8_goesBoth_19 ?_
    refine lv_iload hx hb dX8_goesBoth_22 (lv_at hl 5 rfl) ?_
    obtain ⟨hi_28, hf⟩ := rdI_in hf
    refine va_iald hx hb hK.1 hP 2 0 rfl rfl hi_28 dX8_goesBoth_24 ?_
    refine lv_topi (fun x_27 ex_27 => ?_)
    have hf := hf x_27 ex_27
    refine lv_ldc hx hb hown (hw _ kw_29_22) dX8_goesBoth_25 ?_
    refine lv_icmp_ge (tgt := 69) hx hb dX8_goesBoth_27 (by decide) (fun c_29 => ?_) (fun c_29 => ?_)
    · have hf := ip c_29 hf
      exact hRet _ _ _ _ _ _ _ hf hP hS dX8_goesBoth_69
    · have hf := iq c_29 hf
      refine lv_aload_n hx hb dX8_goesBoth_30 rfl (lv_at hl 0 rfl) ?_
      refine va_get (D := G.1) (ci := 8) (v := .int t_bothLeast) (C := RX8) (T := TX8) (N := 33) hx hb hw inW8 hown hK.1 hP 0 rfl rfl 20 (by decide) (hw _ kw_36_22) (fun _ h9 => h9) rfl dX8_goesBoth_31 ?_
      refine lv_iconst (v := (-1)) hx hb dX8_goesBoth_34 (by decide) ?_
      refine jn_el hf (fun k_30 ek_30 hf => ?_)
      have J55 : ∀  (H : Heap) (locs : List Loc) (ls : Array Slot), va_P G.1 vwCl [oX8 t_h t_a t_thrown t_taped t_at t_behind t_size t_kind t_number t_wrong t_wrongAt t_faultKind t_faultPlace t_x t_wayLong t_bothLeast, arI G (t_a 1) 558 t_all, arI G (t_a 16) 12 t_loss_24, arI G (t_a 17) 12 t_hops_25] H → va_D A [oX8 t_h t_a t_thrown t_taped t_at t_behind t_size t_kind t_number t_wrong t_wrongAt t_faultKind t_faultPlace t_x t_wayLong t_bothLeast, arI G (t_a 1) 558 t_all, arI G (t_a 16) 12 t_loss_24, arI G (t_a 17) 12 t_hops_25] → va_S A s.heap H locs → lv_has ls 8 [(0, .ref t_h), (4, .int v4), (5, .int v5)] → k_30 = some (o_t_loss, o_t_hops, o_t_bothLeast) → W p l e ({ frames := 5 + (dd + 1), cells := 0, slots := 0, locals := 121 + (dd + 1) * 27 } : Room) s m args below meth c H locs 0 0 Q (F0 m 55 ls []) := by
        intro  H locs ls hP hD hS hl hf
        rw [ek_30] at hf
        refine lv_aload_n hx hb dX8_goesBoth_55 rfl (lv_at hl 0 rfl) ?_
        refine lv_iload hx hb dX8_goesBoth_56 (lv_at hl 1 rfl) ?_
        refine lv_aload_n hx hb dX8_goesBoth_58 rfl (lv_at hl 0 rfl) ?_
        refine va_get (D := G.1) (ci := 8) (v := .ref (t_a 16)) (C := RX8) (T := TX8) (N := 33) hx hb hw inW8 hown hK.1 hP 0 rfl rfl 16 (by decide) (hw _ kw_5_16) (fun _ h9 => h9) rfl dX8_goesBoth_59 ?_
        refine lv_iload hx hb dX8_goesBoth_62 (lv_at hl 2 rfl) ?_
        obtain ⟨hi_32, hf⟩ := rdI_in hf
        refine va_iald hx hb hK.1 hP 2 0 rfl rfl hi_32 dX8_goesBoth_64 ?_
        refine lv_topi (fun x_31 ex_31 => ?_)
        have hf := hf x_31 ex_31
        refine lv_iadd hx hb dX8_goesBoth_65 ?_
        refine lv_topi (fun y_33 ey_33 => ?_)
        have hf := bnd_all hf y_33 ey_33
        refine va_put (D := G.1) (ci := 8) (v := .int y_33) (ty := .int) (C := RX8) (T := TX8) (N := 33) hx hb hw inW8 tyX8 tyX8_ok nmX8 hown hK.1 hP hD hS 0 rfl rfl 20 (by decide) (hw _ kw_36_22) (fun _ h9 => h9) rfl (by decide +kernel) rfl rfl (Nat.le_of_ble_eq_true rfl) dX8_goesBoth_66 (fun H locs hP hD hS => ?_)
        have hP : va_P G.1 vwCl [oX8 t_h t_a t_thrown t_taped t_at t_behind t_size t_kind t_number t_wrong t_wrongAt t_faultKind t_faultPlace t_x t_wayLong y_33, arI G (t_a 1) 558 t_all, arI G (t_a 16) 12 t_loss_24, arI G (t_a 17) 12 t_hops_25] H := hP
        have hD : va_D A [oX8 t_h t_a t_thrown t_taped t_at t_behind t_size t_kind t_number t_wrong t_wrongAt t_faultKind t_faultPlace t_x t_wayLong y_33, arI G (t_a 1) 558 t_all, arI G (t_a 16) 12 t_loss_24, arI G (t_a 17) 12 t_hops_25] := hD
        exact hRet _ _ _ _ _ _ _ hf hP hS dX8_goesBoth_69
      refine lv_icmp_eq (tgt := 55) hx hb dX8_goesBoth_35 (by decide) (fun c_34 => ?_) (fun c_34 => ?_)
      · have hf := ip c_34 hf
        exact J55  _ _ _ hP hD hS (lv_sub hl [0, 4, 5] rfl) hf
      · have hf := iq c_34 hf
        refine lv_iload hx hb dX8_goesBoth_38 (lv_at hl 4 rfl) ?_
        refine lv_aload_n hx hb dX8_goesBoth_40 rfl (lv_at hl 0 rfl) ?_
        refine va_get (D := G.1) (ci := 8) (v := .ref (t_a 16)) (C := RX8) (T := TX8) (N := 33) hx hb hw inW8 hown hK.1 hP 0 rfl rfl 16 (by decide) (hw _ kw_5_16) (fun _ h9 => h9) rfl dX8_goesBoth_41 ?_
        refine lv_iload hx hb dX8_goesBoth_44 (lv_at hl 5 rfl) ?_
        obtain ⟨hi_36, hf⟩ := rdI_in hf
        refine va_iald hx hb hK.1 hP 2 0 rfl rfl hi_36 dX8_goesBoth_46 ?_
        refine lv_topi (fun x_35 ex_35 => ?_)
        have hf := hf x_35 ex_35
        refine lv_iadd hx hb dX8_goesBoth_47 ?_
        refine lv_aload_n hx hb dX8_goesBoth_48 rfl (lv_at hl 0 rfl) ?_
        refine va_get (D := G.1) (ci := 8) (v := .int t_bothLeast) (C := RX8) (T := TX8) (N := 33) hx hb hw inW8 hown hK.1 hP 0 rfl rfl 20 (by decide) (hw _ kw_36_22) (fun _ h9 => h9) rfl dX8_goesBoth_49 ?_
        refine lv_icmp_ge (tgt := 69) hx hb dX8_goesBoth_52 (by decide) (fun c_37 => ?_) (fun c_37 => ?_)
        · have hf := ip c_37 hf
          exact hRet _ _ _ _ _ _ _ hf hP hS dX8_goesBoth_69
        · have hf := iq c_37 hf
          exact J55  _ _ _ hP hD hS (lv_sub hl [0, 4, 5] rfl) hf
theorem calX8_both : CalV yX8_both cX8_both 7 (some .int) 2 := ⟨⟨kw_36_21, kw_1_5, by decide +kernel⟩, kw_36_19, kw_36_20⟩
set_option maxHeartbeats 8000000 in
set_option maxRecDepth 100000 in
theorem ctX8_both (l : Launch) (G : GT) (t_h : Nat) (t_a : Nat → Nat) (t_thrown : Int32) (t_all : Nat → Int32) (t_taped : Int32) (t_at : Int32) (t_behind : Int32) (t_size : Int32) (t_kind : Int32) (t_number : Int32) (t_wrong : Int32) (t_wrongAt : Int32) (t_faultKind : Int32) (t_faultPlace : Int32) (t_x : Int32) (t_loss : Nat → Int32) (t_hops : Nat → Int32) (t_wayLong : Int32) (t_bothLeast : Int32) (v1 : Int32) (v2 : Int32) (r : Int32) (o_t_thrown : Int32) (o_t_loss : Nat → Int32) (o_t_hops : Nat → Int32) (o_t_bothLeast : Int32) (hf : fX8_both t_thrown t_all t_loss t_hops t_bothLeast v1 v2 = some (r, o_t_thrown, o_t_loss, o_t_hops, o_t_bothLeast)) : WrI l yX8_both (Cond.code yX8_both cX8_both 7 (some .int)) { frames := 22, cells := 0, slots := 0, locals := 580 } G [.ref t_h, .int v1, .int v2] [oX8 t_h t_a t_thrown t_taped t_at t_behind t_size t_kind t_number t_wrong t_wrongAt t_faultKind t_faultPlace t_x t_wayLong t_bothLeast, arI G (t_a 1) 558 t_all, arI G (t_a 16) 12 t_loss, arI G (t_a 17) 12 t_hops] [oX8 t_h t_a o_t_thrown t_taped t_at t_behind t_size t_kind t_number t_wrong t_wrongAt t_faultKind t_faultPlace t_x t_wayLong o_t_bothLeast, arI G (t_a 1) 558 t_all, arI G (t_a 16) 12 o_t_loss, arI G (t_a 17) 12 o_t_hops] r := by
  intro sz
  refine Met.ofW (cc := cX8_both) (maxL := 7) (ret := (some .int)) (by decide) rfl ?_
  intro p e s m args below meth c s₁ B hml hv
  obtain ⟨hargs, hsz, hP, hD0, hK⟩ := hv
  subst hsz
  obtain ⟨hx, hb, hr, hw, hown, hlk⟩ := fwB B
  refine fw_enter hargs (Nat.le_of_ble_eq_true rfl) (fun ls hl => ?_)
  have hl : lv_has ls 7 [(0, .ref t_h), (1, .int v1), (2, .int v2)] := hl
  refine fw_Q (P := fun Q => ∃ A : Nat → Prop, va_D A [oX8 t_h t_a t_thrown t_taped t_at t_behind t_size t_kind t_number t_wrong t_wrongAt t_faultKind t_faultPlace t_x t_wayLong t_bothLeast, arI G (t_a 1) 558 t_all, arI G (t_a 16) 12 t_loss, arI G (t_a 17) 12 t_hops] ∧ va_S A s.heap s.heap [] ∧ (∀ q, s.heap.size ≤ q → A q) ∧ ∀ (v : Int32) (n_t_thrown : Int32) (n_t_loss : Nat → Int32) (n_t_hops : Nat → Int32) (n_t_bothLeast : Int32) (H : Heap) (locs : List Loc) (pc : Nat) (ls : Array Slot), some (v, n_t_thrown, n_t_loss, n_t_hops, n_t_bothLeast) = some (r, o_t_thrown, o_t_loss, o_t_hops, o_t_bothLeast) → va_P G.1 vwCl [oX8 t_h t_a n_t_thrown t_taped t_at t_behind t_size t_kind t_number t_wrong t_wrongAt t_faultKind t_faultPlace t_x t_wayLong n_t_bothLeast, arI G (t_a 1) 558 t_all, arI G (t_a 16) 12 n_t_loss, arI G (t_a 17) 12 n_t_hops] H → va_S A s.heap H locs → decode cX8_both pc = .ok (.ireturn, 1) → W p l e ({ frames := 22, cells := 0, slots := 0, locals := 580 } : Room) s m args below meth c H locs 0 0 Q (F0 m pc ls [.int v])) ⟨va_A [oX8 t_h t_a t_thrown t_taped t_at t_behind t_size t_kind t_number t_wrong t_wrongAt t_faultKind t_faultPlace t_x t_wayLong t_bothLeast, arI G (t_a 1) 558 t_all, arI G (t_a 16) 12 t_loss, arI G (t_a 17) 12 t_hops] s.heap.size, hD0.self (sz := s.heap.size), va_S.rf, fun q h => Or.inr h, ?_⟩ ?_
  · intro v n_t_thrown n_t_loss n_t_hops n_t_bothLeast H locs pc ls h hP hS hd
    cases h
    exact retWI hx hb hr hlk hS hP rfl hd
  rintro Q ⟨A, hD, hS, hA, hRet⟩
  change W p l e ({ frames := 22, cells := 0, slots := 0, locals := 580 } : Room) s m args below meth c _ _ 0 0 Q _
  unfold fX8_both at hf
  refine lv_aload_n hx hb dX8_both_0 rfl (lv_at hl 0 rfl) ?_
  refine lv_iconst (v := 0) hx hb dX8_both_1 (by decide) ?_
  refine va_put (D := G.1) (ci := 8) (v := .int 0) (ty := .int) (C := RX8) (T := TX8) (N := 33) hx hb hw inW8 tyX8 tyX8_ok nmX8 hown hK.1 hP hD hS 0 rfl rfl 0 (by decide) (hw _ kw_6_21) (fun _ h9 => h9) rfl (by decide +kernel) rfl rfl (Nat.le_of_ble_eq_true rfl) dX8_both_2 (fun H locs hP hD hS => ?_)
  have hP : va_P G.1 vwCl [oX8 t_h t_a 0 t_taped t_at t_behind t_size t_kind t_number t_wrong t_wrongAt t_faultKind t_faultPlace t_x t_wayLong t_bothLeast, arI G (t_a 1) 558 t_all, arI G (t_a 16) 12 t_loss, arI G (t_a 17) 12 t_hops] H := hP
  have hD : va_D A [oX8 t_h t_a 0 t_taped t_at t_behind t_size t_kind t_number t_wrong t_wrongAt t_faultKind t_faultPlace t_x t_wayLong t_bothLeast, arI G (t_a 1) 558 t_all, arI G (t_a 16) 12 t_loss, arI G (t_a 17) 12 t_hops] := hD
  refine lv_aload_n hx hb dX8_both_5 rfl (lv_at hl 0 rfl) ?_
  refine lv_iload_n hx hb dX8_both_6 rfl (lv_at hl 1 rfl) ?_
  refine lv_i2l hx hb dX8_both_7 rfl ?_
  obtain ⟨r_1, hc_2, hf⟩ := bd1_in hf
  refine rcI (va_runV (As := [.long (Int32.toInt64 v1)]) (rest := []) ⟨hx, hb, hml, hown, hw⟩ ((ctX8_isPair l G t_h t_a 0 t_all t_taped t_at t_behind t_size t_kind t_number t_wrong t_wrongAt t_faultKind t_faultPlace t_x t_wayLong t_bothLeast (Int32.toInt64 v1) _ hc_2) _) (kV hw calX8_isPair kw_21_13 rfl rfl ⟨Nat.le_of_ble_eq_true rfl, Nat.le_of_ble_eq_true rfl⟩) (rpV (hP.sub (ws' := [oX8 t_h t_a 0 t_taped t_at t_behind t_size t_kind t_number t_wrong t_wrongAt t_faultKind t_faultPlace t_x t_wayLong t_bothLeast, arI G (t_a 1) 558 t_all]) [0, 1] rfl) hK (ci := 8) (q0 := 0) rfl rfl) rfl rfl hl.1 rfl (lv_room (Nat.le_of_ble_eq_true rfl)) dX8_both_8 ⟨Nat.zero_le _, Nat.zero_le _⟩) hS hA hP (fun H locs hP hS => ?_)
  refine lv_if_eq (tgt := 23) hx hb dX8_both_11 (by decide) (fun c_3 => ?_) (fun c_3 => ?_)
  · have hf := ip c_3 hf
    refine lv_bipush (v := (-2)) hx hb dX8_both_23 (by decide) ?_
    exact hRet _ _ _ _ _ _ _ _ _ hf hP hS dX8_both_25
  · have hf := iq c_3 hf
    refine lv_aload_n hx hb dX8_both_14 rfl (lv_at hl 0 rfl) ?_
    refine lv_iload_n hx hb dX8_both_15 rfl (lv_at hl 2 rfl) ?_
    refine lv_i2l hx hb dX8_both_16 rfl ?_
    obtain ⟨r_4, hc_5, hf⟩ := bd1_in hf
    refine rcI (va_runV (As := [.long (Int32.toInt64 v2)]) (rest := []) ⟨hx, hb, hml, hown, hw⟩ ((ctX8_isPair l G t_h t_a 0 t_all t_taped t_at t_behind t_size t_kind t_number t_wrong t_wrongAt t_faultKind t_faultPlace t_x t_wayLong t_bothLeast (Int32.toInt64 v2) _ hc_5) _) (kV hw calX8_isPair kw_21_13 rfl rfl ⟨Nat.le_of_ble_eq_true rfl, Nat.le_of_ble_eq_true rfl⟩) (rpV (hP.sub (ws' := [oX8 t_h t_a 0 t_taped t_at t_behind t_size t_kind t_number t_wrong t_wrongAt t_faultKind t_faultPlace t_x t_wayLong t_bothLeast, arI G (t_a 1) 558 t_all]) [0, 1] rfl) hK (ci := 8) (q0 := 0) rfl rfl) rfl rfl hl.1 rfl (lv_room (Nat.le_of_ble_eq_true rfl)) dX8_both_17 ⟨Nat.zero_le _, Nat.zero_le _⟩) hS hA hP (fun H locs hP hS => ?_)
    refine lv_if_ne (tgt := 26) hx hb dX8_both_20 (by decide) (fun c_6 => ?_) (fun c_6 => ?_)
    · have hf := iq c_6 hf
      refine lv_iload_n hx hb dX8_both_26 rfl (lv_at hl 1 rfl) ?_
      refine lv_bipush (v := 20) hx hb dX8_both_27 (by decide) ?_
      refine lv_idiv hx hb dX8_both_29 (by decide) ?_
      refine lv_topi (fun y_7 ey_7 => ?_)
      have hf := bnd_all hf y_7 ey_7
      refine lv_istore_n (lv' := [(3, .int y_7), (0, .ref t_h), (1, .int v1), (2, .int v2)]) hx hb dX8_both_30 rfl hl (by decide) rfl (fun ls hl => ?_)
      refine lv_iload_n hx hb dX8_both_31 rfl (lv_at hl 2 rfl) ?_
      refine lv_bipush (v := 20) hx hb dX8_both_32 (by decide) ?_
      refine lv_irem hx hb dX8_both_34 (by decide) ?_
      refine lv_topi (fun y_8 ey_8 => ?_)
      have hf := bnd_all hf y_8 ey_8
      refine lv_istore (lv' := [(4, .int y_8), (3, .int y_7), (0, .ref t_h), (1, .int v1), (2, .int v2)]) hx hb dX8_both_35 hl (by decide) rfl (fun ls hl => ?_)
      refine lv_iload_n hx hb dX8_both_37 rfl (lv_at hl 4 rfl) ?_
      refine lv_bipush (v := 20) hx hb dX8_both_38 (by decide) ?_
      refine lv_idiv hx hb dX8_both_40 (by decide) ?_
      refine lv_topi (fun y_9 ey_9 => ?_)
      have hf := bnd_all hf y_9 ey_9
      refine lv_istore (lv' := [(5, .int y_9), (4, .int y_8), (3, .int y_7), (0, .ref t_h), (1, .int v1), (2, .int v2)]) hx hb dX8_both_41 hl (by decide) rfl (fun ls hl => ?_)
      refine lv_iload_n hx hb dX8_both_43 rfl (lv_at hl 5 rfl) ?_
      refine lv_bipush (v := 20) hx hb dX8_both_44 (by decide) ?_
      refine lv_irem hx hb dX8_both_46 (by decide) ?_
      refine lv_topi (fun y_10 ey_10 => ?_)
      have hf := bnd_all hf y_10 ey_10
      refine lv_istore (lv' := [(6, .int y_10), (5, .int y_9), (4, .int y_8), (3, .int y_7), (0, .ref t_h), (1, .int v1), (2, .int v2)]) hx hb dX8_both_47 hl (by decide) rfl (fun ls hl => ?_)
      refine lv_iload_n hx hb dX8_both_49 rfl (lv_at hl 3 rfl) ?_
      refine lv_iload hx hb dX8_both_50 (lv_at hl 1 rfl) ?_
      refine lv_icmp_eq (tgt := 75) hx hb dX8_both_52 (by decide) (fun c_11 => ?_) (fun c_11 => ?_)
      · have hf := ip c_11 hf
        refine lv_bipush (v := (-3)) hx hb dX8_both_75 (by decide) ?_
        exact hRet _ _ _ _ _ _ _ _ _ hf hP hS dX8_both_77
      · have hf := iq c_11 hf
        refine lv_iload_n hx hb dX8_both_55 rfl (lv_at hl 3 rfl) ?_
        refine lv_iload hx hb dX8_both_56 (lv_at hl 0 rfl) ?_
        refine lv_icmp_eq (tgt := 75) hx hb dX8_both_58 (by decide) (fun c_12 => ?_) (fun c_12 => ?_)
        · have hf := ip c_12 hf
          refine lv_bipush (v := (-3)) hx hb dX8_both_75 (by decide) ?_
          exact hRet _ _ _ _ _ _ _ _ _ hf hP hS dX8_both_77
        · have hf := iq c_12 hf
          refine lv_iload hx hb dX8_both_61 (lv_at hl 2 rfl) ?_
          refine lv_iload hx hb dX8_both_63 (lv_at hl 1 rfl) ?_
          refine lv_icmp_eq (tgt := 75) hx hb dX8_both_65 (by decide) (fun c_13 => ?_) (fun c_13 => ?_)
          · have hf := ip c_13 hf
            refine lv_bipush (v := (-3)) hx hb dX8_both_75 (by decide) ?_
            exact hRet _ _ _ _ _ _ _ _ _ hf hP hS dX8_both_77
          · have hf := iq c_13 hf
            refine lv_iload hx hb dX8_both_68 (lv_at hl 2 rfl) ?_
            refine lv_iload hx hb dX8_both_70 (lv_at hl 0 rfl) ?_
            refine lv_icmp_ne (tgt := 78) hx hb dX8_both_72 (by decide) (fun c_14 => ?_) (fun c_14 => ?_)
            · have hf := iq c_14 hf
              refine lv_aload_n hx hb dX8_both_78 rfl (lv_at hl 4 rfl) ?_
              refine lv_iconst (v := (-1)) hx hb dX8_both_79 (by decide) ?_
              refine va_put (D := G.1) (ci := 8) (v := .int (-1)) (ty := .int) (C := RX8) (T := TX8) (N := 33) hx hb hw inW8 tyX8 tyX8_ok nmX8 hown hK.1 hP hD hS 0 rfl rfl 20 (by decide) (hw _ kw_36_22) (fun _ h9 => h9) rfl (by decide +kernel) rfl rfl (Nat.le_of_ble_eq_true rfl) dX8_both_80 (fun H locs hP hD hS => ?_)
              have hP : va_P G.1 vwCl [oX8 t_h t_a 0 t_taped t_at t_behind t_size t_kind t_number t_wrong t_wrongAt t_faultKind t_faultPlace t_x t_wayLong (-1), arI G (t_a 1) 558 t_all, arI G (t_a 16) 12 t_loss, arI G (t_a 17) 12 t_hops] H := hP
              have hD : va_D A [oX8 t_h t_a 0 t_taped t_at t_behind t_size t_kind t_number t_wrong t_wrongAt t_faultKind t_faultPlace t_x t_wayLong (-1), arI G (t_a 1) 558 t_all, arI G (t_a 16) 12 t_loss, arI G (t_a 17) 12 t_hops] := hD
              refine lv_aload_n hx hb dX8_both_83 rfl (lv_at hl 4 rfl) ?_
              refine lv_iload_n hx hb dX8_both_84 rfl (lv_at hl 3 rfl) ?_
              refine lv_iload hx hb dX8_both_85 (lv_at hl 2 rfl) ?_
              refine lv_iconst (v := 1) hx hb dX8_both_87 (by decide) ?_
              refine lv_iload_n hx hb dX8_both_88 rfl (lv_at hl 3 rfl) ?_
              refine lv_ishl hx hb dX8_both_89 ?_
              refine lv_iconst (v := 0) hx hb dX8_both_90 (by decide) ?_
              refine lv_iload hx hb dX8_both_91 (lv_at hl 1 rfl) ?_
              refine lv_iload hx hb dX8_both_93 (lv_at hl 0 rfl) ?_
              obtain ⟨t_loss_15, t_hops_16, t_bothLeast_17, hc_18, hf⟩ := bd3_in hf
              refine wcV (w1 := [oX8 t_h t_a 0 t_taped t_at t_behind t_size t_kind t_number t_wrong t_wrongAt t_faultKind t_faultPlace t_x t_wayLong t_bothLeast_17, arI G (t_a 1) 558 t_all, arI G (t_a 16) 12 t_loss_15, arI G (t_a 17) 12 t_hops_16]) (va_runV (As := [.int y_7, .int y_8, .int ((1 : Int32) <<< (y_7 &&& 31)), .int 0, .int y_9, .int y_10]) (rest := []) ⟨hx, hb, hml, hown, hw⟩ ((ctX8_goesBoth l G 16 t_h t_a 0 t_all t_taped t_at t_behind t_size t_kind t_number t_wrong t_wrongAt t_faultKind t_faultPlace t_x t_loss t_hops t_wayLong (-1) y_7 y_8 ((1 : Int32) <<< (y_7 &&& 31)) 0 y_9 y_10 _ _ _ hc_18) _) (kV hw calX8_goesBoth kw_36_23 rfl rfl ⟨Nat.le_of_ble_eq_true rfl, Nat.le_of_ble_eq_true rfl⟩) (wpV (hP.sub (ws' := [oX8 t_h t_a 0 t_taped t_at t_behind t_size t_kind t_number t_wrong t_wrongAt t_faultKind t_faultPlace t_x t_wayLong (-1), arI G (t_a 1) 558 t_all, arI G (t_a 16) 12 t_loss, arI G (t_a 17) 12 t_hops]) [0, 1, 2, 3] rfl) (hD.sub (ws' := [oX8 t_h t_a 0 t_taped t_at t_behind t_size t_kind t_number t_wrong t_wrongAt t_faultKind t_faultPlace t_x t_wayLong (-1), arI G (t_a 1) 558 t_all, arI G (t_a 16) 12 t_loss, arI G (t_a 17) 12 t_hops]) [0, 1, 2, 3] (by decide) rfl) hK (ci := 8) (q0 := 0) rfl rfl) rfl rfl hl.1 rfl (lv_room (Nat.le_of_ble_eq_true rfl)) dX8_both_95 ⟨Nat.zero_le _, Nat.zero_le _⟩) hS hA hP hD [0, 1, 2, 3] rfl rfl (fun H locs hP hD hS => ?_)
              have hP : va_P G.1 vwCl [oX8 t_h t_a 0 t_taped t_at t_behind t_size t_kind t_number t_wrong t_wrongAt t_faultKind t_faultPlace t_x t_wayLong t_bothLeast_17, arI G (t_a 1) 558 t_all, arI G (t_a 16) 12 t_loss_15, arI G (t_a 17) 12 t_hops_16] H := hP
              have hD : va_D A [oX8 t_h t_a 0 t_taped t_at t_behind t_size t_kind t_number t_wrong t_wrongAt t_faultKind t_faultPlace t_x t_wayLong t_bothLeast_17, arI G (t_a 1) 558 t_all, arI G (t_a 16) 12 t_loss_15, arI G (t_a 17) 12 t_hops_16] := hD
              refine lv_aload_n hx hb dX8_both_98 rfl (lv_at hl 4 rfl) ?_
              refine va_get (D := G.1) (ci := 8) (v := .int t_bothLeast_17) (C := RX8) (T := TX8) (N := 33) hx hb hw inW8 hown hK.1 hP 0 rfl rfl 20 (by decide) (hw _ kw_36_22) (fun _ h9 => h9) rfl dX8_both_99 ?_
              exact hRet _ _ _ _ _ _ _ _ _ hf hP hS dX8_both_102
            · have hf := ip c_14 hf
              refine lv_bipush (v := (-3)) hx hb dX8_both_75 (by decide) ?_
              exact hRet _ _ _ _ _ _ _ _ _ hf hP hS dX8_both_77
    · have hf := ip c_6 hf
      refine lv_bipush (v := (-2)) hx hb dX8_both_23 (by decide) ?_
      exact hRet _ _ _ _ _ _ _ _ _ hf hP hS dX8_both_25
theorem calX8_joins : CalV yX8_joins cX8_joins 8 (some .boolean) 4 := ⟨⟨kw_39_18, kw_1_5, by decide +kernel⟩, kw_39_16, kw_39_17⟩
set_option maxHeartbeats 8000000 in
set_option maxRecDepth 100000 in
theorem ctX8_joins (l : Launch) (G : GT) : ∀ (dd : Nat) (t_h : Nat) (t_a : Nat → Nat) (t_thrown : Int32) (t_all : Nat → Int32) (t_taped : Int32) (t_at : Int32) (t_behind : Int32) (t_size : Int32) (t_kind : Int32) (t_number : Int32) (t_wrong : Int32) (t_wrongAt : Int32) (t_faultKind : Int32) (t_faultPlace : Int32) (t_x : Int32) (t_wayLong : Int32) (t_bothLeast : Int32) (t_tied : Nat → Int32) (v1 : Int32) (v2 : Int32) (v3 : Int32) (v4 : Int32) (r : Int32) (o_t_all : Nat → Int32) (o_t_tied : Nat → Int32) (hf : fX8_joins dd t_all t_tied v1 v2 v3 v4 = some (r, o_t_all, o_t_tied)), WrI l yX8_joins (Cond.code yX8_joins cX8_joins 8 (some .boolean)) { frames := 6 + dd, cells := 0, slots := 0, locals := 141 + dd * 27 } G [.ref t_h, .int v1, .int v2, .int v3, .int v4] [oX8 t_h t_a t_thrown t_taped t_at t_behind t_size t_kind t_number t_wrong t_wrongAt t_faultKind t_faultPlace t_x t_wayLong t_bothLeast, arI G (t_a 1) 558 t_all, arI G (t_a 21) 2 t_tied] [oX8 t_h t_a t_thrown t_taped t_at t_behind t_size t_kind t_number t_wrong t_wrongAt t_faultKind t_faultPlace t_x t_wayLong t_bothLeast, arI G (t_a 1) 558 o_t_all, arI G (t_a 21) 2 o_t_tied] r := by
  intro dd
  induction dd with
  | zero => intro t_h t_a t_thrown t_all t_taped t_at t_behind t_size t_kind t_number t_wrong t_wrongAt t_faultKind t_faultPlace t_x t_wayLong t_bothLeast t_tied v1 v2 v3 v4 r o_t_all o_t_tied hf; rw [fX8_joins] at hf; cases hf
  | succ dd ihd =>
  intro t_h t_a t_thrown t_all t_taped t_at t_behind t_size t_kind t_number t_wrong t_wrongAt t_faultKind t_faultPlace t_x t_wayLong t_bothLeast t_tied v1 v2 v3 v4 r o_t_all o_t_tied hf
  rw [fX8_joins] at hf
  intro sz
  refine Met.ofW (cc := cX8_joins) (maxL := 8) (ret := (some .boolean)) (by decide) rfl ?_
  intro p e s m args below meth c s₁ B hml hv
  obtain ⟨hargs, hsz, hP, hD0, hK⟩ := hv
  subst hsz
  obtain ⟨hx, hb, hr, hw, hown, hlk⟩ := fwB B
  refine fw_enter hargs (Nat.le_of_ble_eq_true rfl) (fun ls hl => ?_)
  have hl : lv_has ls 8 [(0, .ref t_h), (1, .int v1), (2, .int v2), (3, .int v3), (4, .int v4)] := hl
  refine fw_Q (P := fun Q => ∃ A : Nat → Prop, va_D A [oX8 t_h t_a t_thrown t_taped t_at t_behind t_size t_kind t_number t_wrong t_wrongAt t_faultKind t_faultPlace t_x t_wayLong t_bothLeast, arI G (t_a 1) 558 t_all, arI G (t_a 21) 2 t_tied] ∧ va_S A s.heap s.heap [] ∧ (∀ q, s.heap.size ≤ q → A q) ∧ ∀ (v : Int32) (n_t_all : Nat → Int32) (n_t_tied : Nat → Int32) (H : Heap) (locs : List Loc) (pc : Nat) (ls : Array Slot), some (v, n_t_all, n_t_tied) = some (r, o_t_all, o_t_tied) → va_P G.1 vwCl [oX8 t_h t_a t_thrown t_taped t_at t_behind t_size t_kind t_number t_wrong t_wrongAt t_faultKind t_faultPlace t_x t_wayLong t_bothLeast, arI G (t_a 1) 558 n_t_all, arI G (t_a 21) 2 n_t_tied] H → va_S A s.heap H locs → narrow .boolean (.int v) = .int v → decode cX8_joins pc = .ok (.ireturn, 1) → W p l e ({ frames := 6 + (dd + 1), cells := 0, slots := 0, locals := 141 + (dd + 1) * 27 } : Room) s m args below meth c H locs 0 0 Q (F0 m pc ls [.int v])) ⟨va_A [oX8 t_h t_a t_thrown t_taped t_at t_behind t_size t_kind t_number t_wrong t_wrongAt t_faultKind t_faultPlace t_x t_wayLong t_bothLeast, arI G (t_a 1) 558 t_all, arI G (t_a 21) 2 t_tied] s.heap.size, hD0.self (sz := s.heap.size), va_S.rf, fun q h => Or.inr h, ?_⟩ ?_
  · intro v n_t_all n_t_tied H locs pc ls h hP hS hn hd
    cases h
    exact retWZ hx hb hr hlk hS hP hn rfl hd
  rintro Q ⟨A, hD, hS, hA, hRet⟩
  change W p l e ({ frames := 6 + (dd + 1), cells := 0, slots := 0, locals := 141 + (dd + 1) * 27 } : Room) s m args below meth c _ _ 0 0 Q _
  have L45 : ∀ (l5 : Int32) (K : (Nat → Int32) → (Nat → Int32) → Option (Int32 × (Nat → Int32) × (Nat → Int32))) (n : Nat) (l6 : Int32) (t_all : Nat → Int32) (t_tied : Nat → Int32) (H : Heap) (locs : List Loc) (ls : Array Slot), va_P G.1 vwCl [oX8 t_h t_a t_thrown t_taped t_at t_behind t_size t_kind t_number t_wrong t_wrongAt t_faultKind t_faultPlace t_x t_wayLong t_bothLeast, arI G (t_a 1) 558 t_all, arI G (t_a 21) 2 t_tied] H → va_D A [oX8 t_h t_a t_thrown t_taped t_at t_behind t_size t_kind t_number t_wrong t_wrongAt t_faultKind t_faultPlace t_x t_wayLong t_bothLeast, arI G (t_a 1) 558 t_all, arI G (t_a 21) 2 t_tied] → va_S A s.heap H locs → lv_has ls 8 [(0, .ref t_h), (1, .int v1), (2, .int v2), (3, .int v3), (4, .int v4), (5, .int l5), (6, .int l6)] → fX8_joins_45 (fX8_joins dd) v1 v2 v3 v4 l5 K n l6 t_all t_tied = some (r, o_t_all, o_t_tied) → (∀ (kt_all : Nat → Int32) (kt_tied : Nat → Int32) (H : Heap) (locs : List Loc) (ls : Array Slot), va_P G.1 vwCl [oX8 t_h t_a t_thrown t_taped t_at t_behind t_size t_kind t_number t_wrong t_wrongAt t_faultKind t_faultPlace t_x t_wayLong t_bothLeast, arI G (t_a 1) 558 kt_all, arI G (t_a 21) 2 kt_tied] H → va_D A [oX8 t_h t_a t_thrown t_taped t_at t_behind t_size t_kind t_number t_wrong t_wrongAt t_faultKind t_faultPlace t_x t_wayLong t_bothLeast, arI G (t_a 1) 558 kt_all, arI G (t_a 21) 2 kt_tied] → va_S A s.heap H locs → lv_has ls 8 [(0, .ref t_h), (1, .int v1), (2, .int v2), (3, .int v3), (4, .int v4), (5, .int l5)] → K kt_all kt_tied = some (r, o_t_all, o_t_tied) → W p l e ({ frames := 6 + (dd + 1), cells := 0, slots := 0, locals := 141 + (dd + 1) * 27 } : Room) s m args below meth c H locs 0 0 Q (F0 m 151 ls [])) → W p l e ({ frames := 6 + (dd + 1), cells := 0, slots := 0, locals := 141 + (dd + 1) * 27 } : Room) s m args below meth c H locs 0 0 Q (F0 m 45 ls []) := by
    intro l5 K n
    induction n with
    | zero => intro l6 t_all t_tied H locs ls hP hD hS hl hf; rw [fX8_joins_45] at hf; cases hf
    | succ n ih =>
      intro l6 t_all t_tied H locs ls hP hD hS hl hf hX
      rw [fX8_joins_45] at hf
      refine lv_iload hx hb dX8_joins_45 (lv_at hl 6 rfl) ?_
      refine lv_aload_n hx hb dX8_joins_47 rfl (lv_at hl 0 rfl) ?_
      refine va_get (D := G.1) (ci := 8) (v := .ref (t_a 1)) (C := RX8) (T := TX8) (N := 33) hx hb hw inW8 hown hK.1 hP 0 rfl rfl 1 (by decide) (hw _ kw_5_11) (fun _ h9 => h9) rfl dX8_joins_48 ?_
      refine lv_iconst (v := 0) hx hb dX8_joins_51 (by decide) ?_
      obtain ⟨hi_7, hf⟩ := rdI_in hf
      refine va_iald hx hb hK.1 hP 1 0 rfl rfl hi_7 dX8_joins_52 ?_
      refine lv_topi (fun x_6 ex_6 => ?_)
      have hf := hf x_6 ex_6
      refine lv_icmp_ge (tgt := 151) hx hb dX8_joins_53 (by decide) (fun c_8 => ?_) (fun c_8 => ?_)
      · have hf := ip c_8 hf
        exact hX _ _ _ _ _ hP hD hS (lv_sub hl [0, 1, 2, 3, 4, 5] rfl) hf
      · have hf := iq c_8 hf
        refine lv_aload_n hx hb dX8_joins_56 rfl (lv_at hl 0 rfl) ?_
        refine va_get (D := G.1) (ci := 8) (v := .ref (t_a 1)) (C := RX8) (T := TX8) (N := 33) hx hb hw inW8 hown hK.1 hP 0 rfl rfl 1 (by decide) (hw _ kw_5_11) (fun _ h9 => h9) rfl dX8_joins_57 ?_
        refine lv_iload hx hb dX8_joins_60 (lv_at hl 5 rfl) ?_
        refine lv_iload hx hb dX8_joins_62 (lv_at hl 6 rfl) ?_
        obtain ⟨r_9, hc_10, hf⟩ := bd1_in hf
        refine rcI (va_runS (As := [.ref (t_a 1), .int l5, .int l6]) (rest := []) ⟨hx, hb, hml, hown, hw⟩ ((ctX8_refusesIn l G 558 (t_a 1) t_all l5 l6 _ hc_10) _) (kS hw calX8_refusesIn kw_16_22 rfl rfl ⟨(by dsimp only; omega), (by dsimp only; omega)⟩) (rpS (hP.sub (ws' := [arI G (t_a 1) 558 t_all]) [1] rfl) hK) rfl rfl hl.1 rfl (lv_room (Nat.le_of_ble_eq_true rfl)) dX8_joins_64 ⟨Nat.zero_le _, Nat.zero_le _⟩) hS hA hP (fun H locs hP hS => ?_)
        refine lv_if_ne (tgt := 145) hx hb dX8_joins_67 (by decide) (fun c_11 => ?_) (fun c_11 => ?_)
        · have hf := iq c_11 hf
          refine lv_iinc (v := (l6 + 1)) (lv' := [(6, .int (l6 + 1)), (0, .ref t_h), (1, .int v1), (2, .int v2), (3, .int v3), (4, .int v4), (5, .int l5)]) hx hb dX8_joins_145 hl (k := 6) rfl (by rfl) (by decide) rfl (fun ls hl => ?_)
          refine lv_goto (tgt := 45) hx hb dX8_joins_148 (by decide) ?_
          exact ih _ _ _ _ _ _ hP hD hS (lv_sub hl [1, 2, 3, 4, 5, 6, 0] rfl) hf hX
        · have hf := ip c_11 hf
          refine lv_aload_n hx hb dX8_joins_70 rfl (lv_at hl 0 rfl) ?_
          refine lv_iload hx hb dX8_joins_71 (lv_at hl 5 rfl) ?_
          refine lv_iload hx hb dX8_joins_73 (lv_at hl 6 rfl) ?_
          obtain ⟨r_12, hc_13, hf⟩ := bd1_in hf
          refine rcI (va_runV (As := [.int l5, .int l6]) (rest := []) ⟨hx, hb, hml, hown, hw⟩ ((ctX8_isSlack l G t_h t_a t_thrown t_all t_taped t_at t_behind t_size t_kind t_number t_wrong t_wrongAt t_faultKind t_faultPlace t_x t_wayLong t_bothLeast l5 l6 _ hc_13) _) (kV hw calX8_isSlack kw_22_19 rfl rfl ⟨(by dsimp only; omega), (by dsimp only; omega)⟩) (rpV (hP.sub (ws' := [oX8 t_h t_a t_thrown t_taped t_at t_behind t_size t_kind t_number t_wrong t_wrongAt t_faultKind t_faultPlace t_x t_wayLong t_bothLeast, arI G (t_a 1) 558 t_all]) [0, 1] rfl) hK (ci := 8) (q0 := 0) rfl rfl) rfl rfl hl.1 rfl (lv_room (Nat.le_of_ble_eq_true rfl)) dX8_joins_75 ⟨Nat.zero_le _, Nat.zero_le _⟩) hS hA hP (fun H locs hP hS => ?_)
          refine lv_if_eq (tgt := 84) hx hb dX8_joins_78 (by decide) (fun c_14 => ?_) (fun c_14 => ?_)
          · have hf := ip c_14 hf
            refine lv_aload_n hx hb dX8_joins_84 rfl (lv_at hl 0 rfl) ?_
            refine va_get (D := G.1) (ci := 8) (v := .ref (t_a 1)) (C := RX8) (T := TX8) (N := 33) hx hb hw inW8 hown hK.1 hP 0 rfl rfl 1 (by decide) (hw _ kw_5_11) (fun _ h9 => h9) rfl dX8_joins_85 ?_
            refine lv_iload hx hb dX8_joins_88 (lv_at hl 5 rfl) ?_
            refine lv_iload hx hb dX8_joins_90 (lv_at hl 6 rfl) ?_
            refine lv_iconst (v := 1) hx hb dX8_joins_92 (by decide) ?_
            obtain ⟨t_all_15, hc_16, hf⟩ := bd1_in hf
            refine wcV (w1 := [arI G (t_a 1) 558 t_all_15]) (va_runS (As := [.ref (t_a 1), .int l5, .int l6, .int 1]) (rest := []) ⟨hx, hb, hml, hown, hw⟩ ((ctX8_sets l G 558 (t_a 1) t_all l5 l6 1 _ hc_16) _) (kS hw calX8_sets kw_17_10 rfl rfl ⟨(by dsimp only; omega), (by dsimp only; omega)⟩) (wpS (hP.sub (ws' := [arI G (t_a 1) 558 t_all]) [1] rfl) (hD.sub (ws' := [arI G (t_a 1) 558 t_all]) [1] (by decide) rfl) hK) rfl rfl hl.1 rfl (lv_room (Nat.le_of_ble_eq_true rfl)) dX8_joins_93 ⟨Nat.zero_le _, Nat.zero_le _⟩) hS hA hP hD [1] rfl rfl (fun H locs hP hD hS => ?_)
            have hP : va_P G.1 vwCl [oX8 t_h t_a t_thrown t_taped t_at t_behind t_size t_kind t_number t_wrong t_wrongAt t_faultKind t_faultPlace t_x t_wayLong t_bothLeast, arI G (t_a 1) 558 t_all_15, arI G (t_a 21) 2 t_tied] H := hP
            have hD : va_D A [oX8 t_h t_a t_thrown t_taped t_at t_behind t_size t_kind t_number t_wrong t_wrongAt t_faultKind t_faultPlace t_x t_wayLong t_bothLeast, arI G (t_a 1) 558 t_all_15, arI G (t_a 21) 2 t_tied] := hD
            refine lv_aload_n hx hb dX8_joins_96 rfl (lv_at hl 0 rfl) ?_
            refine lv_iload_n hx hb dX8_joins_97 rfl (lv_at hl 1 rfl) ?_
            refine lv_iconst (v := 1) hx hb dX8_joins_98 (by decide) ?_
            refine lv_iadd hx hb dX8_joins_99 ?_
            refine lv_iload_n hx hb dX8_joins_100 rfl (lv_at hl 2 rfl) ?_
            refine lv_iload_n hx hb dX8_joins_101 rfl (lv_at hl 3 rfl) ?_
            refine lv_iload hx hb dX8_joins_102 (lv_at hl 4 rfl) ?_
            obtain ⟨r_19, t_all_17, t_tied_18, hc_20, hf⟩ := bd3_in hf
            refine wcI (w1 := [oX8 t_h t_a t_thrown t_taped t_at t_behind t_size t_kind t_number t_wrong t_wrongAt t_faultKind t_faultPlace t_x t_wayLong t_bothLeast, arI G (t_a 1) 558 t_all_17, arI G (t_a 21) 2 t_tied_18]) (va_runV (As := [.int (v1 + 1), .int v2, .int v3, .int v4]) (rest := []) ⟨hx, hb, hml, hown, hw⟩ ((ihd t_h t_a t_thrown t_all_15 t_taped t_at t_behind t_size t_kind t_number t_wrong t_wrongAt t_faultKind t_faultPlace t_x t_wayLong t_bothLeast t_tied (v1 + 1) v2 v3 v4 _ _ _ hc_20) _) (kV hw calX8_joins kw_39_15 rfl rfl ⟨(by dsimp only; omega), (by dsimp only; omega)⟩) (wpV (hP.sub (ws' := [oX8 t_h t_a t_thrown t_taped t_at t_behind t_size t_kind t_number t_wrong t_wrongAt t_faultKind t_faultPlace t_x t_wayLong t_bothLeast, arI G (t_a 1) 558 t_all_15, arI G (t_a 21) 2 t_tied]) [0, 1, 2] rfl) (hD.sub (ws' := [oX8 t_h t_a t_thrown t_taped t_at t_behind t_size t_kind t_number t_wrong t_wrongAt t_faultKind t_faultPlace t_x t_wayLong t_bothLeast, arI G (t_a 1) 558 t_all_15, arI G (t_a 21) 2 t_tied]) [0, 1, 2] (by decide) rfl) hK (ci := 8) (q0 := 0) rfl rfl) rfl rfl hl.1 rfl (lv_room (Nat.le_of_ble_eq_true rfl)) dX8_joins_104 ⟨Nat.zero_le _, Nat.zero_le _⟩) hS hA hP hD [0, 1, 2] rfl rfl (fun H locs hP hD hS => ?_)
            have hP : va_P G.1 vwCl [oX8 t_h t_a t_thrown t_taped t_at t_behind t_size t_kind t_number t_wrong t_wrongAt t_faultKind t_faultPlace t_x t_wayLong t_bothLeast, arI G (t_a 1) 558 t_all_17, arI G (t_a 21) 2 t_tied_18] H := hP
            have hD : va_D A [oX8 t_h t_a t_thrown t_taped t_at t_behind t_size t_kind t_number t_wrong t_wrongAt t_faultKind t_faultPlace t_x t_wayLong t_bothLeast, arI G (t_a 1) 558 t_all_17, arI G (t_a 21) 2 t_tied_18] := hD
            refine lv_istore (lv' := [(7, .int r_19), (0, .ref t_h), (1, .int v1), (2, .int v2), (3, .int v3), (4, .int v4), (5, .int l5), (6, .int l6)]) hx hb dX8_joins_107 hl (by decide) rfl (fun ls hl => ?_)
            refine lv_aload_n hx hb dX8_joins_109 rfl (lv_at hl 1 rfl) ?_
            refine va_get (D := G.1) (ci := 8) (v := .ref (t_a 1)) (C := RX8) (T := TX8) (N := 33) hx hb hw inW8 hown hK.1 hP 0 rfl rfl 1 (by decide) (hw _ kw_5_11) (fun _ h9 => h9) rfl dX8_joins_110 ?_
            refine lv_iload hx hb dX8_joins_113 (lv_at hl 6 rfl) ?_
            refine lv_iload hx hb dX8_joins_115 (lv_at hl 7 rfl) ?_
            refine lv_iconst (v := 0) hx hb dX8_joins_117 (by decide) ?_
            obtain ⟨t_all_21, hc_22, hf⟩ := bd1_in hf
            refine wcV (w1 := [arI G (t_a 1) 558 t_all_21]) (va_runS (As := [.ref (t_a 1), .int l5, .int l6, .int 0]) (rest := []) ⟨hx, hb, hml, hown, hw⟩ ((ctX8_sets l G 558 (t_a 1) t_all_17 l5 l6 0 _ hc_22) _) (kS hw calX8_sets kw_17_10 rfl rfl ⟨(by dsimp only; omega), (by dsimp only; omega)⟩) (wpS (hP.sub (ws' := [arI G (t_a 1) 558 t_all_17]) [1] rfl) (hD.sub (ws' := [arI G (t_a 1) 558 t_all_17]) [1] (by decide) rfl) hK) rfl rfl hl.1 rfl (lv_room (Nat.le_of_ble_eq_true rfl)) dX8_joins_118 ⟨Nat.zero_le _, Nat.zero_le _⟩) hS hA hP hD [1] rfl rfl (fun H locs hP hD hS => ?_)
            have hP : va_P G.1 vwCl [oX8 t_h t_a t_thrown t_taped t_at t_behind t_size t_kind t_number t_wrong t_wrongAt t_faultKind t_faultPlace t_x t_wayLong t_bothLeast, arI G (t_a 1) 558 t_all_21, arI G (t_a 21) 2 t_tied_18] H := hP
            have hD : va_D A [oX8 t_h t_a t_thrown t_taped t_at t_behind t_size t_kind t_number t_wrong t_wrongAt t_faultKind t_faultPlace t_x t_wayLong t_bothLeast, arI G (t_a 1) 558 t_all_21, arI G (t_a 21) 2 t_tied_18] := hD
            refine lv_iload hx hb dX8_joins_121 (lv_at hl 0 rfl) ?_
            refine lv_if_ne (tgt := 129) hx hb dX8_joins_123 (by decide) (fun c_23 => ?_) (fun c_23 => ?_)
            · have hf := iq c_23 hf
              refine lv_aload_n hx hb dX8_joins_129 rfl (lv_at hl 1 rfl) ?_
              refine va_get (D := G.1) (ci := 8) (v := .ref (t_a 21)) (C := RX8) (T := TX8) (N := 33) hx hb hw inW8 hown hK.1 hP 0 rfl rfl 21 (by decide) (hw _ kw_5_19) (fun _ h9 => h9) rfl dX8_joins_130 ?_
              refine lv_iload_n hx hb dX8_joins_133 rfl (lv_at hl 2 rfl) ?_
              refine lv_bipush (v := 20) hx hb dX8_joins_134 (by decide) ?_
              refine lv_iload hx hb dX8_joins_136 (lv_at hl 6 rfl) ?_
              refine lv_imul hx hb dX8_joins_138 ?_
              refine lv_iload hx hb dX8_joins_139 (lv_at hl 7 rfl) ?_
              refine lv_iadd hx hb dX8_joins_141 ?_
              obtain ⟨hi_25, hf⟩ := wrI_in hf
              refine xiast hx hb hK.1 hP hD hS 2 0 rfl rfl hi_25 dX8_joins_142 (fun t_tied_24 H locs et_tied_24 hP hD hS => ?_)
              have hf := hf t_tied_24 et_tied_24
              have hP : va_P G.1 vwCl [oX8 t_h t_a t_thrown t_taped t_at t_behind t_size t_kind t_number t_wrong t_wrongAt t_faultKind t_faultPlace t_x t_wayLong t_bothLeast, arI G (t_a 1) 558 t_all_21, arI G (t_a 21) 2 t_tied_24] H := hP
              have hD : va_D A [oX8 t_h t_a t_thrown t_taped t_at t_behind t_size t_kind t_number t_wrong t_wrongAt t_faultKind t_faultPlace t_x t_wayLong t_bothLeast, arI G (t_a 1) 558 t_all_21, arI G (t_a 21) 2 t_tied_24] := hD
              refine lv_iconst (v := 1) hx hb dX8_joins_143 (by decide) ?_
              exact hRet _ _ _ _ _ _ _ hf hP hS (by decide +kernel) dX8_joins_144
            · have hf := ip c_23 hf
              refine lv_goto (tgt := 145) hx hb dX8_joins_126 (by decide) ?_
              refine lv_iinc (v := (l6 + 1)) (lv' := [(6, .int (l6 + 1)), (7, .int r_19), (0, .ref t_h), (1, .int v1), (2, .int v2), (3, .int v3), (4, .int v4), (5, .int l5)]) hx hb dX8_joins_145 hl (k := 7) rfl (by rfl) (by decide) rfl (fun ls hl => ?_)
              refine lv_goto (tgt := 45) hx hb dX8_joins_148 (by decide) ?_
              exact ih _ _ _ _ _ _ hP hD hS (lv_sub hl [2, 3, 4, 5, 6, 7, 0] rfl) hf hX
          · have hf := iq c_14 hf
            refine lv_goto (tgt := 145) hx hb dX8_joins_81 (by decide) ?_
            refine lv_iinc (v := (l6 + 1)) (lv' := [(6, .int (l6 + 1)), (0, .ref t_h), (1, .int v1), (2, .int v2), (3, .int v3), (4, .int v4), (5, .int l5)]) hx hb dX8_joins_145 hl (k := 6) rfl (by rfl) (by decide) rfl (fun ls hl => ?_)
            refine lv_goto (tgt := 45) hx hb dX8_joins_148 (by decide) ?_
            exact ih _ _ _ _ _ _ hP hD hS (lv_sub hl [1, 2, 3, 4, 5, 6, 0] rfl) hf hX
  have L28 : ∀  (K : (Nat → Int32) → (Nat → Int32) → Option (Int32 × (Nat → Int32) × (Nat → Int32))) (n : Nat) (l5 : Int32) (t_all : Nat → Int32) (t_tied : Nat → Int32) (H : Heap) (locs : List Loc) (ls : Array Slot), va_P G.1 vwCl [oX8 t_h t_a t_thrown t_taped t_at t_behind t_size t_kind t_number t_wrong t_wrongAt t_faultKind t_faultPlace t_x t_wayLong t_bothLeast, arI G (t_a 1) 558 t_all, arI G (t_a 21) 2 t_tied] H → va_D A [oX8 t_h t_a t_thrown t_taped t_at t_behind t_size t_kind t_number t_wrong t_wrongAt t_faultKind t_faultPlace t_x t_wayLong t_bothLeast, arI G (t_a 1) 558 t_all, arI G (t_a 21) 2 t_tied] → va_S A s.heap H locs → lv_has ls 8 [(0, .ref t_h), (1, .int v1), (2, .int v2), (3, .int v3), (4, .int v4), (5, .int l5)] → fX8_joins_28 (fX8_joins dd) v1 v2 v3 v4 K n l5 t_all t_tied = some (r, o_t_all, o_t_tied) → (∀ (kt_all : Nat → Int32) (kt_tied : Nat → Int32) (H : Heap) (locs : List Loc) (ls : Array Slot), va_P G.1 vwCl [oX8 t_h t_a t_thrown t_taped t_at t_behind t_size t_kind t_number t_wrong t_wrongAt t_faultKind t_faultPlace t_x t_wayLong t_bothLeast, arI G (t_a 1) 558 kt_all, arI G (t_a 21) 2 kt_tied] H → va_D A [oX8 t_h t_a t_thrown t_taped t_at t_behind t_size t_kind t_number t_wrong t_wrongAt t_faultKind t_faultPlace t_x t_wayLong t_bothLeast, arI G (t_a 1) 558 kt_all, arI G (t_a 21) 2 kt_tied] → va_S A s.heap H locs → lv_has ls 8 [] → K kt_all kt_tied = some (r, o_t_all, o_t_tied) → W p l e ({ frames := 6 + (dd + 1), cells := 0, slots := 0, locals := 141 + (dd + 1) * 27 } : Room) s m args below meth c H locs 0 0 Q (F0 m 157 ls [])) → W p l e ({ frames := 6 + (dd + 1), cells := 0, slots := 0, locals := 141 + (dd + 1) * 27 } : Room) s m args below meth c H locs 0 0 Q (F0 m 28 ls []) := by
    intro  K n
    induction n with
    | zero => intro l5 t_all t_tied H locs ls hP hD hS hl hf; rw [fX8_joins_28] at hf; cases hf
    | succ n ih =>
      intro l5 t_all t_tied H locs ls hP hD hS hl hf hX
      rw [fX8_joins_28] at hf
      refine lv_iload hx hb dX8_joins_28 (lv_at hl 5 rfl) ?_
      refine lv_aload_n hx hb dX8_joins_30 rfl (lv_at hl 0 rfl) ?_
      refine va_get (D := G.1) (ci := 8) (v := .ref (t_a 1)) (C := RX8) (T := TX8) (N := 33) hx hb hw inW8 hown hK.1 hP 0 rfl rfl 1 (by decide) (hw _ kw_5_11) (fun _ h9 => h9) rfl dX8_joins_31 ?_
      refine lv_iconst (v := 0) hx hb dX8_joins_34 (by decide) ?_
      obtain ⟨hi_3, hf⟩ := rdI_in hf
      refine va_iald hx hb hK.1 hP 1 0 rfl rfl hi_3 dX8_joins_35 ?_
      refine lv_topi (fun x_2 ex_2 => ?_)
      have hf := hf x_2 ex_2
      refine lv_icmp_ge (tgt := 157) hx hb dX8_joins_36 (by decide) (fun c_4 => ?_) (fun c_4 => ?_)
      · have hf := ip c_4 hf
        exact hX _ _ _ _ _ hP hD hS (lv_sub hl [] rfl) hf
      · have hf := iq c_4 hf
        refine lv_iload hx hb dX8_joins_39 (lv_at hl 5 rfl) ?_
        refine lv_iconst (v := 1) hx hb dX8_joins_41 (by decide) ?_
        refine lv_iadd hx hb dX8_joins_42 ?_
        refine lv_topi (fun y_5 ey_5 => ?_)
        have hf := bnd_all hf y_5 ey_5
        refine lv_istore (lv' := [(6, .int y_5), (0, .ref t_h), (1, .int v1), (2, .int v2), (3, .int v3), (4, .int v4), (5, .int l5)]) hx hb dX8_joins_43 hl (by decide) rfl (fun ls hl => ?_)
        refine L45 _ _ _ _ _ _ _ _ _ hP hD hS (lv_sub hl [1, 2, 3, 4, 5, 6, 0] rfl) hf (fun t_all_26 t_tied_27 H locs ls hP hD hS hl hf => ?_)
        refine lv_iinc (v := (l5 + 1)) (lv' := [(5, .int (l5 + 1)), (0, .ref t_h), (1, .int v1), (2, .int v2), (3, .int v3), (4, .int v4)]) hx hb dX8_joins_151 hl (k := 5) rfl (by rfl) (by decide) rfl (fun ls hl => ?_)
        refine lv_goto (tgt := 28) hx hb dX8_joins_154 (by decide) ?_
        exact ih _ _ _ _ _ _ hP hD hS (lv_sub hl [1, 2, 3, 4, 5, 0] rfl) hf hX
  unfold fX8_joins_b at hf
  refine lv_iload_n hx hb dX8_joins_0 rfl (lv_at hl 1 rfl) ?_
  refine lv_iload_n hx hb dX8_joins_1 rfl (lv_at hl 2 rfl) ?_
  refine lv_icmp_ne (tgt := 25) hx hb dX8_joins_2 (by decide) (fun c_1 => ?_) (fun c_1 => ?_)
  · have hf := iq c_1 hf
    refine lv_iconst (v := 0) hx hb dX8_joins_25 (by decide) ?_
    refine lv_istore (lv' := [(5, .int 0), (0, .ref t_h), (1, .int v1), (2, .int v2), (3, .int v3), (4, .int v4)]) hx hb dX8_joins_26 hl (by decide) rfl (fun ls hl => ?_)
    refine L28  _ _ _ _ _ _ _ _ hP hD hS (lv_sub hl [1, 2, 3, 4, 5, 0] rfl) hf (fun t_all_28 t_tied_29 H locs ls hP hD hS hl hf => ?_)
    refine lv_iconst (v := 0) hx hb dX8_joins_157 (by decide) ?_
    exact hRet _ _ _ _ _ _ _ hf hP hS (by decide +kernel) dX8_joins_158
  · have hf := ip c_1 hf
    refine lv_aload_n hx hb dX8_joins_5 rfl (lv_at hl 0 rfl) ?_
    refine lv_iload_n hx hb dX8_joins_6 rfl (lv_at hl 3 rfl) ?_
    obtain ⟨r_30, hc_31, hf⟩ := bd1_in hf
    refine rcI (va_runV (As := [.int v3]) (rest := []) ⟨hx, hb, hml, hown, hw⟩ ((ctX8_partOf l G t_h t_a t_thrown t_all t_taped t_at t_behind t_size t_kind t_number t_wrong t_wrongAt t_faultKind t_faultPlace t_x t_wayLong t_bothLeast v3 _ hc_31) _) (kV hw calX8_partOf kw_33_1 rfl rfl ⟨(by dsimp only; omega), (by dsimp only; omega)⟩) (rpV (hP.sub (ws' := [oX8 t_h t_a t_thrown t_taped t_at t_behind t_size t_kind t_number t_wrong t_wrongAt t_faultKind t_faultPlace t_x t_wayLong t_bothLeast, arI G (t_a 1) 558 t_all]) [0, 1] rfl) hK (ci := 8) (q0 := 0) rfl rfl) rfl rfl hl.1 rfl (lv_room (Nat.le_of_ble_eq_true rfl)) dX8_joins_7 ⟨Nat.zero_le _, Nat.zero_le _⟩) hS hA hP (fun H locs hP hS => ?_)
    refine lv_iload hx hb dX8_joins_10 (lv_at hl 4 rfl) ?_
    refine lv_ishr hx hb dX8_joins_12 ?_
    refine lv_iconst (v := 1) hx hb dX8_joins_13 (by decide) ?_
    refine lv_iand hx hb dX8_joins_14 ?_
    refine lv_iconst (v := 1) hx hb dX8_joins_15 (by decide) ?_
    refine lv_icmp_ne (tgt := 23) hx hb dX8_joins_16 (by decide) (fun c_32 => ?_) (fun c_32 => ?_)
    · have hf := iq c_32 hf
      refine lv_iconst (v := 0) hx hb dX8_joins_23 (by decide) ?_
      exact hRet _ _ _ _ _ _ _ hf hP hS (by decide +kernel) dX8_joins_24
    · have hf := ip c_32 hf
      refine lv_iconst (v := 1) hx hb dX8_joins_19 (by decide) ?_
      refine lv_goto (tgt := 24) hx hb dX8_joins_20 (by decide) ?_
      exact hRet _ _ _ _ _ _ _ hf hP hS (by decide +kernel) dX8_joins_24
theorem calX8_missing : CalV yX8_missing cX8_missing 5 (some .int) 3 := ⟨⟨kw_39_14, kw_1_5, by decide +kernel⟩, kw_39_12, kw_39_13⟩
set_option maxHeartbeats 8000000 in
set_option maxRecDepth 100000 in
theorem ctX8_missing (l : Launch) (G : GT) (t_h : Nat) (t_a : Nat → Nat) (t_thrown : Int32) (t_all : Nat → Int32) (t_taped : Int32) (t_at : Int32) (t_behind : Int32) (t_size : Int32) (t_kind : Int32) (t_number : Int32) (t_wrong : Int32) (t_wrongAt : Int32) (t_faultKind : Int32) (t_faultPlace : Int32) (t_x : Int32) (t_wayLong : Int32) (t_bothLeast : Int32) (t_tied : Nat → Int32) (v1 : Int32) (v2 : Int32) (v3 : Int32) (r : Int32) (o_t_thrown : Int32) (o_t_all : Nat → Int32) (o_t_tied : Nat → Int32) (hf : fX8_missing t_thrown t_all t_tied v1 v2 v3 = some (r, o_t_thrown, o_t_all, o_t_tied)) : WrI l yX8_missing (Cond.code yX8_missing cX8_missing 5 (some .int)) { frames := 23, cells := 0, slots := 0, locals := 600 } G [.ref t_h, .int v1, .int v2, .int v3] [oX8 t_h t_a t_thrown t_taped t_at t_behind t_size t_kind t_number t_wrong t_wrongAt t_faultKind t_faultPlace t_x t_wayLong t_bothLeast, arI G (t_a 1) 558 t_all, arI G (t_a 21) 2 t_tied] [oX8 t_h t_a o_t_thrown t_taped t_at t_behind t_size t_kind t_number t_wrong t_wrongAt t_faultKind t_faultPlace t_x t_wayLong t_bothLeast, arI G (t_a 1) 558 o_t_all, arI G (t_a 21) 2 o_t_tied] r := by
  intro sz
  refine Met.ofW (cc := cX8_missing) (maxL := 5) (ret := (some .int)) (by decide) rfl ?_
  intro p e s m args below meth c s₁ B hml hv
  obtain ⟨hargs, hsz, hP, hD0, hK⟩ := hv
  subst hsz
  obtain ⟨hx, hb, hr, hw, hown, hlk⟩ := fwB B
  refine fw_enter hargs (Nat.le_of_ble_eq_true rfl) (fun ls hl => ?_)
  have hl : lv_has ls 5 [(0, .ref t_h), (1, .int v1), (2, .int v2), (3, .int v3)] := hl
  refine fw_Q (P := fun Q => ∃ A : Nat → Prop, va_D A [oX8 t_h t_a t_thrown t_taped t_at t_behind t_size t_kind t_number t_wrong t_wrongAt t_faultKind t_faultPlace t_x t_wayLong t_bothLeast, arI G (t_a 1) 558 t_all, arI G (t_a 21) 2 t_tied] ∧ va_S A s.heap s.heap [] ∧ (∀ q, s.heap.size ≤ q → A q) ∧ ∀ (v : Int32) (n_t_thrown : Int32) (n_t_all : Nat → Int32) (n_t_tied : Nat → Int32) (H : Heap) (locs : List Loc) (pc : Nat) (ls : Array Slot), some (v, n_t_thrown, n_t_all, n_t_tied) = some (r, o_t_thrown, o_t_all, o_t_tied) → va_P G.1 vwCl [oX8 t_h t_a n_t_thrown t_taped t_at t_behind t_size t_kind t_number t_wrong t_wrongAt t_faultKind t_faultPlace t_x t_wayLong t_bothLeast, arI G (t_a 1) 558 n_t_all, arI G (t_a 21) 2 n_t_tied] H → va_S A s.heap H locs → decode cX8_missing pc = .ok (.ireturn, 1) → W p l e ({ frames := 23, cells := 0, slots := 0, locals := 600 } : Room) s m args below meth c H locs 0 0 Q (F0 m pc ls [.int v])) ⟨va_A [oX8 t_h t_a t_thrown t_taped t_at t_behind t_size t_kind t_number t_wrong t_wrongAt t_faultKind t_faultPlace t_x t_wayLong t_bothLeast, arI G (t_a 1) 558 t_all, arI G (t_a 21) 2 t_tied] s.heap.size, hD0.self (sz := s.heap.size), va_S.rf, fun q h => Or.inr h, ?_⟩ ?_
  · intro v n_t_thrown n_t_all n_t_tied H locs pc ls h hP hS hd
    cases h
    exact retWI hx hb hr hlk hS hP rfl hd
  rintro Q ⟨A, hD, hS, hA, hRet⟩
  change W p l e ({ frames := 23, cells := 0, slots := 0, locals := 600 } : Room) s m args below meth c _ _ 0 0 Q _
  have L32 : ∀ (t_thrown : Int32) (K : (Nat → Int32) → (Nat → Int32) → Option (Int32 × Int32 × (Nat → Int32) × (Nat → Int32))) (n : Nat) (l4 : Int32) (t_all : Nat → Int32) (t_tied : Nat → Int32) (H : Heap) (locs : List Loc) (ls : Array Slot), va_P G.1 vwCl [oX8 t_h t_a t_thrown t_taped t_at t_behind t_size t_kind t_number t_wrong t_wrongAt t_faultKind t_faultPlace t_x t_wayLong t_bothLeast, arI G (t_a 1) 558 t_all, arI G (t_a 21) 2 t_tied] H → va_D A [oX8 t_h t_a t_thrown t_taped t_at t_behind t_size t_kind t_number t_wrong t_wrongAt t_faultKind t_faultPlace t_x t_wayLong t_bothLeast, arI G (t_a 1) 558 t_all, arI G (t_a 21) 2 t_tied] → va_S A s.heap H locs → lv_has ls 5 [(0, .ref t_h), (1, .int v1), (2, .int v2), (3, .int v3), (4, .int l4)] → fX8_missing_32 v1 v2 v3 t_thrown K n l4 t_all t_tied = some (r, o_t_thrown, o_t_all, o_t_tied) → (∀ (kt_all : Nat → Int32) (kt_tied : Nat → Int32) (H : Heap) (locs : List Loc) (ls : Array Slot), va_P G.1 vwCl [oX8 t_h t_a t_thrown t_taped t_at t_behind t_size t_kind t_number t_wrong t_wrongAt t_faultKind t_faultPlace t_x t_wayLong t_bothLeast, arI G (t_a 1) 558 kt_all, arI G (t_a 21) 2 kt_tied] H → va_D A [oX8 t_h t_a t_thrown t_taped t_at t_behind t_size t_kind t_number t_wrong t_wrongAt t_faultKind t_faultPlace t_x t_wayLong t_bothLeast, arI G (t_a 1) 558 kt_all, arI G (t_a 21) 2 kt_tied] → va_S A s.heap H locs → lv_has ls 5 [] → K kt_all kt_tied = some (r, o_t_thrown, o_t_all, o_t_tied) → W p l e ({ frames := 23, cells := 0, slots := 0, locals := 600 } : Room) s m args below meth c H locs 0 0 Q (F0 m 84 ls [])) → W p l e ({ frames := 23, cells := 0, slots := 0, locals := 600 } : Room) s m args below meth c H locs 0 0 Q (F0 m 32 ls []) := by
    intro t_thrown K n
    induction n with
    | zero => intro l4 t_all t_tied H locs ls hP hD hS hl hf; rw [fX8_missing_32] at hf; cases hf
    | succ n ih =>
      intro l4 t_all t_tied H locs ls hP hD hS hl hf hX
      rw [fX8_missing_32] at hf
      refine lv_iload hx hb dX8_missing_32 (lv_at hl 4 rfl) ?_
      refine lv_iconst (v := 3) hx hb dX8_missing_34 (by decide) ?_
      refine lv_icmp_ge (tgt := 84) hx hb dX8_missing_35 (by decide) (fun c_7 => ?_) (fun c_7 => ?_)
      · have hf := ip c_7 hf
        exact hX _ _ _ _ _ hP hD hS (lv_sub hl [] rfl) hf
      · have hf := iq c_7 hf
        refine lv_aload_n hx hb dX8_missing_38 rfl (lv_at hl 0 rfl) ?_
        refine lv_iconst (v := 0) hx hb dX8_missing_39 (by decide) ?_
        refine lv_iload hx hb dX8_missing_40 (lv_at hl 4 rfl) ?_
        refine lv_iload_n hx hb dX8_missing_42 rfl (lv_at hl 1 rfl) ?_
        refine lv_iload_n hx hb dX8_missing_43 rfl (lv_at hl 2 rfl) ?_
        obtain ⟨r_10, t_all_8, t_tied_9, hc_11, hf⟩ := bd3_in hf
        refine wcI (w1 := [oX8 t_h t_a t_thrown t_taped t_at t_behind t_size t_kind t_number t_wrong t_wrongAt t_faultKind t_faultPlace t_x t_wayLong t_bothLeast, arI G (t_a 1) 558 t_all_8, arI G (t_a 21) 2 t_tied_9]) (va_runV (As := [.int 0, .int l4, .int v1, .int v2]) (rest := []) ⟨hx, hb, hml, hown, hw⟩ ((ctX8_joins l G 16 t_h t_a t_thrown t_all t_taped t_at t_behind t_size t_kind t_number t_wrong t_wrongAt t_faultKind t_faultPlace t_x t_wayLong t_bothLeast t_tied 0 l4 v1 v2 _ _ _ hc_11) _) (kV hw calX8_joins kw_39_15 rfl rfl ⟨Nat.le_of_ble_eq_true rfl, Nat.le_of_ble_eq_true rfl⟩) (wpV (hP.sub (ws' := [oX8 t_h t_a t_thrown t_taped t_at t_behind t_size t_kind t_number t_wrong t_wrongAt t_faultKind t_faultPlace t_x t_wayLong t_bothLeast, arI G (t_a 1) 558 t_all, arI G (t_a 21) 2 t_tied]) [0, 1, 2] rfl) (hD.sub (ws' := [oX8 t_h t_a t_thrown t_taped t_at t_behind t_size t_kind t_number t_wrong t_wrongAt t_faultKind t_faultPlace t_x t_wayLong t_bothLeast, arI G (t_a 1) 558 t_all, arI G (t_a 21) 2 t_tied]) [0, 1, 2] (by decide) rfl) hK (ci := 8) (q0 := 0) rfl rfl) rfl rfl hl.1 rfl (lv_room (Nat.le_of_ble_eq_true rfl)) dX8_missing_44 ⟨Nat.zero_le _, Nat.zero_le _⟩) hS hA hP hD [0, 1, 2] rfl rfl (fun H locs hP hD hS => ?_)
        have hP : va_P G.1 vwCl [oX8 t_h t_a t_thrown t_taped t_at t_behind t_size t_kind t_number t_wrong t_wrongAt t_faultKind t_faultPlace t_x t_wayLong t_bothLeast, arI G (t_a 1) 558 t_all_8, arI G (t_a 21) 2 t_tied_9] H := hP
        have hD : va_D A [oX8 t_h t_a t_thrown t_taped t_at t_behind t_size t_kind t_number t_wrong t_wrongAt t_faultKind t_faultPlace t_x t_wayLong t_bothLeast, arI G (t_a 1) 558 t_all_8, arI G (t_a 21) 2 t_tied_9] := hD
        refine lv_if_eq (tgt := 78) hx hb dX8_missing_47 (by decide) (fun c_12 => ?_) (fun c_12 => ?_)
        · have hf := ip c_12 hf
          refine lv_iinc (v := (l4 + 1)) (lv' := [(4, .int (l4 + 1)), (0, .ref t_h), (1, .int v1), (2, .int v2), (3, .int v3)]) hx hb dX8_missing_78 hl (k := 4) rfl (by rfl) (by decide) rfl (fun ls hl => ?_)
          refine lv_goto (tgt := 32) hx hb dX8_missing_81 (by decide) ?_
          exact ih _ _ _ _ _ _ hP hD hS (lv_sub hl [1, 2, 3, 4, 0] rfl) hf hX
        · have hf := iq c_12 hf
          refine lv_iload_n hx hb dX8_missing_50 rfl (lv_at hl 3 rfl) ?_
          refine lv_if_ne (tgt := 59) hx hb dX8_missing_51 (by decide) (fun c_13 => ?_) (fun c_13 => ?_)
          · have hf := iq c_13 hf
            refine lv_iload_n hx hb dX8_missing_59 rfl (lv_at hl 3 rfl) ?_
            refine lv_iload hx hb dX8_missing_60 (lv_at hl 4 rfl) ?_
            refine lv_icmp_gt (tgt := 76) hx hb dX8_missing_62 (by decide) (fun c_14 => ?_) (fun c_14 => ?_)
            · have hf := ip c_14 hf
              refine lv_iconst (v := (-1)) hx hb dX8_missing_76 (by decide) ?_
              exact hRet _ _ _ _ _ _ _ _ hf hP hS dX8_missing_77
            · have hf := iq c_14 hf
              refine lv_aload_n hx hb dX8_missing_65 rfl (lv_at hl 0 rfl) ?_
              refine va_get (D := G.1) (ci := 8) (v := .ref (t_a 21)) (C := RX8) (T := TX8) (N := 33) hx hb hw inW8 hown hK.1 hP 0 rfl rfl 21 (by decide) (hw _ kw_5_19) (fun _ h9 => h9) rfl dX8_missing_66 ?_
              refine lv_iload_n hx hb dX8_missing_69 rfl (lv_at hl 3 rfl) ?_
              refine lv_iconst (v := 1) hx hb dX8_missing_70 (by decide) ?_
              refine lv_isub hx hb dX8_missing_71 ?_
              obtain ⟨hi_16, hf⟩ := rdI_in hf
              refine va_iald hx hb hK.1 hP 2 0 rfl rfl hi_16 dX8_missing_72 ?_
              refine lv_topi (fun x_15 ex_15 => ?_)
              have hf := hf x_15 ex_15
              refine lv_goto (tgt := 77) hx hb dX8_missing_73 (by decide) ?_
              exact hRet _ _ _ _ _ _ _ _ hf hP hS dX8_missing_77
          · have hf := ip c_13 hf
            refine lv_iload hx hb dX8_missing_54 (lv_at hl 4 rfl) ?_
            refine lv_goto (tgt := 77) hx hb dX8_missing_56 (by decide) ?_
            exact hRet _ _ _ _ _ _ _ _ hf hP hS dX8_missing_77
  unfold fX8_missing at hf
  refine lv_aload_n hx hb dX8_missing_0 rfl (lv_at hl 0 rfl) ?_
  refine lv_iconst (v := 0) hx hb dX8_missing_1 (by decide) ?_
  refine va_put (D := G.1) (ci := 8) (v := .int 0) (ty := .int) (C := RX8) (T := TX8) (N := 33) hx hb hw inW8 tyX8 tyX8_ok nmX8 hown hK.1 hP hD hS 0 rfl rfl 0 (by decide) (hw _ kw_6_21) (fun _ h9 => h9) rfl (by decide +kernel) rfl rfl (Nat.le_of_ble_eq_true rfl) dX8_missing_2 (fun H locs hP hD hS => ?_)
  have hP : va_P G.1 vwCl [oX8 t_h t_a 0 t_taped t_at t_behind t_size t_kind t_number t_wrong t_wrongAt t_faultKind t_faultPlace t_x t_wayLong t_bothLeast, arI G (t_a 1) 558 t_all, arI G (t_a 21) 2 t_tied] H := hP
  have hD : va_D A [oX8 t_h t_a 0 t_taped t_at t_behind t_size t_kind t_number t_wrong t_wrongAt t_faultKind t_faultPlace t_x t_wayLong t_bothLeast, arI G (t_a 1) 558 t_all, arI G (t_a 21) 2 t_tied] := hD
  refine lv_aload_n hx hb dX8_missing_5 rfl (lv_at hl 0 rfl) ?_
  refine lv_iload_n hx hb dX8_missing_6 rfl (lv_at hl 1 rfl) ?_
  refine lv_iload_n hx hb dX8_missing_7 rfl (lv_at hl 2 rfl) ?_
  obtain ⟨r_1, hc_2, hf⟩ := bd1_in hf
  refine rcI (va_runV (As := [.int v1, .int v2]) (rest := []) ⟨hx, hb, hml, hown, hw⟩ ((ctX8_areTwo l G t_h t_a 0 t_all t_taped t_at t_behind t_size t_kind t_number t_wrong t_wrongAt t_faultKind t_faultPlace t_x t_wayLong t_bothLeast v1 v2 _ hc_2) _) (kV hw calX8_areTwo kw_30_0 rfl rfl ⟨Nat.le_of_ble_eq_true rfl, Nat.le_of_ble_eq_true rfl⟩) (rpV (hP.sub (ws' := [oX8 t_h t_a 0 t_taped t_at t_behind t_size t_kind t_number t_wrong t_wrongAt t_faultKind t_faultPlace t_x t_wayLong t_bothLeast, arI G (t_a 1) 558 t_all]) [0, 1] rfl) hK (ci := 8) (q0 := 0) rfl rfl) rfl rfl hl.1 rfl (lv_room (Nat.le_of_ble_eq_true rfl)) dX8_missing_8 ⟨Nat.zero_le _, Nat.zero_le _⟩) hS hA hP (fun H locs hP hS => ?_)
  refine lv_if_eq (tgt := 26) hx hb dX8_missing_11 (by decide) (fun c_3 => ?_) (fun c_3 => ?_)
  · have hf := ip c_3 hf
    refine lv_bipush (v := (-2)) hx hb dX8_missing_26 (by decide) ?_
    exact hRet _ _ _ _ _ _ _ _ hf hP hS dX8_missing_28
  · have hf := iq c_3 hf
    refine lv_iload_n hx hb dX8_missing_14 rfl (lv_at hl 3 rfl) ?_
    refine lv_i2l hx hb dX8_missing_15 rfl ?_
    refine lv_lconst (v := 0) hx hb dX8_missing_16 (by decide) ?_
    refine lv_ldc2 hx hb hown (hw _ kw_38_9) dX8_missing_17 ?_
    obtain ⟨r_4, hc_5, hf⟩ := bd1_in hf
    refine rcI (va_runS (As := [.long (Int32.toInt64 v3), .long 0, .long 2]) (rest := []) ⟨hx, hb, hml, hown, hw⟩ ((ctX8_within l G (Int32.toInt64 v3) 0 2 _ hc_5) _) (kS hw calX8_within kw_14_2 rfl rfl ⟨Nat.le_of_ble_eq_true rfl, Nat.le_of_ble_eq_true rfl⟩) (rpS (hP.sub (ws' := []) [] rfl) hK) rfl rfl hl.1 rfl (lv_room (Nat.le_of_ble_eq_true rfl)) dX8_missing_20 ⟨Nat.zero_le _, Nat.zero_le _⟩) hS hA hP (fun H locs hP hS => ?_)
    refine lv_if_ne (tgt := 29) hx hb dX8_missing_23 (by decide) (fun c_6 => ?_) (fun c_6 => ?_)
    · have hf := iq c_6 hf
      refine lv_iconst (v := 0) hx hb dX8_missing_29 (by decide) ?_
      refine lv_istore (lv' := [(4, .int 0), (0, .ref t_h), (1, .int v1), (2, .int v2), (3, .int v3)]) hx hb dX8_missing_30 hl (by decide) rfl (fun ls hl => ?_)
      refine L32 _ _ _ _ _ _ _ _ _ hP hD hS (lv_sub hl [1, 2, 3, 4, 0] rfl) hf (fun t_all_17 t_tied_18 H locs ls hP hD hS hl hf => ?_)
      refine lv_iconst (v := (-1)) hx hb dX8_missing_84 (by decide) ?_
      exact hRet _ _ _ _ _ _ _ _ hf hP hS dX8_missing_85
    · have hf := ip c_6 hf
      refine lv_bipush (v := (-2)) hx hb dX8_missing_26 (by decide) ?_
      exact hRet _ _ _ _ _ _ _ _ hf hP hS dX8_missing_28
