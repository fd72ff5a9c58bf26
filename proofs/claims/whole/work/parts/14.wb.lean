theorem calX7_feed : CalV yX7_feed cX7_feed 6 (some .int) 5 := ⟨⟨kw_6_11, kw_1_2, by decide +kernel⟩, kw_6_9, kw_6_10⟩
set_option maxHeartbeats 8000000 in
set_option maxRecDepth 100000 in
theorem ctX7_feed (l : Launch) (G : GT) (t_h : Nat) (t_a : Nat → Nat) (rd_h : Nat) (rd_a : Nat → Nat) (now_h : Nat) (sp_h : Nat) (wy_h : Nat) (gp_h : Nat) (ch_h : Nat) (sb_h : Nat) (rd_tape : Nat → Int32) (rd_taped : Int32) (rd_length : Int32) (rd_at : Int32) (rd_kind : Int32) (rd_start : Int32) (rd_value : Int32) (rd_fault : Int32) (rd_place : Int32) (v1 : Int32) (v2 : Int32) (v3 : Int32) (v4 : Int32) (v5 : Int32) (r : Int32) (o_rd_tape : Nat → Int32) (o_rd_taped : Int32) (hf : fX7_feed rd_tape rd_taped v1 v2 v3 v4 v5 = some (r, o_rd_tape, o_rd_taped)) : WrI l yX7_feed (Cond.code yX7_feed cX7_feed 6 (some .int)) { frames := 1, cells := 0, slots := 0, locals := 22 } G [.ref t_h, .int v1, .int v2, .int v3, .int v4, .int v5] [oX7 t_h t_a rd_h now_h sp_h wy_h gp_h ch_h sb_h, oX3 rd_h rd_a rd_taped rd_length rd_at rd_kind rd_start rd_value rd_fault rd_place, arB G (rd_a 0) 900 rd_tape] [oX7 t_h t_a rd_h now_h sp_h wy_h gp_h ch_h sb_h, oX3 rd_h rd_a o_rd_taped rd_length rd_at rd_kind rd_start rd_value rd_fault rd_place, arB G (rd_a 0) 900 o_rd_tape] r := by
  intro sz
  refine Met.ofW (cc := cX7_feed) (maxL := 6) (ret := (some .int)) (by decide) rfl ?_
  intro p e s m args below meth c s₁ B hml hv
  obtain ⟨hargs, hsz, hP, hD0, hK⟩ := hv
  subst hsz
  obtain ⟨hx, hb, hr, hw, hown, hlk⟩ := fwB B
  refine fw_enter hargs (Nat.le_of_ble_eq_true rfl) (fun ls hl => ?_)
  have hl : lv_has ls 6 [(0, .ref t_h), (1, .int v1), (2, .int v2), (3, .int v3), (4, .int v4), (5, .int v5)] := hl
  refine fw_Q (P := fun Q => ∃ A : Nat → Prop, va_D A [oX7 t_h t_a rd_h now_h sp_h wy_h gp_h ch_h sb_h, oX3 rd_h rd_a rd_taped rd_length rd_at rd_kind rd_start rd_value rd_fault rd_place, arB G (rd_a 0) 900 rd_tape] ∧ va_S A s.heap s.heap [] ∧ (∀ q, s.heap.size ≤ q → A q) ∧ ∀ (v : Int32) (n_rd_tape : Nat → Int32) (n_rd_taped : Int32) (H : Heap) (locs : List Loc) (pc : Nat) (ls : Array Slot), some (v, n_rd_tape, n_rd_taped) = some (r, o_rd_tape, o_rd_taped) → va_P G.1 vwCl [oX7 t_h t_a rd_h now_h sp_h wy_h gp_h ch_h sb_h, oX3 rd_h rd_a n_rd_taped rd_length rd_at rd_kind rd_start rd_value rd_fault rd_place, arB G (rd_a 0) 900 n_rd_tape] H → va_S A s.heap H locs → decode cX7_feed pc = .ok (.ireturn, 1) → W p l e ({ frames := 1, cells := 0, slots := 0, locals := 22 } : Room) s m args below meth c H locs 0 0 Q (F0 m pc ls [.int v])) ⟨va_A [oX7 t_h t_a rd_h now_h sp_h wy_h gp_h ch_h sb_h, oX3 rd_h rd_a rd_taped rd_length rd_at rd_kind rd_start rd_value rd_fault rd_place, arB G (rd_a 0) 900 rd_tape] s.heap.size, hD0.self (sz := s.heap.size), va_S.rf, fun q h => Or.inr h, ?_⟩ ?_
  · intro v n_rd_tape n_rd_taped H locs pc ls h hP hS hd
    cases h
    exact retWI hx hb hr hlk hS hP rfl hd
  rintro Q ⟨A, hD, hS, hA, hRet⟩
  change W p l e ({ frames := 1, cells := 0, slots := 0, locals := 22 } : Room) s m args below meth c _ _ 0 0 Q _
  unfold fX7_feed at hf
  refine lv_aload_n hx hb dX7_feed_0 rfl (lv_at hl 0 rfl) ?_
  refine va_get (D := G.1) (ci := 7) (v := .ref rd_h) (C := RX7) (T := TX7) (N := 10) hx hb hw inW7 hown hK.1 hP 0 rfl rfl 0 (by decide) (hw _ kw_1_16) (fun _ h9 => h9) rfl dX7_feed_1 ?_
  refine va_getN (D := G.1) (ci := 3) (v := .int rd_taped) (C := RX3) (T := TX3) (N := 9) hx hb hw inW3 hown hK.1 hP 1 rfl rfl 1 (by decide) ((nf_0 hK.2).use rfl) (fun _ h9 => h9) rfl dX7_feed_4 ?_
  refine lv_bipush (v := 20) hx hb dX7_feed_7 (by decide) ?_
  refine lv_iadd hx hb dX7_feed_9 ?_
  refine lv_sipush (v := 900) hx hb dX7_feed_10 (by decide) ?_
  refine lv_icmp_le (tgt := 19) hx hb dX7_feed_13 (by decide) (fun c_1 => ?_) (fun c_1 => ?_)
  · have hf := ip c_1 hf
    refine lv_aload_n hx hb dX7_feed_19 rfl (lv_at hl 0 rfl) ?_
    refine va_get (D := G.1) (ci := 7) (v := .ref rd_h) (C := RX7) (T := TX7) (N := 10) hx hb hw inW7 hown hK.1 hP 0 rfl rfl 0 (by decide) (hw _ kw_1_16) (fun _ h9 => h9) rfl dX7_feed_20 ?_
    refine lv_iload_n hx hb dX7_feed_23 rfl (lv_at hl 1 rfl) ?_
    obtain ⟨rd_tape_2, rd_taped_3, hc_4, hf⟩ := bd2_in hf
    refine wcV (w1 := [oX3 rd_h rd_a rd_taped_3 rd_length rd_at rd_kind rd_start rd_value rd_fault rd_place, arB G (rd_a 0) 900 rd_tape_2]) (va_runV (As := [.int v1]) (rest := []) ⟨hx, hb, hml, hown, hw⟩ ((ctX3_putOnTape l G rd_h rd_a rd_tape rd_taped rd_length rd_at rd_kind rd_start rd_value rd_fault rd_place v1 _ _ hc_4) _) (kV hw calX3_putOnTape kw_6_12 rfl rfl ⟨Nat.le_of_ble_eq_true rfl, Nat.le_of_ble_eq_true rfl⟩) (wpV (hP.sub (ws' := [oX3 rd_h rd_a rd_taped rd_length rd_at rd_kind rd_start rd_value rd_fault rd_place, arB G (rd_a 0) 900 rd_tape]) [1, 2] rfl) (hD.sub (ws' := [oX3 rd_h rd_a rd_taped rd_length rd_at rd_kind rd_start rd_value rd_fault rd_place, arB G (rd_a 0) 900 rd_tape]) [1, 2] (by decide) rfl) hK (ci := 3) (q0 := 0) rfl rfl) rfl rfl hl.1 rfl (lv_room (Nat.le_of_ble_eq_true rfl)) dX7_feed_24 ⟨Nat.zero_le _, Nat.zero_le _⟩) hS hA hP hD [1, 2] rfl rfl (fun H locs hP hD hS => ?_)
    have hP : va_P G.1 vwCl [oX7 t_h t_a rd_h now_h sp_h wy_h gp_h ch_h sb_h, oX3 rd_h rd_a rd_taped_3 rd_length rd_at rd_kind rd_start rd_value rd_fault rd_place, arB G (rd_a 0) 900 rd_tape_2] H := hP
    have hD : va_D A [oX7 t_h t_a rd_h now_h sp_h wy_h gp_h ch_h sb_h, oX3 rd_h rd_a rd_taped_3 rd_length rd_at rd_kind rd_start rd_value rd_fault rd_place, arB G (rd_a 0) 900 rd_tape_2] := hD
    refine lv_aload_n hx hb dX7_feed_27 rfl (lv_at hl 0 rfl) ?_
    refine va_get (D := G.1) (ci := 7) (v := .ref rd_h) (C := RX7) (T := TX7) (N := 10) hx hb hw inW7 hown hK.1 hP 0 rfl rfl 0 (by decide) (hw _ kw_1_16) (fun _ h9 => h9) rfl dX7_feed_28 ?_
    refine lv_iload_n hx hb dX7_feed_31 rfl (lv_at hl 2 rfl) ?_
    obtain ⟨rd_tape_5, rd_taped_6, hc_7, hf⟩ := bd2_in hf
    refine wcV (w1 := [oX3 rd_h rd_a rd_taped_6 rd_length rd_at rd_kind rd_start rd_value rd_fault rd_place, arB G (rd_a 0) 900 rd_tape_5]) (va_runV (As := [.int v2]) (rest := []) ⟨hx, hb, hml, hown, hw⟩ ((ctX3_putOnTape l G rd_h rd_a rd_tape_2 rd_taped_3 rd_length rd_at rd_kind rd_start rd_value rd_fault rd_place v2 _ _ hc_7) _) (kV hw calX3_putOnTape kw_6_12 rfl rfl ⟨Nat.le_of_ble_eq_true rfl, Nat.le_of_ble_eq_true rfl⟩) (wpV (hP.sub (ws' := [oX3 rd_h rd_a rd_taped_3 rd_length rd_at rd_kind rd_start rd_value rd_fault rd_place, arB G (rd_a 0) 900 rd_tape_2]) [1, 2] rfl) (hD.sub (ws' := [oX3 rd_h rd_a rd_taped_3 rd_length rd_at rd_kind rd_start rd_value rd_fault rd_place, arB G (rd_a 0) 900 rd_tape_2]) [1, 2] (by decide) rfl) hK (ci := 3) (q0 := 0) rfl rfl) rfl rfl hl.1 rfl (lv_room (Nat.le_of_ble_eq_true rfl)) dX7_feed_32 ⟨Nat.zero_le _, Nat.zero_le _⟩) hS hA hP hD [1, 2] rfl rfl (fun H locs hP hD hS => ?_)
    have hP : va_P G.1 vwCl [oX7 t_h t_a rd_h now_h sp_h wy_h gp_h ch_h sb_h, oX3 rd_h rd_a rd_taped_6 rd_length rd_at rd_kind rd_start rd_value rd_fault rd_place, arB G (rd_a 0) 900 rd_tape_5] H := hP
    have hD : va_D A [oX7 t_h t_a rd_h now_h sp_h wy_h gp_h ch_h sb_h, oX3 rd_h rd_a rd_taped_6 rd_length rd_at rd_kind rd_start rd_value rd_fault rd_place, arB G (rd_a 0) 900 rd_tape_5] := hD
    refine lv_aload_n hx hb dX7_feed_35 rfl (lv_at hl 0 rfl) ?_
    refine va_get (D := G.1) (ci := 7) (v := .ref rd_h) (C := RX7) (T := TX7) (N := 10) hx hb hw inW7 hown hK.1 hP 0 rfl rfl 0 (by decide) (hw _ kw_1_16) (fun _ h9 => h9) rfl dX7_feed_36 ?_
    refine lv_iload_n hx hb dX7_feed_39 rfl (lv_at hl 3 rfl) ?_
    obtain ⟨rd_tape_8, rd_taped_9, hc_10, hf⟩ := bd2_in hf
    refine wcV (w1 := [oX3 rd_h rd_a rd_taped_9 rd_length rd_at rd_kind rd_start rd_value rd_fault rd_place, arB G (rd_a 0) 900 rd_tape_8]) (va_runV (As := [.int v3]) (rest := []) ⟨hx, hb, hml, hown, hw⟩ ((ctX3_putOnTape l G rd_h rd_a rd_tape_5 rd_taped_6 rd_length rd_at rd_kind rd_start rd_value rd_fault rd_place v3 _ _ hc_10) _) (kV hw calX3_putOnTape kw_6_12 rfl rfl ⟨Nat.le_of_ble_eq_true rfl, Nat.le_of_ble_eq_true rfl⟩) (wpV (hP.sub (ws' := [oX3 rd_h rd_a rd_taped_6 rd_length rd_at rd_kind rd_start rd_value rd_fault rd_place, arB G (rd_a 0) 900 rd_tape_5]) [1, 2] rfl) (hD.sub (ws' := [oX3 rd_h rd_a rd_taped_6 rd_length rd_at rd_kind rd_start rd_value rd_fault rd_place, arB G (rd_a 0) 900 rd_tape_5]) [1, 2] (by decide) rfl) hK (ci := 3) (q0 := 0) rfl rfl) rfl rfl hl.1 rfl (lv_room (Nat.le_of_ble_eq_true rfl)) dX7_feed_40 ⟨Nat.zero_le _, Nat.zero_le _⟩) hS hA hP hD [1, 2] rfl rfl (fun H locs hP hD hS => ?_)
    have hP : va_P G.1 vwCl [oX7 t_h t_a rd_h now_h sp_h wy_h gp_h ch_h sb_h, oX3 rd_h rd_a rd_taped_9 rd_length rd_at rd_kind rd_start rd_value rd_fault rd_place, arB G (rd_a 0) 900 rd_tape_8] H := hP
    have hD : va_D A [oX7 t_h t_a rd_h now_h sp_h wy_h gp_h ch_h sb_h, oX3 rd_h rd_a rd_taped_9 rd_length rd_at rd_kind rd_start rd_value rd_fault rd_place, arB G (rd_a 0) 900 rd_tape_8] := hD
    refine lv_aload_n hx hb dX7_feed_43 rfl (lv_at hl 0 rfl) ?_
    refine va_get (D := G.1) (ci := 7) (v := .ref rd_h) (C := RX7) (T := TX7) (N := 10) hx hb hw inW7 hown hK.1 hP 0 rfl rfl 0 (by decide) (hw _ kw_1_16) (fun _ h9 => h9) rfl dX7_feed_44 ?_
    refine lv_iload hx hb dX7_feed_47 (lv_at hl 4 rfl) ?_
    obtain ⟨rd_tape_11, rd_taped_12, hc_13, hf⟩ := bd2_in hf
    refine wcV (w1 := [oX3 rd_h rd_a rd_taped_12 rd_length rd_at rd_kind rd_start rd_value rd_fault rd_place, arB G (rd_a 0) 900 rd_tape_11]) (va_runV (As := [.int v4]) (rest := []) ⟨hx, hb, hml, hown, hw⟩ ((ctX3_putOnTape l G rd_h rd_a rd_tape_8 rd_taped_9 rd_length rd_at rd_kind rd_start rd_value rd_fault rd_place v4 _ _ hc_13) _) (kV hw calX3_putOnTape kw_6_12 rfl rfl ⟨Nat.le_of_ble_eq_true rfl, Nat.le_of_ble_eq_true rfl⟩) (wpV (hP.sub (ws' := [oX3 rd_h rd_a rd_taped_9 rd_length rd_at rd_kind rd_start rd_value rd_fault rd_place, arB G (rd_a 0) 900 rd_tape_8]) [1, 2] rfl) (hD.sub (ws' := [oX3 rd_h rd_a rd_taped_9 rd_length rd_at rd_kind rd_start rd_value rd_fault rd_place, arB G (rd_a 0) 900 rd_tape_8]) [1, 2] (by decide) rfl) hK (ci := 3) (q0 := 0) rfl rfl) rfl rfl hl.1 rfl (lv_room (Nat.le_of_ble_eq_true rfl)) dX7_feed_49 ⟨Nat.zero_le _, Nat.zero_le _⟩) hS hA hP hD [1, 2] rfl rfl (fun H locs hP hD hS => ?_)
    have hP : va_P G.1 vwCl [oX7 t_h t_a rd_h now_h sp_h wy_h gp_h ch_h sb_h, oX3 rd_h rd_a rd_taped_12 rd_length rd_at rd_kind rd_start rd_value rd_fault rd_place, arB G (rd_a 0) 900 rd_tape_11] H := hP
    have hD : va_D A [oX7 t_h t_a rd_h now_h sp_h wy_h gp_h ch_h sb_h, oX3 rd_h rd_a rd_taped_12 rd_length rd_at rd_kind rd_start rd_value rd_fault rd_place, arB G (rd_a 0) 900 rd_tape_11] := hD
    refine lv_aload_n hx hb dX7_feed_52 rfl (lv_at hl 0 rfl) ?_
    refine va_get (D := G.1) (ci := 7) (v := .ref rd_h) (C := RX7) (T := TX7) (N := 10) hx hb hw inW7 hown hK.1 hP 0 rfl rfl 0 (by decide) (hw _ kw_1_16) (fun _ h9 => h9) rfl dX7_feed_53 ?_
    refine lv_iload hx hb dX7_feed_56 (lv_at hl 5 rfl) ?_
    obtain ⟨rd_tape_14, rd_taped_15, hc_16, hf⟩ := bd2_in hf
    refine wcV (w1 := [oX3 rd_h rd_a rd_taped_15 rd_length rd_at rd_kind rd_start rd_value rd_fault rd_place, arB G (rd_a 0) 900 rd_tape_14]) (va_runV (As := [.int v5]) (rest := []) ⟨hx, hb, hml, hown, hw⟩ ((ctX3_putOnTape l G rd_h rd_a rd_tape_11 rd_taped_12 rd_length rd_at rd_kind rd_start rd_value rd_fault rd_place v5 _ _ hc_16) _) (kV hw calX3_putOnTape kw_6_12 rfl rfl ⟨Nat.le_of_ble_eq_true rfl, Nat.le_of_ble_eq_true rfl⟩) (wpV (hP.sub (ws' := [oX3 rd_h rd_a rd_taped_12 rd_length rd_at rd_kind rd_start rd_value rd_fault rd_place, arB G (rd_a 0) 900 rd_tape_11]) [1, 2] rfl) (hD.sub (ws' := [oX3 rd_h rd_a rd_taped_12 rd_length rd_at rd_kind rd_start rd_value rd_fault rd_place, arB G (rd_a 0) 900 rd_tape_11]) [1, 2] (by decide) rfl) hK (ci := 3) (q0 := 0) rfl rfl) rfl rfl hl.1 rfl (lv_room (Nat.le_of_ble_eq_true rfl)) dX7_feed_58 ⟨Nat.zero_le _, Nat.zero_le _⟩) hS hA hP hD [1, 2] rfl rfl (fun H locs hP hD hS => ?_)
    have hP : va_P G.1 vwCl [oX7 t_h t_a rd_h now_h sp_h wy_h gp_h ch_h sb_h, oX3 rd_h rd_a rd_taped_15 rd_length rd_at rd_kind rd_start rd_value rd_fault rd_place, arB G (rd_a 0) 900 rd_tape_14] H := hP
    have hD : va_D A [oX7 t_h t_a rd_h now_h sp_h wy_h gp_h ch_h sb_h, oX3 rd_h rd_a rd_taped_15 rd_length rd_at rd_kind rd_start rd_value rd_fault rd_place, arB G (rd_a 0) 900 rd_tape_14] := hD
    refine lv_aload_n hx hb dX7_feed_61 rfl (lv_at hl 0 rfl) ?_
    refine va_get (D := G.1) (ci := 7) (v := .ref rd_h) (C := RX7) (T := TX7) (N := 10) hx hb hw inW7 hown hK.1 hP 0 rfl rfl 0 (by decide) (hw _ kw_1_16) (fun _ h9 => h9) rfl dX7_feed_62 ?_
    refine va_getN (D := G.1) (ci := 3) (v := .int rd_taped_15) (C := RX3) (T := TX3) (N := 9) hx hb hw inW3 hown hK.1 hP 1 rfl rfl 1 (by decide) ((nf_0 hK.2).use rfl) (fun _ h9 => h9) rfl dX7_feed_65 ?_
    exact hRet _ _ _ _ _ _ _ hf hP hS dX7_feed_68
  · have hf := iq c_1 hf
    refine lv_bipush (v := (-5)) hx hb dX7_feed_16 (by decide) ?_
    exact hRet _ _ _ _ _ _ _ hf hP hS dX7_feed_18
theorem calX7_fault : CalV yX7_fault cX7_fault 2 (some .int) 1 := ⟨⟨kw_17_16, kw_1_2, by decide +kernel⟩, kw_17_14, kw_17_15⟩
set_option maxHeartbeats 8000000 in
set_option maxRecDepth 100000 in
theorem ctX7_fault (l : Launch) (G : GT) (t_h : Nat) (t_a : Nat → Nat) (rd_h : Nat) (rd_a : Nat → Nat) (now_h : Nat) (sp_h : Nat) (wy_h : Nat) (gp_h : Nat) (ch_h : Nat) (sb_h : Nat) (rd_taped : Int32) (rd_length : Int32) (rd_at : Int32) (rd_kind : Int32) (rd_start : Int32) (rd_value : Int32) (rd_fault : Int32) (rd_place : Int32) (v1 : Int32) (r : Int32) (hf : fX7_fault rd_fault rd_place v1 = some r) : RdI l yX7_fault (Cond.code yX7_fault cX7_fault 2 (some .int)) { frames := 0, cells := 0, slots := 0, locals := 0 } G [.ref t_h, .int v1] [oX7 t_h t_a rd_h now_h sp_h wy_h gp_h ch_h sb_h, oX3 rd_h rd_a rd_taped rd_length rd_at rd_kind rd_start rd_value rd_fault rd_place] r := by
  intro sz
  refine Met.ofW (cc := cX7_fault) (maxL := 2) (ret := (some .int)) (by decide) rfl ?_
  intro p e s m args below meth c s₁ B hml hv
  obtain ⟨hargs, hsz, hP, hK⟩ := hv
  subst hsz
  obtain ⟨hx, hb, hr, hw, hown, hlk⟩ := fwB B
  refine fw_enter hargs (Nat.le_of_ble_eq_true rfl) (fun ls hl => ?_)
  have hl : lv_has ls 2 [(0, .ref t_h), (1, .int v1)] := hl
  refine fw_Q (P := fun Q => ∃ A : Nat → Prop, va_S A s.heap s.heap [] ∧ (∀ q, s.heap.size ≤ q → A q) ∧ ∀ (v : Int32) (H : Heap) (locs : List Loc) (pc : Nat) (ls : Array Slot), some v = some r → va_S A s.heap H locs → decode cX7_fault pc = .ok (.ireturn, 1) → W p l e ({ frames := 0, cells := 0, slots := 0, locals := 0 } : Room) s m args below meth c H locs 0 0 Q (F0 m pc ls [.int v])) ⟨fun q => s.heap.size ≤ q, va_S.rf, fun q h => h, fun v H locs pc ls h hS hd => retRI hx hb hr hlk hS h hd⟩ ?_
  rintro Q ⟨A, hS, hA, hRet⟩
  change W p l e ({ frames := 0, cells := 0, slots := 0, locals := 0 } : Room) s m args below meth c _ _ 0 0 Q _
  unfold fX7_fault at hf
  refine lv_iload_n hx hb dX7_fault_0 rfl (lv_at hl 1 rfl) ?_
  by_cases c_1 : v1 = 0
  · have hf := ip c_1 hf
    refine lv_lookup (tgt := 28) (off := 27) hx hb dX7_fault_1 (by decide) (by rw [c_1]; rfl) (by decide) ?_
    refine lv_aload_n hx hb dX7_fault_28 rfl (lv_at hl 0 rfl) ?_
    refine va_get (D := G.1) (ci := 7) (v := .ref rd_h) (C := RX7) (T := TX7) (N := 10) hx hb hw inW7 hown hK.1 hP 0 rfl rfl 0 (by decide) (hw _ kw_1_16) (fun _ h9 => h9) rfl dX7_fault_29 ?_
    refine va_getN (D := G.1) (ci := 3) (v := .int rd_fault) (C := RX3) (T := TX3) (N := 9) hx hb hw inW3 hown hK.1 hP 1 rfl rfl 7 (by decide) ((nf_1 hK.2).use rfl) (fun _ h9 => h9) rfl dX7_fault_32 ?_
    exact hRet _ _ _ _ _ hf hS dX7_fault_35
  have hf := iq c_1 hf
  by_cases c_2 : v1 = 1
  · have hf := ip c_2 hf
    refine lv_lookup (tgt := 36) (off := 35) hx hb dX7_fault_1 (by decide) (by rw [c_2]; rfl) (by decide) ?_
    refine lv_aload_n hx hb dX7_fault_36 rfl (lv_at hl 0 rfl) ?_
    refine va_get (D := G.1) (ci := 7) (v := .ref rd_h) (C := RX7) (T := TX7) (N := 10) hx hb hw inW7 hown hK.1 hP 0 rfl rfl 0 (by decide) (hw _ kw_1_16) (fun _ h9 => h9) rfl dX7_fault_37 ?_
    refine va_getN (D := G.1) (ci := 3) (v := .int rd_place) (C := RX3) (T := TX3) (N := 9) hx hb hw inW3 hown hK.1 hP 1 rfl rfl 8 (by decide) ((nf_2 hK.2).use rfl) (fun _ h9 => h9) rfl dX7_fault_40 ?_
    exact hRet _ _ _ _ _ hf hS dX7_fault_43
  have hf := iq c_2 hf
  refine lv_lookup (tgt := 44) (off := 43) hx hb dX7_fault_1 (by decide) (by have c_1_t : (v1 : Int32).toInt ≠ 0 := ne_toInt c_1; have c_2_t : (v1 : Int32).toInt ≠ 1 := ne_toInt c_2; simp [Op.lookupswitch.offset, Ne.symm c_1_t, Ne.symm c_2_t]) (by decide) ?_
  refine lv_iconst (v := (-1)) hx hb dX7_fault_44 (by decide) ?_
  exact hRet _ _ _ _ _ hf hS dX7_fault_45
theorem calX7_linksNow : CalV yX7_linksNow cX7_linksNow 2 (some .int) 1 := ⟨⟨kw_18_9, kw_1_2, by decide +kernel⟩, kw_18_7, kw_18_8⟩
set_option maxHeartbeats 8000000 in
set_option maxRecDepth 100000 in
theorem ctX7_linksNow (l : Launch) (G : GT) (t_h : Nat) (t_a : Nat → Nat) (now_h : Nat) (now_a : Nat → Nat) (wy_h : Nat) (wy_a : Nat → Nat) (rd_h : Nat) (sp_h : Nat) (gp_h : Nat) (ch_h : Nat) (sb_h : Nat) (now_windows : Int32) (now_washes : Int32) (now_damp : Int32) (now_heard : Int32) (now_lines : Int32) (now_hour : Int32) (now_strings : Int32) (now_washPairs : Nat → Int32) (now_washHours : Nat → Int32) (now_pairs : Nat → Int32) (now_knots : Nat → Int32) (wy_windows : Int32) (wy_links : Nat → Int32) (wy_prices : Nat → Int32) (wy_goal : Int32) (wy_otherFrom : Int32) (wy_otherTo : Int32) (wy_least : Int32) (v1 : Int32) (r : Int32) (o_wy_windows : Int32) (o_wy_links : Nat → Int32) (o_wy_prices : Nat → Int32) (hf : fX7_linksNow now_windows now_washes now_damp now_hour now_strings now_washPairs now_washHours now_pairs now_knots wy_windows wy_links wy_prices v1 = some (r, o_wy_windows, o_wy_links, o_wy_prices)) : WrI l yX7_linksNow (Cond.code yX7_linksNow cX7_linksNow 2 (some .int)) { frames := 5, cells := 0, slots := 0, locals := 108 } G [.ref t_h, .int v1] [oX7 t_h t_a rd_h now_h sp_h wy_h gp_h ch_h sb_h, oX1 now_h now_a now_windows now_washes now_damp now_heard now_lines now_hour now_strings, arI G (now_a 8) 8 now_washPairs, arI G (now_a 9) 8 now_washHours, arI G (now_a 10) 21 now_pairs, arI G (now_a 11) 21 now_knots, oX6 wy_h wy_a wy_windows wy_goal wy_otherFrom wy_otherTo wy_least, arI G (wy_a 1) 12 wy_links, arI G (wy_a 2) 144 wy_prices] [oX7 t_h t_a rd_h now_h sp_h wy_h gp_h ch_h sb_h, oX1 now_h now_a now_windows now_washes now_damp now_heard now_lines now_hour now_strings, arI G (now_a 8) 8 now_washPairs, arI G (now_a 9) 8 now_washHours, arI G (now_a 10) 21 now_pairs, arI G (now_a 11) 21 now_knots, oX6 wy_h wy_a o_wy_windows wy_goal wy_otherFrom wy_otherTo wy_least, arI G (wy_a 1) 12 o_wy_links, arI G (wy_a 2) 144 o_wy_prices] r := by
  intro sz
  refine Met.ofW (cc := cX7_linksNow) (maxL := 2) (ret := (some .int)) (by decide) rfl ?_
  intro p e s m args below meth c s₁ B hml hv
  obtain ⟨hargs, hsz, hP, hD0, hK⟩ := hv
  subst hsz
  obtain ⟨hx, hb, hr, hw, hown, hlk⟩ := fwB B
  refine fw_enter hargs (Nat.le_of_ble_eq_true rfl) (fun ls hl => ?_)
  have hl : lv_has ls 2 [(0, .ref t_h), (1, .int v1)] := hl
  refine fw_Q (P := fun Q => ∃ A : Nat → Prop, va_D A [oX7 t_h t_a rd_h now_h sp_h wy_h gp_h ch_h sb_h, oX1 now_h now_a now_windows now_washes now_damp now_heard now_lines now_hour now_strings, arI G (now_a 8) 8 now_washPairs, arI G (now_a 9) 8 now_washHours, arI G (now_a 10) 21 now_pairs, arI G (now_a 11) 21 now_knots, oX6 wy_h wy_a wy_windows wy_goal wy_otherFrom wy_otherTo wy_least, arI G (wy_a 1) 12 wy_links, arI G (wy_a 2) 144 wy_prices] ∧ va_S A s.heap s.heap [] ∧ (∀ q, s.heap.size ≤ q → A q) ∧ ∀ (v : Int32) (n_wy_windows : Int32) (n_wy_links : Nat → Int32) (n_wy_prices : Nat → Int32) (H : Heap) (locs : List Loc) (pc : Nat) (ls : Array Slot), some (v, n_wy_windows, n_wy_links, n_wy_prices) = some (r, o_wy_windows, o_wy_links, o_wy_prices) → va_P G.1 vwCl [oX7 t_h t_a rd_h now_h sp_h wy_h gp_h ch_h sb_h, oX1 now_h now_a now_windows now_washes now_damp now_heard now_lines now_hour now_strings, arI G (now_a 8) 8 now_washPairs, arI G (now_a 9) 8 now_washHours, arI G (now_a 10) 21 now_pairs, arI G (now_a 11) 21 now_knots, oX6 wy_h wy_a n_wy_windows wy_goal wy_otherFrom wy_otherTo wy_least, arI G (wy_a 1) 12 n_wy_links, arI G (wy_a 2) 144 n_wy_prices] H → va_S A s.heap H locs → decode cX7_linksNow pc = .ok (.ireturn, 1) → W p l e ({ frames := 5, cells := 0, slots := 0, locals := 108 } : Room) s m args below meth c H locs 0 0 Q (F0 m pc ls [.int v])) ⟨va_A [oX7 t_h t_a rd_h now_h sp_h wy_h gp_h ch_h sb_h, oX1 now_h now_a now_windows now_washes now_damp now_heard now_lines now_hour now_strings, arI G (now_a 8) 8 now_washPairs, arI G (now_a 9) 8 now_washHours, arI G (now_a 10) 21 now_pairs, arI G (now_a 11) 21 now_knots, oX6 wy_h wy_a wy_windows wy_goal wy_otherFrom wy_otherTo wy_least, arI G (wy_a 1) 12 wy_links, arI G (wy_a 2) 144 wy_prices] s.heap.size, hD0.self (sz := s.heap.size), va_S.rf, fun q h => Or.inr h, ?_⟩ ?_
  · intro v n_wy_windows n_wy_links n_wy_prices H locs pc ls h hP hS hd
    cases h
    exact retWI hx hb hr hlk hS hP rfl hd
  rintro Q ⟨A, hD, hS, hA, hRet⟩
  change W p l e ({ frames := 5, cells := 0, slots := 0, locals := 108 } : Room) s m args below meth c _ _ 0 0 Q _
  unfold fX7_linksNow at hf
  refine lv_aload_n hx hb dX7_linksNow_0 rfl (lv_at hl 0 rfl) ?_
  refine va_get (D := G.1) (ci := 7) (v := .ref wy_h) (C := RX7) (T := TX7) (N := 10) hx hb hw inW7 hown hK.1 hP 0 rfl rfl 3 (by decide) (hw _ kw_2_1) (fun _ h9 => h9) rfl dX7_linksNow_1 ?_
  refine lv_aload_n hx hb dX7_linksNow_4 rfl (lv_at hl 0 rfl) ?_
  refine va_get (D := G.1) (ci := 7) (v := .ref now_h) (C := RX7) (T := TX7) (N := 10) hx hb hw inW7 hown hK.1 hP 0 rfl rfl 1 (by decide) (hw _ kw_1_20) (fun _ h9 => h9) rfl dX7_linksNow_5 ?_
  refine lv_aload_n hx hb dX7_linksNow_8 rfl (lv_at hl 0 rfl) ?_
  refine va_get (D := G.1) (ci := 7) (v := .ref now_h) (C := RX7) (T := TX7) (N := 10) hx hb hw inW7 hown hK.1 hP 0 rfl rfl 1 (by decide) (hw _ kw_1_20) (fun _ h9 => h9) rfl dX7_linksNow_9 ?_
  refine va_getN (D := G.1) (ci := 1) (v := .int now_hour) (C := RX1) (T := TX1) (N := 12) hx hb hw inW1 hown hK.1 hP 1 rfl rfl 5 (by decide) ((nf_16 hK.2).use rfl) (fun _ h9 => h9) rfl dX7_linksNow_12 ?_
  obtain ⟨wy_windows_1, wy_links_2, wy_prices_3, hc_4, hf⟩ := bd3_in hf
  refine wcV (w1 := [oX6 wy_h wy_a wy_windows_1 wy_goal wy_otherFrom wy_otherTo wy_least, arI G (wy_a 1) 12 wy_links_2, arI G (wy_a 2) 144 wy_prices_3, oX1 now_h now_a now_windows now_washes now_damp now_heard now_lines now_hour now_strings, arI G (now_a 8) 8 now_washPairs, arI G (now_a 9) 8 now_washHours, arI G (now_a 10) 21 now_pairs, arI G (now_a 11) 21 now_knots]) (va_runV (As := [.ref now_h, .int now_hour]) (rest := []) ⟨hx, hb, hml, hown, hw⟩ ((ctX6_takeStrings l G wy_h wy_a now_h now_a wy_windows wy_links wy_prices wy_goal wy_otherFrom wy_otherTo wy_least now_windows now_washes now_damp now_heard now_lines now_hour now_strings now_washPairs now_washHours now_pairs now_knots now_hour _ _ _ hc_4) _) (kV hw calX6_takeStrings kw_18_10 rfl rfl ⟨Nat.le_of_ble_eq_true rfl, Nat.le_of_ble_eq_true rfl⟩) (wpV (hP.sub (ws' := [oX6 wy_h wy_a wy_windows wy_goal wy_otherFrom wy_otherTo wy_least, arI G (wy_a 1) 12 wy_links, arI G (wy_a 2) 144 wy_prices, oX1 now_h now_a now_windows now_washes now_damp now_heard now_lines now_hour now_strings, arI G (now_a 8) 8 now_washPairs, arI G (now_a 9) 8 now_washHours, arI G (now_a 10) 21 now_pairs, arI G (now_a 11) 21 now_knots]) [6, 7, 8, 1, 2, 3, 4, 5] rfl) (hD.sub (ws' := [oX6 wy_h wy_a wy_windows wy_goal wy_otherFrom wy_otherTo wy_least, arI G (wy_a 1) 12 wy_links, arI G (wy_a 2) 144 wy_prices, oX1 now_h now_a now_windows now_washes now_damp now_heard now_lines now_hour now_strings, arI G (now_a 8) 8 now_washPairs, arI G (now_a 9) 8 now_washHours, arI G (now_a 10) 21 now_pairs, arI G (now_a 11) 21 now_knots]) [6, 7, 8, 1, 2, 3, 4, 5] (by decide) rfl) hK (ci := 6) (q0 := 0) rfl rfl) rfl rfl hl.1 rfl (lv_room (Nat.le_of_ble_eq_true rfl)) dX7_linksNow_15 ⟨Nat.zero_le _, Nat.zero_le _⟩) hS hA hP hD [6, 7, 8, 1, 2, 3, 4, 5] rfl rfl (fun H locs hP hD hS => ?_)
  have hP : va_P G.1 vwCl [oX7 t_h t_a rd_h now_h sp_h wy_h gp_h ch_h sb_h, oX1 now_h now_a now_windows now_washes now_damp now_heard now_lines now_hour now_strings, arI G (now_a 8) 8 now_washPairs, arI G (now_a 9) 8 now_washHours, arI G (now_a 10) 21 now_pairs, arI G (now_a 11) 21 now_knots, oX6 wy_h wy_a wy_windows_1 wy_goal wy_otherFrom wy_otherTo wy_least, arI G (wy_a 1) 12 wy_links_2, arI G (wy_a 2) 144 wy_prices_3] H := hP
  have hD : va_D A [oX7 t_h t_a rd_h now_h sp_h wy_h gp_h ch_h sb_h, oX1 now_h now_a now_windows now_washes now_damp now_heard now_lines now_hour now_strings, arI G (now_a 8) 8 now_washPairs, arI G (now_a 9) 8 now_washHours, arI G (now_a 10) 21 now_pairs, arI G (now_a 11) 21 now_knots, oX6 wy_h wy_a wy_windows_1 wy_goal wy_otherFrom wy_otherTo wy_least, arI G (wy_a 1) 12 wy_links_2, arI G (wy_a 2) 144 wy_prices_3] := hD
  refine lv_aload_n hx hb dX7_linksNow_18 rfl (lv_at hl 0 rfl) ?_
  refine va_get (D := G.1) (ci := 7) (v := .ref wy_h) (C := RX7) (T := TX7) (N := 10) hx hb hw inW7 hown hK.1 hP 0 rfl rfl 3 (by decide) (hw _ kw_2_1) (fun _ h9 => h9) rfl dX7_linksNow_19 ?_
  refine va_getN (D := G.1) (ci := 6) (v := .ref (wy_a 1)) (C := RX6) (T := TX6) (N := 9) hx hb hw inW6 hown hK.1 hP 6 rfl rfl 1 (by decide) ((nf_26 hK.2).use rfl) (fun _ h9 => h9) rfl dX7_linksNow_22 ?_
  refine lv_iload_n hx hb dX7_linksNow_25 rfl (lv_at hl 1 rfl) ?_
  obtain ⟨hi_6, hf⟩ := rdI_in hf
  refine va_iald hx hb hK.1 hP 7 0 rfl rfl hi_6 dX7_linksNow_26 ?_
  refine lv_topi (fun x_5 ex_5 => ?_)
  have hf := hf x_5 ex_5
  exact hRet _ _ _ _ _ _ _ _ hf hP hS dX7_linksNow_27
theorem calX7_window : CalV yX7_window cX7_window 3 (some .int) 2 := ⟨⟨kw_18_0, kw_1_2, by decide +kernel⟩, kw_17_22, kw_17_23⟩
set_option maxHeartbeats 8000000 in
set_option maxRecDepth 100000 in
theorem ctX7_window (l : Launch) (G : GT) (t_h : Nat) (t_a : Nat → Nat) (now_h : Nat) (now_a : Nat → Nat) (wy_h : Nat) (wy_a : Nat → Nat) (rd_h : Nat) (sp_h : Nat) (gp_h : Nat) (ch_h : Nat) (sb_h : Nat) (now_windows : Int32) (now_washes : Int32) (now_damp : Int32) (now_heard : Int32) (now_lines : Int32) (now_hour : Int32) (now_strings : Int32) (now_cans : Nat → Int32) (now_washPairs : Nat → Int32) (now_washHours : Nat → Int32) (now_pairs : Nat → Int32) (now_knots : Nat → Int32) (wy_windows : Int32) (wy_links : Nat → Int32) (wy_prices : Nat → Int32) (wy_goal : Int32) (wy_otherFrom : Int32) (wy_otherTo : Int32) (wy_least : Int32) (v1 : Int32) (v2 : Int32) (r : Int32) (o_wy_windows : Int32) (o_wy_links : Nat → Int32) (o_wy_prices : Nat → Int32) (hf : fX7_window now_windows now_washes now_damp now_hour now_strings now_cans now_washPairs now_washHours now_pairs now_knots wy_windows wy_links wy_prices v1 v2 = some (r, o_wy_windows, o_wy_links, o_wy_prices)) : WrI l yX7_window (Cond.code yX7_window cX7_window 3 (some .int)) { frames := 6, cells := 0, slots := 0, locals := 129 } G [.ref t_h, .int v1, .int v2] [oX7 t_h t_a rd_h now_h sp_h wy_h gp_h ch_h sb_h, oX1 now_h now_a now_windows now_washes now_damp now_heard now_lines now_hour now_strings, arI G (now_a 7) 12 now_cans, arI G (now_a 8) 8 now_washPairs, arI G (now_a 9) 8 now_washHours, arI G (now_a 10) 21 now_pairs, arI G (now_a 11) 21 now_knots, oX6 wy_h wy_a wy_windows wy_goal wy_otherFrom wy_otherTo wy_least, arI G (wy_a 1) 12 wy_links, arI G (wy_a 2) 144 wy_prices] [oX7 t_h t_a rd_h now_h sp_h wy_h gp_h ch_h sb_h, oX1 now_h now_a now_windows now_washes now_damp now_heard now_lines now_hour now_strings, arI G (now_a 7) 12 now_cans, arI G (now_a 8) 8 now_washPairs, arI G (now_a 9) 8 now_washHours, arI G (now_a 10) 21 now_pairs, arI G (now_a 11) 21 now_knots, oX6 wy_h wy_a o_wy_windows wy_goal wy_otherFrom wy_otherTo wy_least, arI G (wy_a 1) 12 o_wy_links, arI G (wy_a 2) 144 o_wy_prices] r := by
  intro sz
  refine Met.ofW (cc := cX7_window) (maxL := 3) (ret := (some .int)) (by decide) rfl ?_
  intro p e s m args below meth c s₁ B hml hv
  obtain ⟨hargs, hsz, hP, hD0, hK⟩ := hv
  subst hsz
  obtain ⟨hx, hb, hr, hw, hown, hlk⟩ := fwB B
  refine fw_enter hargs (Nat.le_of_ble_eq_true rfl) (fun ls hl => ?_)
  have hl : lv_has ls 3 [(0, .ref t_h), (1, .int v1), (2, .int v2)] := hl
  refine fw_Q (P := fun Q => ∃ A : Nat → Prop, va_D A [oX7 t_h t_a rd_h now_h sp_h wy_h gp_h ch_h sb_h, oX1 now_h now_a now_windows now_washes now_damp now_heard now_lines now_hour now_strings, arI G (now_a 7) 12 now_cans, arI G (now_a 8) 8 now_washPairs, arI G (now_a 9) 8 now_washHours, arI G (now_a 10) 21 now_pairs, arI G (now_a 11) 21 now_knots, oX6 wy_h wy_a wy_windows wy_goal wy_otherFrom wy_otherTo wy_least, arI G (wy_a 1) 12 wy_links, arI G (wy_a 2) 144 wy_prices] ∧ va_S A s.heap s.heap [] ∧ (∀ q, s.heap.size ≤ q → A q) ∧ ∀ (v : Int32) (n_wy_windows : Int32) (n_wy_links : Nat → Int32) (n_wy_prices : Nat → Int32) (H : Heap) (locs : List Loc) (pc : Nat) (ls : Array Slot), some (v, n_wy_windows, n_wy_links, n_wy_prices) = some (r, o_wy_windows, o_wy_links, o_wy_prices) → va_P G.1 vwCl [oX7 t_h t_a rd_h now_h sp_h wy_h gp_h ch_h sb_h, oX1 now_h now_a now_windows now_washes now_damp now_heard now_lines now_hour now_strings, arI G (now_a 7) 12 now_cans, arI G (now_a 8) 8 now_washPairs, arI G (now_a 9) 8 now_washHours, arI G (now_a 10) 21 now_pairs, arI G (now_a 11) 21 now_knots, oX6 wy_h wy_a n_wy_windows wy_goal wy_otherFrom wy_otherTo wy_least, arI G (wy_a 1) 12 n_wy_links, arI G (wy_a 2) 144 n_wy_prices] H → va_S A s.heap H locs → decode cX7_window pc = .ok (.ireturn, 1) → W p l e ({ frames := 6, cells := 0, slots := 0, locals := 129 } : Room) s m args below meth c H locs 0 0 Q (F0 m pc ls [.int v])) ⟨va_A [oX7 t_h t_a rd_h now_h sp_h wy_h gp_h ch_h sb_h, oX1 now_h now_a now_windows now_washes now_damp now_heard now_lines now_hour now_strings, arI G (now_a 7) 12 now_cans, arI G (now_a 8) 8 now_washPairs, arI G (now_a 9) 8 now_washHours, arI G (now_a 10) 21 now_pairs, arI G (now_a 11) 21 now_knots, oX6 wy_h wy_a wy_windows wy_goal wy_otherFrom wy_otherTo wy_least, arI G (wy_a 1) 12 wy_links, arI G (wy_a 2) 144 wy_prices] s.heap.size, hD0.self (sz := s.heap.size), va_S.rf, fun q h => Or.inr h, ?_⟩ ?_
  · intro v n_wy_windows n_wy_links n_wy_prices H locs pc ls h hP hS hd
    cases h
    exact retWI hx hb hr hlk hS hP rfl hd
  rintro Q ⟨A, hD, hS, hA, hRet⟩
  change W p l e ({ frames := 6, cells := 0, slots := 0, locals := 129 } : Room) s m args below meth c _ _ 0 0 Q _
  unfold fX7_window at hf
  refine lv_aload_n hx hb dX7_window_0 rfl (lv_at hl 0 rfl) ?_
  refine va_get (D := G.1) (ci := 7) (v := .ref now_h) (C := RX7) (T := TX7) (N := 10) hx hb hw inW7 hown hK.1 hP 0 rfl rfl 1 (by decide) (hw _ kw_1_20) (fun _ h9 => h9) rfl dX7_window_1 ?_
  refine lv_iload_n hx hb dX7_window_4 rfl (lv_at hl 1 rfl) ?_
  obtain ⟨r_1, hc_2, hf⟩ := bd1_in hf
  refine rcI (va_runV (As := [.int v1]) (rest := []) ⟨hx, hb, hml, hown, hw⟩ ((ctX1_hasWindow l G now_h now_a now_windows now_washes now_damp now_heard now_lines now_hour now_strings v1 _ hc_2) _) (kV hw calX1_hasWindow kw_18_1 rfl rfl ⟨Nat.le_of_ble_eq_true rfl, Nat.le_of_ble_eq_true rfl⟩) (rpV (hP.sub (ws' := [oX1 now_h now_a now_windows now_washes now_damp now_heard now_lines now_hour now_strings]) [1] rfl) hK (ci := 1) (q0 := 0) rfl rfl) rfl rfl hl.1 rfl (lv_room (Nat.le_of_ble_eq_true rfl)) dX7_window_5 ⟨Nat.zero_le _, Nat.zero_le _⟩) hS hA hP (fun H locs hP hS => ?_)
  refine lv_if_ne (tgt := 14) hx hb dX7_window_8 (by decide) (fun c_3 => ?_) (fun c_3 => ?_)
  · have hf := iq c_3 hf
    refine lv_iload_n hx hb dX7_window_14 rfl (lv_at hl 2 rfl) ?_
    by_cases c_4 : v2 = 0
    · have hf := ip c_4 hf
      refine lv_tableIn (tgt := 44) hx hb dX7_window_15 (by rw [c_4]; decide) (by rw [c_4]; decide) (by rw [c_4]; rfl) (by decide) ?_
      refine lv_aload_n hx hb dX7_window_44 rfl (lv_at hl 0 rfl) ?_
      refine va_get (D := G.1) (ci := 7) (v := .ref now_h) (C := RX7) (T := TX7) (N := 10) hx hb hw inW7 hown hK.1 hP 0 rfl rfl 1 (by decide) (hw _ kw_1_20) (fun _ h9 => h9) rfl dX7_window_45 ?_
      refine va_getN (D := G.1) (ci := 1) (v := .ref (now_a 7)) (C := RX1) (T := TX1) (N := 12) hx hb hw inW1 hown hK.1 hP 1 rfl rfl 7 (by decide) ((nf_19 hK.2).use rfl) (fun _ h9 => h9) rfl dX7_window_48 ?_
      refine lv_iload_n hx hb dX7_window_51 rfl (lv_at hl 1 rfl) ?_
      obtain ⟨hi_6, hf⟩ := rdI_in hf
      refine va_iald hx hb hK.1 hP 2 0 rfl rfl hi_6 dX7_window_52 ?_
      refine lv_topi (fun x_5 ex_5 => ?_)
      have hf := hf x_5 ex_5
      exact hRet _ _ _ _ _ _ _ _ hf hP hS dX7_window_53
    have hf := iq c_4 hf
    by_cases c_7 : v2 = 1
    · have hf := ip c_7 hf
      refine lv_tableIn (tgt := 54) hx hb dX7_window_15 (by rw [c_7]; decide) (by rw [c_7]; decide) (by rw [c_7]; rfl) (by decide) ?_
      refine lv_aload_n hx hb dX7_window_54 rfl (lv_at hl 0 rfl) ?_
      refine va_get (D := G.1) (ci := 7) (v := .ref now_h) (C := RX7) (T := TX7) (N := 10) hx hb hw inW7 hown hK.1 hP 0 rfl rfl 1 (by decide) (hw _ kw_1_20) (fun _ h9 => h9) rfl dX7_window_55 ?_
      refine lv_iload_n hx hb dX7_window_58 rfl (lv_at hl 1 rfl) ?_
      obtain ⟨r_8, hc_9, hf⟩ := bd1_in hf
      refine rcI (va_runV (As := [.int v1]) (rest := []) ⟨hx, hb, hml, hown, hw⟩ ((ctX1_stringsAt l G now_h now_a now_windows now_washes now_damp now_heard now_lines now_hour now_strings now_pairs v1 _ hc_9) _) (kV hw calX1_stringsAt kw_18_5 rfl rfl ⟨Nat.le_of_ble_eq_true rfl, Nat.le_of_ble_eq_true rfl⟩) (rpV (hP.sub (ws' := [oX1 now_h now_a now_windows now_washes now_damp now_heard now_lines now_hour now_strings, arI G (now_a 10) 21 now_pairs]) [1, 5] rfl) hK (ci := 1) (q0 := 0) rfl rfl) rfl rfl hl.1 rfl (lv_room (Nat.le_of_ble_eq_true rfl)) dX7_window_59 ⟨Nat.zero_le _, Nat.zero_le _⟩) hS hA hP (fun H locs hP hS => ?_)
      exact hRet _ _ _ _ _ _ _ _ hf hP hS dX7_window_62
    have hf := iq c_7 hf
    by_cases c_10 : v2 = 2
    · have hf := ip c_10 hf
      refine lv_tableIn (tgt := 63) hx hb dX7_window_15 (by rw [c_10]; decide) (by rw [c_10]; decide) (by rw [c_10]; rfl) (by decide) ?_
      refine lv_aload_n hx hb dX7_window_63 rfl (lv_at hl 0 rfl) ?_
      refine lv_iload_n hx hb dX7_window_64 rfl (lv_at hl 1 rfl) ?_
      obtain ⟨r_14, wy_windows_11, wy_links_12, wy_prices_13, hc_15, hf⟩ := bd4_in hf
      refine wcI (w1 := [oX7 t_h t_a rd_h now_h sp_h wy_h gp_h ch_h sb_h, oX1 now_h now_a now_windows now_washes now_damp now_heard now_lines now_hour now_strings, arI G (now_a 8) 8 now_washPairs, arI G (now_a 9) 8 now_washHours, arI G (now_a 10) 21 now_pairs, arI G (now_a 11) 21 now_knots, oX6 wy_h wy_a wy_windows_11 wy_goal wy_otherFrom wy_otherTo wy_least, arI G (wy_a 1) 12 wy_links_12, arI G (wy_a 2) 144 wy_prices_13]) (va_runV (As := [.int v1]) (rest := []) ⟨hx, hb, hml, hown, hw⟩ ((ctX7_linksNow l G t_h t_a now_h now_a wy_h wy_a rd_h sp_h gp_h ch_h sb_h now_windows now_washes now_damp now_heard now_lines now_hour now_strings now_washPairs now_washHours now_pairs now_knots wy_windows wy_links wy_prices wy_goal wy_otherFrom wy_otherTo wy_least v1 _ _ _ _ hc_15) _) (kV hw calX7_linksNow kw_18_6 rfl rfl ⟨Nat.le_of_ble_eq_true rfl, Nat.le_of_ble_eq_true rfl⟩) (wpV (hP.sub (ws' := [oX7 t_h t_a rd_h now_h sp_h wy_h gp_h ch_h sb_h, oX1 now_h now_a now_windows now_washes now_damp now_heard now_lines now_hour now_strings, arI G (now_a 8) 8 now_washPairs, arI G (now_a 9) 8 now_washHours, arI G (now_a 10) 21 now_pairs, arI G (now_a 11) 21 now_knots, oX6 wy_h wy_a wy_windows wy_goal wy_otherFrom wy_otherTo wy_least, arI G (wy_a 1) 12 wy_links, arI G (wy_a 2) 144 wy_prices]) [0, 1, 3, 4, 5, 6, 7, 8, 9] rfl) (hD.sub (ws' := [oX7 t_h t_a rd_h now_h sp_h wy_h gp_h ch_h sb_h, oX1 now_h now_a now_windows now_washes now_damp now_heard now_lines now_hour now_strings, arI G (now_a 8) 8 now_washPairs, arI G (now_a 9) 8 now_washHours, arI G (now_a 10) 21 now_pairs, arI G (now_a 11) 21 now_knots, oX6 wy_h wy_a wy_windows wy_goal wy_otherFrom wy_otherTo wy_least, arI G (wy_a 1) 12 wy_links, arI G (wy_a 2) 144 wy_prices]) [0, 1, 3, 4, 5, 6, 7, 8, 9] (by decide) rfl) hK (ci := 7) (q0 := 0) rfl rfl) rfl rfl hl.1 rfl (lv_room (Nat.le_of_ble_eq_true rfl)) dX7_window_65 ⟨Nat.zero_le _, Nat.zero_le _⟩) hS hA hP hD [0, 1, 3, 4, 5, 6, 7, 8, 9] rfl rfl (fun H locs hP hD hS => ?_)
      have hP : va_P G.1 vwCl [oX7 t_h t_a rd_h now_h sp_h wy_h gp_h ch_h sb_h, oX1 now_h now_a now_windows now_washes now_damp now_heard now_lines now_hour now_strings, arI G (now_a 7) 12 now_cans, arI G (now_a 8) 8 now_washPairs, arI G (now_a 9) 8 now_washHours, arI G (now_a 10) 21 now_pairs, arI G (now_a 11) 21 now_knots, oX6 wy_h wy_a wy_windows_11 wy_goal wy_otherFrom wy_otherTo wy_least, arI G (wy_a 1) 12 wy_links_12, arI G (wy_a 2) 144 wy_prices_13] H := hP
      have hD : va_D A [oX7 t_h t_a rd_h now_h sp_h wy_h gp_h ch_h sb_h, oX1 now_h now_a now_windows now_washes now_damp now_heard now_lines now_hour now_strings, arI G (now_a 7) 12 now_cans, arI G (now_a 8) 8 now_washPairs, arI G (now_a 9) 8 now_washHours, arI G (now_a 10) 21 now_pairs, arI G (now_a 11) 21 now_knots, oX6 wy_h wy_a wy_windows_11 wy_goal wy_otherFrom wy_otherTo wy_least, arI G (wy_a 1) 12 wy_links_12, arI G (wy_a 2) 144 wy_prices_13] := hD
      obtain ⟨r_16, hc_17, hf⟩ := bd1_in hf
      refine rcI (va_runS (As := [.int r_14]) (rest := []) ⟨hx, hb, hml, hown, hw⟩ ((ctJ6_bitCount_0f7a4 l G r_14 _ hc_17) _) (kS hw calJ6_bitCount_0f7a4 kw_19_16 rfl rfl ⟨Nat.le_of_ble_eq_true rfl, Nat.le_of_ble_eq_true rfl⟩) (rpS (hP.sub (ws' := []) [] rfl) hK) rfl rfl hl.1 rfl (lv_room (Nat.le_of_ble_eq_true rfl)) dX7_window_68 ⟨Nat.zero_le _, Nat.zero_le _⟩) hS hA hP (fun H locs hP hS => ?_)
      exact hRet _ _ _ _ _ _ _ _ hf hP hS dX7_window_71
    have hf := iq c_10 hf
    by_cases c_18 : v2 = 3
    · have hf := ip c_18 hf
      refine lv_tableIn (tgt := 72) hx hb dX7_window_15 (by rw [c_18]; decide) (by rw [c_18]; decide) (by rw [c_18]; rfl) (by decide) ?_
      refine lv_aload_n hx hb dX7_window_72 rfl (lv_at hl 0 rfl) ?_
      refine lv_iload_n hx hb dX7_window_73 rfl (lv_at hl 1 rfl) ?_
      obtain ⟨r_22, wy_windows_19, wy_links_20, wy_prices_21, hc_23, hf⟩ := bd4_in hf
      refine wcI (w1 := [oX7 t_h t_a rd_h now_h sp_h wy_h gp_h ch_h sb_h, oX1 now_h now_a now_windows now_washes now_damp now_heard now_lines now_hour now_strings, arI G (now_a 8) 8 now_washPairs, arI G (now_a 9) 8 now_washHours, arI G (now_a 10) 21 now_pairs, arI G (now_a 11) 21 now_knots, oX6 wy_h wy_a wy_windows_19 wy_goal wy_otherFrom wy_otherTo wy_least, arI G (wy_a 1) 12 wy_links_20, arI G (wy_a 2) 144 wy_prices_21]) (va_runV (As := [.int v1]) (rest := []) ⟨hx, hb, hml, hown, hw⟩ ((ctX7_linksNow l G t_h t_a now_h now_a wy_h wy_a rd_h sp_h gp_h ch_h sb_h now_windows now_washes now_damp now_heard now_lines now_hour now_strings now_washPairs now_washHours now_pairs now_knots wy_windows wy_links wy_prices wy_goal wy_otherFrom wy_otherTo wy_least v1 _ _ _ _ hc_23) _) (kV hw calX7_linksNow kw_18_6 rfl rfl ⟨Nat.le_of_ble_eq_true rfl, Nat.le_of_ble_eq_true rfl⟩) (wpV (hP.sub (ws' := [oX7 t_h t_a rd_h now_h sp_h wy_h gp_h ch_h sb_h, oX1 now_h now_a now_windows now_washes now_damp now_heard now_lines now_hour now_strings, arI G (now_a 8) 8 now_washPairs, arI G (now_a 9) 8 now_washHours, arI G (now_a 10) 21 now_pairs, arI G (now_a 11) 21 now_knots, oX6 wy_h wy_a wy_windows wy_goal wy_otherFrom wy_otherTo wy_least, arI G (wy_a 1) 12 wy_links, arI G (wy_a 2) 144 wy_prices]) [0, 1, 3, 4, 5, 6, 7, 8, 9] rfl) (hD.sub (ws' := [oX7 t_h t_a rd_h now_h sp_h wy_h gp_h ch_h sb_h, oX1 now_h now_a now_windows now_washes now_damp now_heard now_lines now_hour now_strings, arI G (now_a 8) 8 now_washPairs, arI G (now_a 9) 8 now_washHours, arI G (now_a 10) 21 now_pairs, arI G (now_a 11) 21 now_knots, oX6 wy_h wy_a wy_windows wy_goal wy_otherFrom wy_otherTo wy_least, arI G (wy_a 1) 12 wy_links, arI G (wy_a 2) 144 wy_prices]) [0, 1, 3, 4, 5, 6, 7, 8, 9] (by decide) rfl) hK (ci := 7) (q0 := 0) rfl rfl) rfl rfl hl.1 rfl (lv_room (Nat.le_of_ble_eq_true rfl)) dX7_window_74 ⟨Nat.zero_le _, Nat.zero_le _⟩) hS hA hP hD [0, 1, 3, 4, 5, 6, 7, 8, 9] rfl rfl (fun H locs hP hD hS => ?_)
      have hP : va_P G.1 vwCl [oX7 t_h t_a rd_h now_h sp_h wy_h gp_h ch_h sb_h, oX1 now_h now_a now_windows now_washes now_damp now_heard now_lines now_hour now_strings, arI G (now_a 7) 12 now_cans, arI G (now_a 8) 8 now_washPairs, arI G (now_a 9) 8 now_washHours, arI G (now_a 10) 21 now_pairs, arI G (now_a 11) 21 now_knots, oX6 wy_h wy_a wy_windows_19 wy_goal wy_otherFrom wy_otherTo wy_least, arI G (wy_a 1) 12 wy_links_20, arI G (wy_a 2) 144 wy_prices_21] H := hP
      have hD : va_D A [oX7 t_h t_a rd_h now_h sp_h wy_h gp_h ch_h sb_h, oX1 now_h now_a now_windows now_washes now_damp now_heard now_lines now_hour now_strings, arI G (now_a 7) 12 now_cans, arI G (now_a 8) 8 now_washPairs, arI G (now_a 9) 8 now_washHours, arI G (now_a 10) 21 now_pairs, arI G (now_a 11) 21 now_knots, oX6 wy_h wy_a wy_windows_19 wy_goal wy_otherFrom wy_otherTo wy_least, arI G (wy_a 1) 12 wy_links_20, arI G (wy_a 2) 144 wy_prices_21] := hD
      exact hRet _ _ _ _ _ _ _ _ hf hP hS dX7_window_77
    have hf := iq c_18 hf
    refine lv_tableOut (tgt := 78) hx hb dX7_window_15 (by have c_4_t : (v2 : Int32).toInt ≠ 0 := ne_toInt c_4; have c_7_t : (v2 : Int32).toInt ≠ 1 := ne_toInt c_7; have c_10_t : (v2 : Int32).toInt ≠ 2 := ne_toInt c_10; have c_18_t : (v2 : Int32).toInt ≠ 3 := ne_toInt c_18; omega) (by decide) ?_
    refine lv_bipush (v := (-2)) hx hb dX7_window_78 (by decide) ?_
    exact hRet _ _ _ _ _ _ _ _ hf hP hS dX7_window_80
  · have hf := ip c_3 hf
    refine lv_bipush (v := (-2)) hx hb dX7_window_11 (by decide) ?_
    exact hRet _ _ _ _ _ _ _ _ hf hP hS dX7_window_13
theorem calX7_cross : CalV yX7_cross cX7_cross 3 (some .int) 2 := ⟨⟨kw_21_6, kw_1_2, by decide +kernel⟩, kw_21_4, kw_21_5⟩
set_option maxHeartbeats 8000000 in
set_option maxRecDepth 100000 in
theorem ctX7_cross (l : Launch) (G : GT) (t_h : Nat) (t_a : Nat → Nat) (now_h : Nat) (now_a : Nat → Nat) (rd_h : Nat) (sp_h : Nat) (wy_h : Nat) (gp_h : Nat) (ch_h : Nat) (sb_h : Nat) (now_windows : Int32) (now_washes : Int32) (now_damp : Int32) (now_heard : Int32) (now_lines : Int32) (now_hour : Int32) (now_strings : Int32) (v1 : Int32) (v2 : Int32) (r : Int32) (hf : fX7_cross now_windows v1 v2 = some r) : RdI l yX7_cross (Cond.code yX7_cross cX7_cross 3 (some .int)) { frames := 2, cells := 0, slots := 0, locals := 46 } G [.ref t_h, .int v1, .int v2] [oX7 t_h t_a rd_h now_h sp_h wy_h gp_h ch_h sb_h, oX1 now_h now_a now_windows now_washes now_damp now_heard now_lines now_hour now_strings] r := by
  intro sz
  refine Met.ofW (cc := cX7_cross) (maxL := 3) (ret := (some .int)) (by decide) rfl ?_
  intro p e s m args below meth c s₁ B hml hv
  obtain ⟨hargs, hsz, hP, hK⟩ := hv
  subst hsz
  obtain ⟨hx, hb, hr, hw, hown, hlk⟩ := fwB B
  refine fw_enter hargs (Nat.le_of_ble_eq_true rfl) (fun ls hl => ?_)
  have hl : lv_has ls 3 [(0, .ref t_h), (1, .int v1), (2, .int v2)] := hl
  refine fw_Q (P := fun Q => ∃ A : Nat → Prop, va_S A s.heap s.heap [] ∧ (∀ q, s.heap.size ≤ q → A q) ∧ ∀ (v : Int32) (H : Heap) (locs : List Loc) (pc : Nat) (ls : Array Slot), some v = some r → va_S A s.heap H locs → decode cX7_cross pc = .ok (.ireturn, 1) → W p l e ({ frames := 2, cells := 0, slots := 0, locals := 46 } : Room) s m args below meth c H locs 0 0 Q (F0 m pc ls [.int v])) ⟨fun q => s.heap.size ≤ q, va_S.rf, fun q h => h, fun v H locs pc ls h hS hd => retRI hx hb hr hlk hS h hd⟩ ?_
  rintro Q ⟨A, hS, hA, hRet⟩
  change W p l e ({ frames := 2, cells := 0, slots := 0, locals := 46 } : Room) s m args below meth c _ _ 0 0 Q _
  unfold fX7_cross at hf
  refine lv_aload_n hx hb dX7_cross_0 rfl (lv_at hl 0 rfl) ?_
  refine va_get (D := G.1) (ci := 7) (v := .ref now_h) (C := RX7) (T := TX7) (N := 10) hx hb hw inW7 hown hK.1 hP 0 rfl rfl 1 (by decide) (hw _ kw_1_20) (fun _ h9 => h9) rfl dX7_cross_1 ?_
  refine lv_iload_n hx hb dX7_cross_4 rfl (lv_at hl 1 rfl) ?_
  refine lv_i2l hx hb dX7_cross_5 rfl ?_
  obtain ⟨r_1, hc_2, hf⟩ := bd1_in hf
  refine rcI (va_runV (As := [.long (Int32.toInt64 v1)]) (rest := []) ⟨hx, hb, hml, hown, hw⟩ ((ctX1_hasPair l G now_h now_a now_windows now_washes now_damp now_heard now_lines now_hour now_strings (Int32.toInt64 v1) _ hc_2) _) (kV hw calX1_hasPair kw_21_7 rfl rfl ⟨Nat.le_of_ble_eq_true rfl, Nat.le_of_ble_eq_true rfl⟩) (rpV (hP.sub (ws' := [oX1 now_h now_a now_windows now_washes now_damp now_heard now_lines now_hour now_strings]) [1] rfl) hK (ci := 1) (q0 := 0) rfl rfl) rfl rfl hl.1 rfl (lv_room (Nat.le_of_ble_eq_true rfl)) dX7_cross_6 ⟨Nat.zero_le _, Nat.zero_le _⟩) hS hA hP (fun H locs hP hS => ?_)
  refine lv_if_eq (tgt := 24) hx hb dX7_cross_9 (by decide) (fun c_3 => ?_) (fun c_3 => ?_)
  · have hf := ip c_3 hf
    refine lv_bipush (v := (-2)) hx hb dX7_cross_24 (by decide) ?_
    exact hRet _ _ _ _ _ hf hS dX7_cross_26
  · have hf := iq c_3 hf
    refine lv_aload_n hx hb dX7_cross_12 rfl (lv_at hl 0 rfl) ?_
    refine va_get (D := G.1) (ci := 7) (v := .ref now_h) (C := RX7) (T := TX7) (N := 10) hx hb hw inW7 hown hK.1 hP 0 rfl rfl 1 (by decide) (hw _ kw_1_20) (fun _ h9 => h9) rfl dX7_cross_13 ?_
    refine lv_iload_n hx hb dX7_cross_16 rfl (lv_at hl 2 rfl) ?_
    refine lv_i2l hx hb dX7_cross_17 rfl ?_
    obtain ⟨r_4, hc_5, hf⟩ := bd1_in hf
    refine rcI (va_runV (As := [.long (Int32.toInt64 v2)]) (rest := []) ⟨hx, hb, hml, hown, hw⟩ ((ctX1_hasPair l G now_h now_a now_windows now_washes now_damp now_heard now_lines now_hour now_strings (Int32.toInt64 v2) _ hc_5) _) (kV hw calX1_hasPair kw_21_7 rfl rfl ⟨Nat.le_of_ble_eq_true rfl, Nat.le_of_ble_eq_true rfl⟩) (rpV (hP.sub (ws' := [oX1 now_h now_a now_windows now_washes now_damp now_heard now_lines now_hour now_strings]) [1] rfl) hK (ci := 1) (q0 := 0) rfl rfl) rfl rfl hl.1 rfl (lv_room (Nat.le_of_ble_eq_true rfl)) dX7_cross_18 ⟨Nat.zero_le _, Nat.zero_le _⟩) hS hA hP (fun H locs hP hS => ?_)
    refine lv_if_ne (tgt := 27) hx hb dX7_cross_21 (by decide) (fun c_6 => ?_) (fun c_6 => ?_)
    · have hf := iq c_6 hf
      refine lv_iload_n hx hb dX7_cross_27 rfl (lv_at hl 1 rfl) ?_
      refine lv_iload_n hx hb dX7_cross_28 rfl (lv_at hl 2 rfl) ?_
      obtain ⟨r_7, hc_8, hf⟩ := bd1_in hf
      refine rcI (va_runS (As := [.int v1, .int v2]) (rest := []) ⟨hx, hb, hml, hown, hw⟩ ((ctX7_crossing l G v1 v2 _ hc_8) _) (kS hw calX7_crossing kw_21_8 rfl rfl ⟨Nat.le_of_ble_eq_true rfl, Nat.le_of_ble_eq_true rfl⟩) (rpS (hP.sub (ws' := []) [] rfl) hK) rfl rfl hl.1 rfl (lv_room (Nat.le_of_ble_eq_true rfl)) dX7_cross_29 ⟨Nat.zero_le _, Nat.zero_le _⟩) hS hA hP (fun H locs hP hS => ?_)
      refine lv_if_eq (tgt := 39) hx hb dX7_cross_32 (by decide) (fun c_9 => ?_) (fun c_9 => ?_)
      · have hf := ip c_9 hf
        refine lv_iconst (v := 0) hx hb dX7_cross_39 (by decide) ?_
        exact hRet _ _ _ _ _ hf hS dX7_cross_40
      · have hf := iq c_9 hf
        refine lv_iconst (v := 1) hx hb dX7_cross_35 (by decide) ?_
        refine lv_goto (tgt := 40) hx hb dX7_cross_36 (by decide) ?_
        exact hRet _ _ _ _ _ hf hS dX7_cross_40
    · have hf := ip c_6 hf
      refine lv_bipush (v := (-2)) hx hb dX7_cross_24 (by decide) ?_
      exact hRet _ _ _ _ _ hf hS dX7_cross_26
theorem calX7_pair : CalV yX7_pair cX7_pair 4 (some .int) 2 := ⟨⟨kw_21_21, kw_1_2, by decide +kernel⟩, kw_21_19, kw_21_20⟩
set_option maxHeartbeats 8000000 in
set_option maxRecDepth 100000 in
theorem ctX7_pair (l : Launch) (G : GT) (t_h : Nat) (t_a : Nat → Nat) (now_h : Nat) (now_a : Nat → Nat) (rd_h : Nat) (sp_h : Nat) (wy_h : Nat) (gp_h : Nat) (ch_h : Nat) (sb_h : Nat) (now_windows : Int32) (now_washes : Int32) (now_damp : Int32) (now_heard : Int32) (now_lines : Int32) (now_hour : Int32) (now_strings : Int32) (now_washPairs : Nat → Int32) (now_washHours : Nat → Int32) (now_pairs : Nat → Int32) (now_knots : Nat → Int32) (v1 : Int32) (v2 : Int32) (r : Int32) (hf : fX7_pair now_windows now_washes now_damp now_hour now_strings now_washPairs now_washHours now_pairs now_knots v1 v2 = some r) : RdI l yX7_pair (Cond.code yX7_pair cX7_pair 4 (some .int)) { frames := 4, cells := 0, slots := 0, locals := 84 } G [.ref t_h, .int v1, .int v2] [oX7 t_h t_a rd_h now_h sp_h wy_h gp_h ch_h sb_h, oX1 now_h now_a now_windows now_washes now_damp now_heard now_lines now_hour now_strings, arI G (now_a 8) 8 now_washPairs, arI G (now_a 9) 8 now_washHours, arI G (now_a 10) 21 now_pairs, arI G (now_a 11) 21 now_knots] r := by
  intro sz
  refine Met.ofW (cc := cX7_pair) (maxL := 4) (ret := (some .int)) (by decide) rfl ?_
  intro p e s m args below meth c s₁ B hml hv
  obtain ⟨hargs, hsz, hP, hK⟩ := hv
  subst hsz
  obtain ⟨hx, hb, hr, hw, hown, hlk⟩ := fwB B
  refine fw_enter hargs (Nat.le_of_ble_eq_true rfl) (fun ls hl => ?_)
  have hl : lv_has ls 4 [(0, .ref t_h), (1, .int v1), (2, .int v2)] := hl
  refine fw_Q (P := fun Q => ∃ A : Nat → Prop, va_S A s.heap s.heap [] ∧ (∀ q, s.heap.size ≤ q → A q) ∧ ∀ (v : Int32) (H : Heap) (locs : List Loc) (pc : Nat) (ls : Array Slot), some v = some r → va_S A s.heap H locs → decode cX7_pair pc = .ok (.ireturn, 1) → W p l e ({ frames := 4, cells := 0, slots := 0, locals := 84 } : Room) s m args below meth c H locs 0 0 Q (F0 m pc ls [.int v])) ⟨fun q => s.heap.size ≤ q, va_S.rf, fun q h => h, fun v H locs pc ls h hS hd => retRI hx hb hr hlk hS h hd⟩ ?_
  rintro Q ⟨A, hS, hA, hRet⟩
  change W p l e ({ frames := 4, cells := 0, slots := 0, locals := 84 } : Room) s m args below meth c _ _ 0 0 Q _
  unfold fX7_pair at hf
  refine lv_aload_n hx hb dX7_pair_0 rfl (lv_at hl 0 rfl) ?_
  refine va_get (D := G.1) (ci := 7) (v := .ref now_h) (C := RX7) (T := TX7) (N := 10) hx hb hw inW7 hown hK.1 hP 0 rfl rfl 1 (by decide) (hw _ kw_1_20) (fun _ h9 => h9) rfl dX7_pair_1 ?_
  refine lv_iload_n hx hb dX7_pair_4 rfl (lv_at hl 1 rfl) ?_
  refine lv_i2l hx hb dX7_pair_5 rfl ?_
  obtain ⟨r_1, hc_2, hf⟩ := bd1_in hf
  refine rcI (va_runV (As := [.long (Int32.toInt64 v1)]) (rest := []) ⟨hx, hb, hml, hown, hw⟩ ((ctX1_hasPair l G now_h now_a now_windows now_washes now_damp now_heard now_lines now_hour now_strings (Int32.toInt64 v1) _ hc_2) _) (kV hw calX1_hasPair kw_21_7 rfl rfl ⟨Nat.le_of_ble_eq_true rfl, Nat.le_of_ble_eq_true rfl⟩) (rpV (hP.sub (ws' := [oX1 now_h now_a now_windows now_washes now_damp now_heard now_lines now_hour now_strings]) [1] rfl) hK (ci := 1) (q0 := 0) rfl rfl) rfl rfl hl.1 rfl (lv_room (Nat.le_of_ble_eq_true rfl)) dX7_pair_6 ⟨Nat.zero_le _, Nat.zero_le _⟩) hS hA hP (fun H locs hP hS => ?_)
  refine lv_if_ne (tgt := 15) hx hb dX7_pair_9 (by decide) (fun c_3 => ?_) (fun c_3 => ?_)
  · have hf := iq c_3 hf
    refine lv_aload_n hx hb dX7_pair_15 rfl (lv_at hl 0 rfl) ?_
    refine va_get (D := G.1) (ci := 7) (v := .ref now_h) (C := RX7) (T := TX7) (N := 10) hx hb hw inW7 hown hK.1 hP 0 rfl rfl 1 (by decide) (hw _ kw_1_20) (fun _ h9 => h9) rfl dX7_pair_16 ?_
    refine lv_iload_n hx hb dX7_pair_19 rfl (lv_at hl 1 rfl) ?_
    obtain ⟨r_4, hc_5, hf⟩ := bd1_in hf
    refine rcI (va_runV (As := [.int v1]) (rest := []) ⟨hx, hb, hml, hown, hw⟩ ((ctX1_indexOf l G now_h now_a now_windows now_washes now_damp now_heard now_lines now_hour now_strings now_pairs v1 _ hc_5) _) (kV hw calX1_indexOf kw_21_22 rfl rfl ⟨Nat.le_of_ble_eq_true rfl, Nat.le_of_ble_eq_true rfl⟩) (rpV (hP.sub (ws' := [oX1 now_h now_a now_windows now_washes now_damp now_heard now_lines now_hour now_strings, arI G (now_a 10) 21 now_pairs]) [1, 4] rfl) hK (ci := 1) (q0 := 0) rfl rfl) rfl rfl hl.1 rfl (lv_room (Nat.le_of_ble_eq_true rfl)) dX7_pair_20 ⟨Nat.zero_le _, Nat.zero_le _⟩) hS hA hP (fun H locs hP hS => ?_)
    refine lv_istore_n (lv' := [(3, .int r_4), (0, .ref t_h), (1, .int v1), (2, .int v2)]) hx hb dX7_pair_23 rfl hl (by decide) rfl (fun ls hl => ?_)
    refine lv_iload_n hx hb dX7_pair_24 rfl (lv_at hl 3 rfl) ?_
    by_cases c_6 : v2 = 0
    · have hf := ip c_6 hf
      refine lv_tableIn (tgt := 56) hx hb dX7_pair_25 (by rw [c_6]; decide) (by rw [c_6]; decide) (by rw [c_6]; rfl) (by decide) ?_
      refine lv_aload_n hx hb dX7_pair_56 rfl (lv_at hl 1 rfl) ?_
      refine va_get (D := G.1) (ci := 7) (v := .ref now_h) (C := RX7) (T := TX7) (N := 10) hx hb hw inW7 hown hK.1 hP 0 rfl rfl 1 (by decide) (hw _ kw_1_20) (fun _ h9 => h9) rfl dX7_pair_57 ?_
      refine lv_iload_n hx hb dX7_pair_60 rfl (lv_at hl 2 rfl) ?_
      obtain ⟨r_7, hc_8, hf⟩ := bd1_in hf
      refine rcI (va_runV (As := [.int v1]) (rest := []) ⟨hx, hb, hml, hown, hw⟩ ((ctX1_lengthOf l G now_h now_a now_windows now_washes now_damp now_heard now_lines now_hour now_strings v1 _ hc_8) _) (kV hw calX1_lengthOf kw_21_23 rfl rfl ⟨Nat.le_of_ble_eq_true rfl, Nat.le_of_ble_eq_true rfl⟩) (rpV (hP.sub (ws' := [oX1 now_h now_a now_windows now_washes now_damp now_heard now_lines now_hour now_strings]) [1] rfl) hK (ci := 1) (q0 := 0) rfl rfl) rfl rfl hl.1 rfl (lv_room (Nat.le_of_ble_eq_true rfl)) dX7_pair_61 ⟨Nat.zero_le _, Nat.zero_le _⟩) hS hA hP (fun H locs hP hS => ?_)
      exact hRet _ _ _ _ _ hf hS dX7_pair_64
    have hf := iq c_6 hf
    by_cases c_9 : v2 = 1
    · have hf := ip c_9 hf
      refine lv_tableIn (tgt := 65) hx hb dX7_pair_25 (by rw [c_9]; decide) (by rw [c_9]; decide) (by rw [c_9]; rfl) (by decide) ?_
      refine lv_iload_n hx hb dX7_pair_65 rfl (lv_at hl 0 rfl) ?_
      refine lv_iconst (v := (-1)) hx hb dX7_pair_66 (by decide) ?_
      refine lv_icmp_ne (tgt := 74) hx hb dX7_pair_67 (by decide) (fun c_10 => ?_) (fun c_10 => ?_)
      · have hf := iq c_10 hf
        refine lv_aload_n hx hb dX7_pair_74 rfl (lv_at hl 1 rfl) ?_
        refine va_get (D := G.1) (ci := 7) (v := .ref now_h) (C := RX7) (T := TX7) (N := 10) hx hb hw inW7 hown hK.1 hP 0 rfl rfl 1 (by decide) (hw _ kw_1_20) (fun _ h9 => h9) rfl dX7_pair_75 ?_
        refine va_getN (D := G.1) (ci := 1) (v := .ref (now_a 11)) (C := RX1) (T := TX1) (N := 12) hx hb hw inW1 hown hK.1 hP 1 rfl rfl 11 (by decide) ((nf_25 hK.2).use rfl) (fun _ h9 => h9) rfl dX7_pair_78 ?_
        refine lv_iload_n hx hb dX7_pair_81 rfl (lv_at hl 0 rfl) ?_
        obtain ⟨hi_12, hf⟩ := rdI_in hf
        refine va_iald hx hb hK.1 hP 5 0 rfl rfl hi_12 dX7_pair_82 ?_
        refine lv_topi (fun x_11 ex_11 => ?_)
        have hf := hf x_11 ex_11
        exact hRet _ _ _ _ _ hf hS dX7_pair_83
      · have hf := ip c_10 hf
        refine lv_iconst (v := (-1)) hx hb dX7_pair_70 (by decide) ?_
        refine lv_goto (tgt := 83) hx hb dX7_pair_71 (by decide) ?_
        exact hRet _ _ _ _ _ hf hS dX7_pair_83
    have hf := iq c_9 hf
    by_cases c_13 : v2 = 2
    · have hf := ip c_13 hf
      refine lv_tableIn (tgt := 84) hx hb dX7_pair_25 (by rw [c_13]; decide) (by rw [c_13]; decide) (by rw [c_13]; rfl) (by decide) ?_
      refine lv_iload_n hx hb dX7_pair_84 rfl (lv_at hl 0 rfl) ?_
      refine lv_iconst (v := (-1)) hx hb dX7_pair_85 (by decide) ?_
      refine lv_icmp_ne (tgt := 100) hx hb dX7_pair_86 (by decide) (fun c_14 => ?_) (fun c_14 => ?_)
      · have hf := iq c_14 hf
        refine lv_aload_n hx hb dX7_pair_100 rfl (lv_at hl 1 rfl) ?_
        refine va_get (D := G.1) (ci := 7) (v := .ref now_h) (C := RX7) (T := TX7) (N := 10) hx hb hw inW7 hown hK.1 hP 0 rfl rfl 1 (by decide) (hw _ kw_1_20) (fun _ h9 => h9) rfl dX7_pair_101 ?_
        refine lv_iload_n hx hb dX7_pair_104 rfl (lv_at hl 0 rfl) ?_
        obtain ⟨r_15, hc_16, hf⟩ := bd1_in hf
        refine rcI (va_runV (As := [.int r_4]) (rest := []) ⟨hx, hb, hml, hown, hw⟩ ((ctX1_lossAt l G now_h now_a now_windows now_washes now_damp now_heard now_lines now_hour now_strings now_pairs now_knots r_4 _ hc_16) _) (kV hw calX1_lossAt kw_22_1 rfl rfl ⟨Nat.le_of_ble_eq_true rfl, Nat.le_of_ble_eq_true rfl⟩) (rpV (hP.sub (ws' := [oX1 now_h now_a now_windows now_washes now_damp now_heard now_lines now_hour now_strings, arI G (now_a 10) 21 now_pairs, arI G (now_a 11) 21 now_knots]) [1, 4, 5] rfl) hK (ci := 1) (q0 := 0) rfl rfl) rfl rfl hl.1 rfl (lv_room (Nat.le_of_ble_eq_true rfl)) dX7_pair_105 ⟨Nat.zero_le _, Nat.zero_le _⟩) hS hA hP (fun H locs hP hS => ?_)
        exact hRet _ _ _ _ _ hf hS dX7_pair_108
      · have hf := ip c_14 hf
        refine lv_aload_n hx hb dX7_pair_89 rfl (lv_at hl 1 rfl) ?_
        refine va_get (D := G.1) (ci := 7) (v := .ref now_h) (C := RX7) (T := TX7) (N := 10) hx hb hw inW7 hown hK.1 hP 0 rfl rfl 1 (by decide) (hw _ kw_1_20) (fun _ h9 => h9) rfl dX7_pair_90 ?_
        refine lv_iload_n hx hb dX7_pair_93 rfl (lv_at hl 2 rfl) ?_
        obtain ⟨r_17, hc_18, hf⟩ := bd1_in hf
        refine rcI (va_runV (As := [.int v1]) (rest := []) ⟨hx, hb, hml, hown, hw⟩ ((ctX1_bareLoss l G now_h now_a now_windows now_washes now_damp now_heard now_lines now_hour now_strings v1 _ hc_18) _) (kV hw calX1_bareLoss kw_22_0 rfl rfl ⟨Nat.le_of_ble_eq_true rfl, Nat.le_of_ble_eq_true rfl⟩) (rpV (hP.sub (ws' := [oX1 now_h now_a now_windows now_washes now_damp now_heard now_lines now_hour now_strings]) [1] rfl) hK (ci := 1) (q0 := 0) rfl rfl) rfl rfl hl.1 rfl (lv_room (Nat.le_of_ble_eq_true rfl)) dX7_pair_94 ⟨Nat.zero_le _, Nat.zero_le _⟩) hS hA hP (fun H locs hP hS => ?_)
        refine lv_goto (tgt := 108) hx hb dX7_pair_97 (by decide) ?_
        exact hRet _ _ _ _ _ hf hS dX7_pair_108
    have hf := iq c_13 hf
    by_cases c_19 : v2 = 3
    · have hf := ip c_19 hf
      refine lv_tableIn (tgt := 109) hx hb dX7_pair_25 (by rw [c_19]; decide) (by rw [c_19]; decide) (by rw [c_19]; rfl) (by decide) ?_
      refine lv_aload_n hx hb dX7_pair_109 rfl (lv_at hl 1 rfl) ?_
      refine va_get (D := G.1) (ci := 7) (v := .ref now_h) (C := RX7) (T := TX7) (N := 10) hx hb hw inW7 hown hK.1 hP 0 rfl rfl 1 (by decide) (hw _ kw_1_20) (fun _ h9 => h9) rfl dX7_pair_110 ?_
      refine lv_iload_n hx hb dX7_pair_113 rfl (lv_at hl 2 rfl) ?_
      refine lv_aload_n hx hb dX7_pair_114 rfl (lv_at hl 1 rfl) ?_
      refine va_get (D := G.1) (ci := 7) (v := .ref now_h) (C := RX7) (T := TX7) (N := 10) hx hb hw inW7 hown hK.1 hP 0 rfl rfl 1 (by decide) (hw _ kw_1_20) (fun _ h9 => h9) rfl dX7_pair_115 ?_
      refine va_getN (D := G.1) (ci := 1) (v := .int now_hour) (C := RX1) (T := TX1) (N := 12) hx hb hw inW1 hown hK.1 hP 1 rfl rfl 5 (by decide) ((nf_16 hK.2).use rfl) (fun _ h9 => h9) rfl dX7_pair_118 ?_
      obtain ⟨r_20, hc_21, hf⟩ := bd1_in hf
      refine rcI (va_runV (As := [.int v1, .int now_hour]) (rest := []) ⟨hx, hb, hml, hown, hw⟩ ((ctX1_slackAt l G now_h now_a now_windows now_washes now_damp now_heard now_lines now_hour now_strings now_washPairs now_washHours v1 now_hour _ hc_21) _) (kV hw calX1_slackAt kw_22_2 rfl rfl ⟨Nat.le_of_ble_eq_true rfl, Nat.le_of_ble_eq_true rfl⟩) (rpV (hP.sub (ws' := [oX1 now_h now_a now_windows now_washes now_damp now_heard now_lines now_hour now_strings, arI G (now_a 8) 8 now_washPairs, arI G (now_a 9) 8 now_washHours]) [1, 2, 3] rfl) hK (ci := 1) (q0 := 0) rfl rfl) rfl rfl hl.1 rfl (lv_room (Nat.le_of_ble_eq_true rfl)) dX7_pair_121 ⟨Nat.zero_le _, Nat.zero_le _⟩) hS hA hP (fun H locs hP hS => ?_)
      refine lv_if_eq (tgt := 131) hx hb dX7_pair_124 (by decide) (fun c_22 => ?_) (fun c_22 => ?_)
      · have hf := ip c_22 hf
        refine lv_iconst (v := 0) hx hb dX7_pair_131 (by decide) ?_
        exact hRet _ _ _ _ _ hf hS dX7_pair_132
      · have hf := iq c_22 hf
        refine lv_iconst (v := 1) hx hb dX7_pair_127 (by decide) ?_
        refine lv_goto (tgt := 132) hx hb dX7_pair_128 (by decide) ?_
        exact hRet _ _ _ _ _ hf hS dX7_pair_132
    have hf := iq c_19 hf
    refine lv_tableOut (tgt := 133) hx hb dX7_pair_25 (by have c_6_t : (v2 : Int32).toInt ≠ 0 := ne_toInt c_6; have c_9_t : (v2 : Int32).toInt ≠ 1 := ne_toInt c_9; have c_13_t : (v2 : Int32).toInt ≠ 2 := ne_toInt c_13; have c_19_t : (v2 : Int32).toInt ≠ 3 := ne_toInt c_19; omega) (by decide) ?_
    refine lv_bipush (v := (-2)) hx hb dX7_pair_133 (by decide) ?_
    exact hRet _ _ _ _ _ hf hS dX7_pair_135
  · have hf := ip c_3 hf
    refine lv_bipush (v := (-2)) hx hb dX7_pair_12 (by decide) ?_
    exact hRet _ _ _ _ _ hf hS dX7_pair_14
theorem calX7_may : CalV yX7_may cX7_may 2 (some .int) 1 := ⟨⟨kw_23_2, kw_1_2, by decide +kernel⟩, kw_23_0, kw_23_1⟩
set_option maxHeartbeats 8000000 in
set_option maxRecDepth 100000 in
theorem ctX7_may (l : Launch) (G : GT) (t_h : Nat) (t_a : Nat → Nat) (now_h : Nat) (now_a : Nat → Nat) (rd_h : Nat) (sp_h : Nat) (wy_h : Nat) (gp_h : Nat) (ch_h : Nat) (sb_h : Nat) (now_windows : Int32) (now_washes : Int32) (now_damp : Int32) (now_heard : Int32) (now_lines : Int32) (now_hour : Int32) (now_strings : Int32) (now_cans : Nat → Int32) (now_pairs : Nat → Int32) (v1 : Int32) (r : Int32) (hf : fX7_may now_windows now_strings now_cans now_pairs v1 = some r) : RdI l yX7_may (Cond.code yX7_may cX7_may 2 (some .int)) { frames := 3, cells := 0, slots := 0, locals := 70 } G [.ref t_h, .int v1] [oX7 t_h t_a rd_h now_h sp_h wy_h gp_h ch_h sb_h, oX1 now_h now_a now_windows now_washes now_damp now_heard now_lines now_hour now_strings, arI G (now_a 7) 12 now_cans, arI G (now_a 10) 21 now_pairs] r := by
  intro sz
  refine Met.ofW (cc := cX7_may) (maxL := 2) (ret := (some .int)) (by decide) rfl ?_
  intro p e s m args below meth c s₁ B hml hv
  obtain ⟨hargs, hsz, hP, hK⟩ := hv
  subst hsz
  obtain ⟨hx, hb, hr, hw, hown, hlk⟩ := fwB B
  refine fw_enter hargs (Nat.le_of_ble_eq_true rfl) (fun ls hl => ?_)
  have hl : lv_has ls 2 [(0, .ref t_h), (1, .int v1)] := hl
  refine fw_Q (P := fun Q => ∃ A : Nat → Prop, va_S A s.heap s.heap [] ∧ (∀ q, s.heap.size ≤ q → A q) ∧ ∀ (v : Int32) (H : Heap) (locs : List Loc) (pc : Nat) (ls : Array Slot), some v = some r → va_S A s.heap H locs → decode cX7_may pc = .ok (.ireturn, 1) → W p l e ({ frames := 3, cells := 0, slots := 0, locals := 70 } : Room) s m args below meth c H locs 0 0 Q (F0 m pc ls [.int v])) ⟨fun q => s.heap.size ≤ q, va_S.rf, fun q h => h, fun v H locs pc ls h hS hd => retRI hx hb hr hlk hS h hd⟩ ?_
  rintro Q ⟨A, hS, hA, hRet⟩
  change W p l e ({ frames := 3, cells := 0, slots := 0, locals := 70 } : Room) s m args below meth c _ _ 0 0 Q _
  unfold fX7_may at hf
  refine lv_aload_n hx hb dX7_may_0 rfl (lv_at hl 0 rfl) ?_
  refine va_get (D := G.1) (ci := 7) (v := .ref now_h) (C := RX7) (T := TX7) (N := 10) hx hb hw inW7 hown hK.1 hP 0 rfl rfl 1 (by decide) (hw _ kw_1_20) (fun _ h9 => h9) rfl dX7_may_1 ?_
  refine lv_iload_n hx hb dX7_may_4 rfl (lv_at hl 1 rfl) ?_
  obtain ⟨r_1, hc_2, hf⟩ := bd1_in hf
  refine rcI (va_runV (As := [.int v1]) (rest := []) ⟨hx, hb, hml, hown, hw⟩ ((ctX1_whyNot l G now_h now_a now_windows now_washes now_damp now_heard now_lines now_hour now_strings now_cans now_pairs v1 _ hc_2) _) (kV hw calX1_whyNot kw_23_3 rfl rfl ⟨Nat.le_of_ble_eq_true rfl, Nat.le_of_ble_eq_true rfl⟩) (rpV (hP.sub (ws' := [oX1 now_h now_a now_windows now_washes now_damp now_heard now_lines now_hour now_strings, arI G (now_a 7) 12 now_cans, arI G (now_a 10) 21 now_pairs]) [1, 2, 3] rfl) hK (ci := 1) (q0 := 0) rfl rfl) rfl rfl hl.1 rfl (lv_room (Nat.le_of_ble_eq_true rfl)) dX7_may_5 ⟨Nat.zero_le _, Nat.zero_le _⟩) hS hA hP (fun H locs hP hS => ?_)
  exact hRet _ _ _ _ _ hf hS dX7_may_8
theorem calX7_tie : CalV yX7_tie cX7_tie 4 (some .int) 2 := ⟨⟨kw_23_15, kw_1_2, by decide +kernel⟩, kw_23_13, kw_23_14⟩
set_option maxHeartbeats 8000000 in
set_option maxRecDepth 100000 in
theorem ctX7_tie (l : Launch) (G : GT) (t_h : Nat) (t_a : Nat → Nat) (now_h : Nat) (now_a : Nat → Nat) (rd_h : Nat) (sp_h : Nat) (wy_h : Nat) (gp_h : Nat) (ch_h : Nat) (sb_h : Nat) (now_windows : Int32) (now_washes : Int32) (now_damp : Int32) (now_heard : Int32) (now_lines : Int32) (now_hour : Int32) (now_strings : Int32) (now_cans : Nat → Int32) (now_pairs : Nat → Int32) (now_knots : Nat → Int32) (v1 : Int32) (v2 : Int32) (r : Int32) (o_now_strings : Int32) (o_now_pairs : Nat → Int32) (o_now_knots : Nat → Int32) (hf : fX7_tie now_windows now_strings now_cans now_pairs now_knots v1 v2 = some (r, o_now_strings, o_now_pairs, o_now_knots)) : WrI l yX7_tie (Cond.code yX7_tie cX7_tie 4 (some .int)) { frames := 3, cells := 0, slots := 0, locals := 70 } G [.ref t_h, .int v1, .int v2] [oX7 t_h t_a rd_h now_h sp_h wy_h gp_h ch_h sb_h, oX1 now_h now_a now_windows now_washes now_damp now_heard now_lines now_hour now_strings, arI G (now_a 7) 12 now_cans, arI G (now_a 10) 21 now_pairs, arI G (now_a 11) 21 now_knots] [oX7 t_h t_a rd_h now_h sp_h wy_h gp_h ch_h sb_h, oX1 now_h now_a now_windows now_washes now_damp now_heard now_lines now_hour o_now_strings, arI G (now_a 7) 12 now_cans, arI G (now_a 10) 21 o_now_pairs, arI G (now_a 11) 21 o_now_knots] r := by
  intro sz
  refine Met.ofW (cc := cX7_tie) (maxL := 4) (ret := (some .int)) (by decide) rfl ?_
  intro p e s m args below meth c s₁ B hml hv
  obtain ⟨hargs, hsz, hP, hD0, hK⟩ := hv
  subst hsz
  obtain ⟨hx, hb, hr, hw, hown, hlk⟩ := fwB B
  refine fw_enter hargs (Nat.le_of_ble_eq_true rfl) (fun ls hl => ?_)
  have hl : lv_has ls 4 [(0, .ref t_h), (1, .int v1), (2, .int v2)] := hl
  refine fw_Q (P := fun Q => ∃ A : Nat → Prop, va_D A [oX7 t_h t_a rd_h now_h sp_h wy_h gp_h ch_h sb_h, oX1 now_h now_a now_windows now_washes now_damp now_heard now_lines now_hour now_strings, arI G (now_a 7) 12 now_cans, arI G (now_a 10) 21 now_pairs, arI G (now_a 11) 21 now_knots] ∧ va_S A s.heap s.heap [] ∧ (∀ q, s.heap.size ≤ q → A q) ∧ ∀ (v : Int32) (n_now_strings : Int32) (n_now_pairs : Nat → Int32) (n_now_knots : Nat → Int32) (H : Heap) (locs : List Loc) (pc : Nat) (ls : Array Slot), some (v, n_now_strings, n_now_pairs, n_now_knots) = some (r, o_now_strings, o_now_pairs, o_now_knots) → va_P G.1 vwCl [oX7 t_h t_a rd_h now_h sp_h wy_h gp_h ch_h sb_h, oX1 now_h now_a now_windows now_washes now_damp now_heard now_lines now_hour n_now_strings, arI G (now_a 7) 12 now_cans, arI G (now_a 10) 21 n_now_pairs, arI G (now_a 11) 21 n_now_knots] H → va_S A s.heap H locs → decode cX7_tie pc = .ok (.ireturn, 1) → W p l e ({ frames := 3, cells := 0, slots := 0, locals := 70 } : Room) s m args below meth c H locs 0 0 Q (F0 m pc ls [.int v])) ⟨va_A [oX7 t_h t_a rd_h now_h sp_h wy_h gp_h ch_h sb_h, oX1 now_h now_a now_windows now_washes now_damp now_heard now_lines now_hour now_strings, arI G (now_a 7) 12 now_cans, arI G (now_a 10) 21 now_pairs, arI G (now_a 11) 21 now_knots] s.heap.size, hD0.self (sz := s.heap.size), va_S.rf, fun q h => Or.inr h, ?_⟩ ?_
  · intro v n_now_strings n_now_pairs n_now_knots H locs pc ls h hP hS hd
    cases h
    exact retWI hx hb hr hlk hS hP rfl hd
  rintro Q ⟨A, hD, hS, hA, hRet⟩
  change W p l e ({ frames := 3, cells := 0, slots := 0, locals := 70 } : Room) s m args below meth c _ _ 0 0 Q _
  unfold fX7_tie at hf
  refine lv_aload_n hx hb dX7_tie_0 rfl (lv_at hl 0 rfl) ?_
  refine va_get (D := G.1) (ci := 7) (v := .ref now_h) (C := RX7) (T := TX7) (N := 10) hx hb hw inW7 hown hK.1 hP 0 rfl rfl 1 (by decide) (hw _ kw_1_20) (fun _ h9 => h9) rfl dX7_tie_1 ?_
  refine lv_iload_n hx hb dX7_tie_4 rfl (lv_at hl 1 rfl) ?_
  obtain ⟨r_1, hc_2, hf⟩ := bd1_in hf
  refine rcI (va_runV (As := [.int v1]) (rest := []) ⟨hx, hb, hml, hown, hw⟩ ((ctX1_whyNot l G now_h now_a now_windows now_washes now_damp now_heard now_lines now_hour now_strings now_cans now_pairs v1 _ hc_2) _) (kV hw calX1_whyNot kw_23_3 rfl rfl ⟨Nat.le_of_ble_eq_true rfl, Nat.le_of_ble_eq_true rfl⟩) (rpV (hP.sub (ws' := [oX1 now_h now_a now_windows now_washes now_damp now_heard now_lines now_hour now_strings, arI G (now_a 7) 12 now_cans, arI G (now_a 10) 21 now_pairs]) [1, 2, 3] rfl) hK (ci := 1) (q0 := 0) rfl rfl) rfl rfl hl.1 rfl (lv_room (Nat.le_of_ble_eq_true rfl)) dX7_tie_5 ⟨Nat.zero_le _, Nat.zero_le _⟩) hS hA hP (fun H locs hP hS => ?_)
  refine lv_istore_n (lv' := [(3, .int r_1), (0, .ref t_h), (1, .int v1), (2, .int v2)]) hx hb dX7_tie_8 rfl hl (by decide) rfl (fun ls hl => ?_)
  refine lv_iload_n hx hb dX7_tie_9 rfl (lv_at hl 0 rfl) ?_
  refine lv_if_eq (tgt := 18) hx hb dX7_tie_10 (by decide) (fun c_3 => ?_) (fun c_3 => ?_)
  · have hf := ip c_3 hf
    refine lv_iload_n hx hb dX7_tie_18 rfl (lv_at hl 3 rfl) ?_
    refine lv_if_lt (tgt := 28) hx hb dX7_tie_19 (by decide) (fun c_4 => ?_) (fun c_4 => ?_)
    · have hf := ip c_4 hf
      refine lv_bipush (v := (-3)) hx hb dX7_tie_28 (by decide) ?_
      exact hRet _ _ _ _ _ _ _ _ hf hP hS dX7_tie_30
    · have hf := iq c_4 hf
      refine lv_iload_n hx hb dX7_tie_22 rfl (lv_at hl 3 rfl) ?_
      refine lv_bipush (v := 9) hx hb dX7_tie_23 (by decide) ?_
      refine lv_icmp_le (tgt := 31) hx hb dX7_tie_25 (by decide) (fun c_5 => ?_) (fun c_5 => ?_)
      · have hf := ip c_5 hf
        refine lv_aload_n hx hb dX7_tie_31 rfl (lv_at hl 1 rfl) ?_
        refine va_get (D := G.1) (ci := 7) (v := .ref now_h) (C := RX7) (T := TX7) (N := 10) hx hb hw inW7 hown hK.1 hP 0 rfl rfl 1 (by decide) (hw _ kw_1_20) (fun _ h9 => h9) rfl dX7_tie_32 ?_
        refine lv_iload_n hx hb dX7_tie_35 rfl (lv_at hl 2 rfl) ?_
        refine lv_iload_n hx hb dX7_tie_36 rfl (lv_at hl 3 rfl) ?_
        obtain ⟨now_strings_6, now_pairs_7, now_knots_8, hc_9, hf⟩ := bd3_in hf
        refine wcV (w1 := [oX1 now_h now_a now_windows now_washes now_damp now_heard now_lines now_hour now_strings_6, arI G (now_a 10) 21 now_pairs_7, arI G (now_a 11) 21 now_knots_8]) (va_runV (As := [.int v1, .int v2]) (rest := []) ⟨hx, hb, hml, hown, hw⟩ ((ctX1_addString l G now_h now_a now_windows now_washes now_damp now_heard now_lines now_hour now_strings now_pairs now_knots v1 v2 _ _ _ hc_9) _) (kV hw calX1_addString kw_23_16 rfl rfl ⟨Nat.le_of_ble_eq_true rfl, Nat.le_of_ble_eq_true rfl⟩) (wpV (hP.sub (ws' := [oX1 now_h now_a now_windows now_washes now_damp now_heard now_lines now_hour now_strings, arI G (now_a 10) 21 now_pairs, arI G (now_a 11) 21 now_knots]) [1, 3, 4] rfl) (hD.sub (ws' := [oX1 now_h now_a now_windows now_washes now_damp now_heard now_lines now_hour now_strings, arI G (now_a 10) 21 now_pairs, arI G (now_a 11) 21 now_knots]) [1, 3, 4] (by decide) rfl) hK (ci := 1) (q0 := 0) rfl rfl) rfl rfl hl.1 rfl (lv_room (Nat.le_of_ble_eq_true rfl)) dX7_tie_37 ⟨Nat.zero_le _, Nat.zero_le _⟩) hS hA hP hD [1, 3, 4] rfl rfl (fun H locs hP hD hS => ?_)
        have hP : va_P G.1 vwCl [oX7 t_h t_a rd_h now_h sp_h wy_h gp_h ch_h sb_h, oX1 now_h now_a now_windows now_washes now_damp now_heard now_lines now_hour now_strings_6, arI G (now_a 7) 12 now_cans, arI G (now_a 10) 21 now_pairs_7, arI G (now_a 11) 21 now_knots_8] H := hP
        have hD : va_D A [oX7 t_h t_a rd_h now_h sp_h wy_h gp_h ch_h sb_h, oX1 now_h now_a now_windows now_washes now_damp now_heard now_lines now_hour now_strings_6, arI G (now_a 7) 12 now_cans, arI G (now_a 10) 21 now_pairs_7, arI G (now_a 11) 21 now_knots_8] := hD
        refine lv_aload_n hx hb dX7_tie_40 rfl (lv_at hl 1 rfl) ?_
        refine va_get (D := G.1) (ci := 7) (v := .ref now_h) (C := RX7) (T := TX7) (N := 10) hx hb hw inW7 hown hK.1 hP 0 rfl rfl 1 (by decide) (hw _ kw_1_20) (fun _ h9 => h9) rfl dX7_tie_41 ?_
        refine va_getN (D := G.1) (ci := 1) (v := .int now_strings_6) (C := RX1) (T := TX1) (N := 12) hx hb hw inW1 hown hK.1 hP 1 rfl rfl 6 (by decide) ((nf_18 hK.2).use rfl) (fun _ h9 => h9) rfl dX7_tie_44 ?_
        exact hRet _ _ _ _ _ _ _ _ hf hP hS dX7_tie_47
      · have hf := iq c_5 hf
        refine lv_bipush (v := (-3)) hx hb dX7_tie_28 (by decide) ?_
        exact hRet _ _ _ _ _ _ _ _ hf hP hS dX7_tie_30
  · have hf := iq c_3 hf
    refine lv_bipush (v := (-10)) hx hb dX7_tie_13 (by decide) ?_
    refine lv_iload_n hx hb dX7_tie_15 rfl (lv_at hl 0 rfl) ?_
    refine lv_isub hx hb dX7_tie_16 ?_
    exact hRet _ _ _ _ _ _ _ _ hf hP hS dX7_tie_17
theorem calX7_cut : CalV yX7_cut cX7_cut 3 (some .int) 1 := ⟨⟨kw_24_5, kw_1_2, by decide +kernel⟩, kw_24_3, kw_24_4⟩
set_option maxHeartbeats 8000000 in
set_option maxRecDepth 100000 in
theorem ctX7_cut (l : Launch) (G : GT) (t_h : Nat) (t_a : Nat → Nat) (now_h : Nat) (now_a : Nat → Nat) (rd_h : Nat) (sp_h : Nat) (wy_h : Nat) (gp_h : Nat) (ch_h : Nat) (sb_h : Nat) (now_windows : Int32) (now_washes : Int32) (now_damp : Int32) (now_heard : Int32) (now_lines : Int32) (now_hour : Int32) (now_strings : Int32) (now_pairs : Nat → Int32) (now_knots : Nat → Int32) (v1 : Int32) (r : Int32) (o_now_strings : Int32) (o_now_pairs : Nat → Int32) (o_now_knots : Nat → Int32) (hf : fX7_cut now_strings now_pairs now_knots v1 = some (r, o_now_strings, o_now_pairs, o_now_knots)) : WrI l yX7_cut (Cond.code yX7_cut cX7_cut 3 (some .int)) { frames := 1, cells := 0, slots := 0, locals := 22 } G [.ref t_h, .int v1] [oX7 t_h t_a rd_h now_h sp_h wy_h gp_h ch_h sb_h, oX1 now_h now_a now_windows now_washes now_damp now_heard now_lines now_hour now_strings, arI G (now_a 10) 21 now_pairs, arI G (now_a 11) 21 now_knots] [oX7 t_h t_a rd_h now_h sp_h wy_h gp_h ch_h sb_h, oX1 now_h now_a now_windows now_washes now_damp now_heard now_lines now_hour o_now_strings, arI G (now_a 10) 21 o_now_pairs, arI G (now_a 11) 21 o_now_knots] r := by
  intro sz
  refine Met.ofW (cc := cX7_cut) (maxL := 3) (ret := (some .int)) (by decide) rfl ?_
  intro p e s m args below meth c s₁ B hml hv
  obtain ⟨hargs, hsz, hP, hD0, hK⟩ := hv
  subst hsz
  obtain ⟨hx, hb, hr, hw, hown, hlk⟩ := fwB B
  refine fw_enter hargs (Nat.le_of_ble_eq_true rfl) (fun ls hl => ?_)
  have hl : lv_has ls 3 [(0, .ref t_h), (1, .int v1)] := hl
  refine fw_Q (P := fun Q => ∃ A : Nat → Prop, va_D A [oX7 t_h t_a rd_h now_h sp_h wy_h gp_h ch_h sb_h, oX1 now_h now_a now_windows now_washes now_damp now_heard now_lines now_hour now_strings, arI G (now_a 10) 21 now_pairs, arI G (now_a 11) 21 now_knots] ∧ va_S A s.heap s.heap [] ∧ (∀ q, s.heap.size ≤ q → A q) ∧ ∀ (v : Int32) (n_now_strings : Int32) (n_now_pairs : Nat → Int32) (n_now_knots : Nat → Int32) (H : Heap) (locs : List Loc) (pc : Nat) (ls : Array Slot), some (v, n_now_strings, n_now_pairs, n_now_knots) = some (r, o_now_strings, o_now_pairs, o_now_knots) → va_P G.1 vwCl [oX7 t_h t_a rd_h now_h sp_h wy_h gp_h ch_h sb_h, oX1 now_h now_a now_windows now_washes now_damp now_heard now_lines now_hour n_now_strings, arI G (now_a 10) 21 n_now_pairs, arI G (now_a 11) 21 n_now_knots] H → va_S A s.heap H locs → decode cX7_cut pc = .ok (.ireturn, 1) → W p l e ({ frames := 1, cells := 0, slots := 0, locals := 22 } : Room) s m args below meth c H locs 0 0 Q (F0 m pc ls [.int v])) ⟨va_A [oX7 t_h t_a rd_h now_h sp_h wy_h gp_h ch_h sb_h, oX1 now_h now_a now_windows now_washes now_damp now_heard now_lines now_hour now_strings, arI G (now_a 10) 21 now_pairs, arI G (now_a 11) 21 now_knots] s.heap.size, hD0.self (sz := s.heap.size), va_S.rf, fun q h => Or.inr h, ?_⟩ ?_
  · intro v n_now_strings n_now_pairs n_now_knots H locs pc ls h hP hS hd
    cases h
    exact retWI hx hb hr hlk hS hP rfl hd
  rintro Q ⟨A, hD, hS, hA, hRet⟩
  change W p l e ({ frames := 1, cells := 0, slots := 0, locals := 22 } : Room) s m args below meth c _ _ 0 0 Q _
  unfold fX7_cut at hf
  refine lv_aload_n hx hb dX7_cut_0 rfl (lv_at hl 0 rfl) ?_
  refine va_get (D := G.1) (ci := 7) (v := .ref now_h) (C := RX7) (T := TX7) (N := 10) hx hb hw inW7 hown hK.1 hP 0 rfl rfl 1 (by decide) (hw _ kw_1_20) (fun _ h9 => h9) rfl dX7_cut_1 ?_
  refine lv_iload_n hx hb dX7_cut_4 rfl (lv_at hl 1 rfl) ?_
  obtain ⟨r_1, hc_2, hf⟩ := bd1_in hf
  refine rcI (va_runV (As := [.int v1]) (rest := []) ⟨hx, hb, hml, hown, hw⟩ ((ctX1_indexOf l G now_h now_a now_windows now_washes now_damp now_heard now_lines now_hour now_strings now_pairs v1 _ hc_2) _) (kV hw calX1_indexOf kw_21_22 rfl rfl ⟨Nat.le_of_ble_eq_true rfl, Nat.le_of_ble_eq_true rfl⟩) (rpV (hP.sub (ws' := [oX1 now_h now_a now_windows now_washes now_damp now_heard now_lines now_hour now_strings, arI G (now_a 10) 21 now_pairs]) [1, 2] rfl) hK (ci := 1) (q0 := 0) rfl rfl) rfl rfl hl.1 rfl (lv_room (Nat.le_of_ble_eq_true rfl)) dX7_cut_5 ⟨Nat.zero_le _, Nat.zero_le _⟩) hS hA hP (fun H locs hP hS => ?_)
  refine lv_istore_n (lv' := [(2, .int r_1), (0, .ref t_h), (1, .int v1)]) hx hb dX7_cut_8 rfl hl (by decide) rfl (fun ls hl => ?_)
  refine lv_iload_n hx hb dX7_cut_9 rfl (lv_at hl 0 rfl) ?_
  refine lv_iconst (v := (-1)) hx hb dX7_cut_10 (by decide) ?_
  refine lv_icmp_ne (tgt := 17) hx hb dX7_cut_11 (by decide) (fun c_3 => ?_) (fun c_3 => ?_)
  · have hf := iq c_3 hf
    refine lv_aload_n hx hb dX7_cut_17 rfl (lv_at hl 1 rfl) ?_
    refine va_get (D := G.1) (ci := 7) (v := .ref now_h) (C := RX7) (T := TX7) (N := 10) hx hb hw inW7 hown hK.1 hP 0 rfl rfl 1 (by decide) (hw _ kw_1_20) (fun _ h9 => h9) rfl dX7_cut_18 ?_
    refine lv_iload_n hx hb dX7_cut_21 rfl (lv_at hl 0 rfl) ?_
    obtain ⟨now_strings_4, now_pairs_5, now_knots_6, hc_7, hf⟩ := bd3_in hf
    refine wcV (w1 := [oX1 now_h now_a now_windows now_washes now_damp now_heard now_lines now_hour now_strings_4, arI G (now_a 10) 21 now_pairs_5, arI G (now_a 11) 21 now_knots_6]) (va_runV (As := [.int r_1]) (rest := []) ⟨hx, hb, hml, hown, hw⟩ ((ctX1_removeString l G now_h now_a now_windows now_washes now_damp now_heard now_lines now_hour now_strings now_pairs now_knots r_1 _ _ _ hc_7) _) (kV hw calX1_removeString kw_24_6 rfl rfl ⟨Nat.le_of_ble_eq_true rfl, Nat.le_of_ble_eq_true rfl⟩) (wpV (hP.sub (ws' := [oX1 now_h now_a now_windows now_washes now_damp now_heard now_lines now_hour now_strings, arI G (now_a 10) 21 now_pairs, arI G (now_a 11) 21 now_knots]) [1, 2, 3] rfl) (hD.sub (ws' := [oX1 now_h now_a now_windows now_washes now_damp now_heard now_lines now_hour now_strings, arI G (now_a 10) 21 now_pairs, arI G (now_a 11) 21 now_knots]) [1, 2, 3] (by decide) rfl) hK (ci := 1) (q0 := 0) rfl rfl) rfl rfl hl.1 rfl (lv_room (Nat.le_of_ble_eq_true rfl)) dX7_cut_22 ⟨Nat.zero_le _, Nat.zero_le _⟩) hS hA hP hD [1, 2, 3] rfl rfl (fun H locs hP hD hS => ?_)
    have hP : va_P G.1 vwCl [oX7 t_h t_a rd_h now_h sp_h wy_h gp_h ch_h sb_h, oX1 now_h now_a now_windows now_washes now_damp now_heard now_lines now_hour now_strings_4, arI G (now_a 10) 21 now_pairs_5, arI G (now_a 11) 21 now_knots_6] H := hP
    have hD : va_D A [oX7 t_h t_a rd_h now_h sp_h wy_h gp_h ch_h sb_h, oX1 now_h now_a now_windows now_washes now_damp now_heard now_lines now_hour now_strings_4, arI G (now_a 10) 21 now_pairs_5, arI G (now_a 11) 21 now_knots_6] := hD
    refine lv_aload_n hx hb dX7_cut_25 rfl (lv_at hl 1 rfl) ?_
    refine va_get (D := G.1) (ci := 7) (v := .ref now_h) (C := RX7) (T := TX7) (N := 10) hx hb hw inW7 hown hK.1 hP 0 rfl rfl 1 (by decide) (hw _ kw_1_20) (fun _ h9 => h9) rfl dX7_cut_26 ?_
    refine va_getN (D := G.1) (ci := 1) (v := .int now_strings_4) (C := RX1) (T := TX1) (N := 12) hx hb hw inW1 hown hK.1 hP 1 rfl rfl 6 (by decide) ((nf_18 hK.2).use rfl) (fun _ h9 => h9) rfl dX7_cut_29 ?_
    exact hRet _ _ _ _ _ _ _ _ hf hP hS dX7_cut_32
  · have hf := ip c_3 hf
    refine lv_bipush (v := (-2)) hx hb dX7_cut_14 (by decide) ?_
    exact hRet _ _ _ _ _ _ _ _ hf hP hS dX7_cut_16
theorem calX7_knot : CalV yX7_knot cX7_knot 3 (some .int) 1 := ⟨⟨kw_24_17, kw_1_2, by decide +kernel⟩, kw_24_15, kw_24_16⟩
set_option maxHeartbeats 8000000 in
set_option maxRecDepth 100000 in
theorem ctX7_knot (l : Launch) (G : GT) (t_h : Nat) (t_a : Nat → Nat) (now_h : Nat) (now_a : Nat → Nat) (rd_h : Nat) (sp_h : Nat) (wy_h : Nat) (gp_h : Nat) (ch_h : Nat) (sb_h : Nat) (now_windows : Int32) (now_washes : Int32) (now_damp : Int32) (now_heard : Int32) (now_lines : Int32) (now_hour : Int32) (now_strings : Int32) (now_pairs : Nat → Int32) (now_knots : Nat → Int32) (v1 : Int32) (r : Int32) (o_now_knots : Nat → Int32) (hf : fX7_knot now_strings now_pairs now_knots v1 = some (r, o_now_knots)) : WrI l yX7_knot (Cond.code yX7_knot cX7_knot 3 (some .int)) { frames := 1, cells := 0, slots := 0, locals := 22 } G [.ref t_h, .int v1] [oX7 t_h t_a rd_h now_h sp_h wy_h gp_h ch_h sb_h, oX1 now_h now_a now_windows now_washes now_damp now_heard now_lines now_hour now_strings, arI G (now_a 10) 21 now_pairs, arI G (now_a 11) 21 now_knots] [oX7 t_h t_a rd_h now_h sp_h wy_h gp_h ch_h sb_h, oX1 now_h now_a now_windows now_washes now_damp now_heard now_lines now_hour now_strings, arI G (now_a 10) 21 now_pairs, arI G (now_a 11) 21 o_now_knots] r := by
  intro sz
  refine Met.ofW (cc := cX7_knot) (maxL := 3) (ret := (some .int)) (by decide) rfl ?_
  intro p e s m args below meth c s₁ B hml hv
  obtain ⟨hargs, hsz, hP, hD0, hK⟩ := hv
  subst hsz
  obtain ⟨hx, hb, hr, hw, hown, hlk⟩ := fwB B
  refine fw_enter hargs (Nat.le_of_ble_eq_true rfl) (fun ls hl => ?_)
  have hl : lv_has ls 3 [(0, .ref t_h), (1, .int v1)] := hl
  refine fw_Q (P := fun Q => ∃ A : Nat → Prop, va_D A [oX7 t_h t_a rd_h now_h sp_h wy_h gp_h ch_h sb_h, oX1 now_h now_a now_windows now_washes now_damp now_heard now_lines now_hour now_strings, arI G (now_a 10) 21 now_pairs, arI G (now_a 11) 21 now_knots] ∧ va_S A s.heap s.heap [] ∧ (∀ q, s.heap.size ≤ q → A q) ∧ ∀ (v : Int32) (n_now_knots : Nat → Int32) (H : Heap) (locs : List Loc) (pc : Nat) (ls : Array Slot), some (v, n_now_knots) = some (r, o_now_knots) → va_P G.1 vwCl [oX7 t_h t_a rd_h now_h sp_h wy_h gp_h ch_h sb_h, oX1 now_h now_a now_windows now_washes now_damp now_heard now_lines now_hour now_strings, arI G (now_a 10) 21 now_pairs, arI G (now_a 11) 21 n_now_knots] H → va_S A s.heap H locs → decode cX7_knot pc = .ok (.ireturn, 1) → W p l e ({ frames := 1, cells := 0, slots := 0, locals := 22 } : Room) s m args below meth c H locs 0 0 Q (F0 m pc ls [.int v])) ⟨va_A [oX7 t_h t_a rd_h now_h sp_h wy_h gp_h ch_h sb_h, oX1 now_h now_a now_windows now_washes now_damp now_heard now_lines now_hour now_strings, arI G (now_a 10) 21 now_pairs, arI G (now_a 11) 21 now_knots] s.heap.size, hD0.self (sz := s.heap.size), va_S.rf, fun q h => Or.inr h, ?_⟩ ?_
  · intro v n_now_knots H locs pc ls h hP hS hd
    cases h
    exact retWI hx hb hr hlk hS hP rfl hd
  rintro Q ⟨A, hD, hS, hA, hRet⟩
  change W p l e ({ frames := 1, cells := 0, slots := 0, locals := 22 } : Room) s m args below meth c _ _ 0 0 Q _
  unfold fX7_knot at hf
  refine lv_aload_n hx hb dX7_knot_0 rfl (lv_at hl 0 rfl) ?_
  refine va_get (D := G.1) (ci := 7) (v := .ref now_h) (C := RX7) (T := TX7) (N := 10) hx hb hw inW7 hown hK.1 hP 0 rfl rfl 1 (by decide) (hw _ kw_1_20) (fun _ h9 => h9) rfl dX7_knot_1 ?_
  refine lv_iload_n hx hb dX7_knot_4 rfl (lv_at hl 1 rfl) ?_
  obtain ⟨r_1, hc_2, hf⟩ := bd1_in hf
  refine rcI (va_runV (As := [.int v1]) (rest := []) ⟨hx, hb, hml, hown, hw⟩ ((ctX1_indexOf l G now_h now_a now_windows now_washes now_damp now_heard now_lines now_hour now_strings now_pairs v1 _ hc_2) _) (kV hw calX1_indexOf kw_21_22 rfl rfl ⟨Nat.le_of_ble_eq_true rfl, Nat.le_of_ble_eq_true rfl⟩) (rpV (hP.sub (ws' := [oX1 now_h now_a now_windows now_washes now_damp now_heard now_lines now_hour now_strings, arI G (now_a 10) 21 now_pairs]) [1, 2] rfl) hK (ci := 1) (q0 := 0) rfl rfl) rfl rfl hl.1 rfl (lv_room (Nat.le_of_ble_eq_true rfl)) dX7_knot_5 ⟨Nat.zero_le _, Nat.zero_le _⟩) hS hA hP (fun H locs hP hS => ?_)
  refine lv_istore_n (lv' := [(2, .int r_1), (0, .ref t_h), (1, .int v1)]) hx hb dX7_knot_8 rfl hl (by decide) rfl (fun ls hl => ?_)
  refine lv_iload_n hx hb dX7_knot_9 rfl (lv_at hl 0 rfl) ?_
  refine lv_iconst (v := (-1)) hx hb dX7_knot_10 (by decide) ?_
  refine lv_icmp_ne (tgt := 17) hx hb dX7_knot_11 (by decide) (fun c_3 => ?_) (fun c_3 => ?_)
  · have hf := iq c_3 hf
    refine lv_aload_n hx hb dX7_knot_17 rfl (lv_at hl 1 rfl) ?_
    refine va_get (D := G.1) (ci := 7) (v := .ref now_h) (C := RX7) (T := TX7) (N := 10) hx hb hw inW7 hown hK.1 hP 0 rfl rfl 1 (by decide) (hw _ kw_1_20) (fun _ h9 => h9) rfl dX7_knot_18 ?_
    refine va_getN (D := G.1) (ci := 1) (v := .ref (now_a 11)) (C := RX1) (T := TX1) (N := 12) hx hb hw inW1 hown hK.1 hP 1 rfl rfl 11 (by decide) ((nf_25 hK.2).use rfl) (fun _ h9 => h9) rfl dX7_knot_21 ?_
    refine lv_iload_n hx hb dX7_knot_24 rfl (lv_at hl 0 rfl) ?_
    obtain ⟨hi_5, hf⟩ := rdI_in hf
    refine va_iald hx hb hK.1 hP 3 0 rfl rfl hi_5 dX7_knot_25 ?_
    refine lv_topi (fun x_4 ex_4 => ?_)
    have hf := hf x_4 ex_4
    refine lv_bipush (v := 9) hx hb dX7_knot_26 (by decide) ?_
    refine lv_icmp_lt (tgt := 34) hx hb dX7_knot_28 (by decide) (fun c_6 => ?_) (fun c_6 => ?_)
    · have hf := ip c_6 hf
      refine lv_aload_n hx hb dX7_knot_34 rfl (lv_at hl 1 rfl) ?_
      refine va_get (D := G.1) (ci := 7) (v := .ref now_h) (C := RX7) (T := TX7) (N := 10) hx hb hw inW7 hown hK.1 hP 0 rfl rfl 1 (by decide) (hw _ kw_1_20) (fun _ h9 => h9) rfl dX7_knot_35 ?_
      refine va_getN (D := G.1) (ci := 1) (v := .ref (now_a 11)) (C := RX1) (T := TX1) (N := 12) hx hb hw inW1 hown hK.1 hP 1 rfl rfl 11 (by decide) ((nf_25 hK.2).use rfl) (fun _ h9 => h9) rfl dX7_knot_38 ?_
      refine lv_iload_n hx hb dX7_knot_41 rfl (lv_at hl 0 rfl) ?_
      refine lv_dup2_11 hx hb dX7_knot_42 rfl rfl ?_
      obtain ⟨hi_8, hf⟩ := rdI_in hf
      refine va_iald hx hb hK.1 hP 3 0 rfl rfl hi_8 dX7_knot_43 ?_
      refine lv_topi (fun x_7 ex_7 => ?_)
      have hf := hf x_7 ex_7
      refine lv_iconst (v := 1) hx hb dX7_knot_44 (by decide) ?_
      refine lv_iadd hx hb dX7_knot_45 ?_
      obtain ⟨hi_10, hf⟩ := wrI_in hf
      refine xiast hx hb hK.1 hP hD hS 3 0 rfl rfl hi_10 dX7_knot_46 (fun now_knots_9 H locs enow_knots_9 hP hD hS => ?_)
      have hf := hf now_knots_9 enow_knots_9
      have hP : va_P G.1 vwCl [oX7 t_h t_a rd_h now_h sp_h wy_h gp_h ch_h sb_h, oX1 now_h now_a now_windows now_washes now_damp now_heard now_lines now_hour now_strings, arI G (now_a 10) 21 now_pairs, arI G (now_a 11) 21 now_knots_9] H := hP
      have hD : va_D A [oX7 t_h t_a rd_h now_h sp_h wy_h gp_h ch_h sb_h, oX1 now_h now_a now_windows now_washes now_damp now_heard now_lines now_hour now_strings, arI G (now_a 10) 21 now_pairs, arI G (now_a 11) 21 now_knots_9] := hD
      refine lv_aload_n hx hb dX7_knot_47 rfl (lv_at hl 1 rfl) ?_
      refine va_get (D := G.1) (ci := 7) (v := .ref now_h) (C := RX7) (T := TX7) (N := 10) hx hb hw inW7 hown hK.1 hP 0 rfl rfl 1 (by decide) (hw _ kw_1_20) (fun _ h9 => h9) rfl dX7_knot_48 ?_
      refine va_getN (D := G.1) (ci := 1) (v := .ref (now_a 11)) (C := RX1) (T := TX1) (N := 12) hx hb hw inW1 hown hK.1 hP 1 rfl rfl 11 (by decide) ((nf_25 hK.2).use rfl) (fun _ h9 => h9) rfl dX7_knot_51 ?_
      refine lv_iload_n hx hb dX7_knot_54 rfl (lv_at hl 0 rfl) ?_
      obtain ⟨hi_12, hf⟩ := rdI_in hf
      refine va_iald hx hb hK.1 hP 3 0 rfl rfl hi_12 dX7_knot_55 ?_
      refine lv_topi (fun x_11 ex_11 => ?_)
      have hf := hf x_11 ex_11
      exact hRet _ _ _ _ _ _ hf hP hS dX7_knot_56
    · have hf := iq c_6 hf
      refine lv_bipush (v := (-4)) hx hb dX7_knot_31 (by decide) ?_
      exact hRet _ _ _ _ _ _ hf hP hS dX7_knot_33
  · have hf := ip c_3 hf
    refine lv_bipush (v := (-2)) hx hb dX7_knot_14 (by decide) ?_
    exact hRet _ _ _ _ _ _ hf hP hS dX7_knot_16
theorem calX7_isRow : CalS yX7_isRow cX7_isRow 1 (some .boolean) 1 := ⟨⟨kw_25_8, kw_1_2, by decide +kernel⟩, kw_25_7⟩
set_option maxHeartbeats 8000000 in
set_option maxRecDepth 100000 in
theorem ctX7_isRow (l : Launch) (G : GT) (v0 : Int32) (r : Int32) (hf : fX7_isRow v0 = some r) : RdI l yX7_isRow (Cond.code yX7_isRow cX7_isRow 1 (some .boolean)) { frames := 0, cells := 0, slots := 0, locals := 0 } G [.int v0] [] r := by
  intro sz
  refine Met.ofW (cc := cX7_isRow) (maxL := 1) (ret := (some .boolean)) (by decide) rfl ?_
  intro p e s m args below meth c s₁ B hml hv
  obtain ⟨hargs, hsz, hP, hK⟩ := hv
  subst hsz
  obtain ⟨hx, hb, hr, hw, hown, hlk⟩ := fwB B
  refine fw_enter hargs (Nat.le_of_ble_eq_true rfl) (fun ls hl => ?_)
  have hl : lv_has ls 1 [(0, .int v0)] := hl
  refine fw_Q (P := fun Q => ∃ A : Nat → Prop, va_S A s.heap s.heap [] ∧ (∀ q, s.heap.size ≤ q → A q) ∧ ∀ (v : Int32) (H : Heap) (locs : List Loc) (pc : Nat) (ls : Array Slot), some v = some r → va_S A s.heap H locs → narrow .boolean (.int v) = .int v → decode cX7_isRow pc = .ok (.ireturn, 1) → W p l e ({ frames := 0, cells := 0, slots := 0, locals := 0 } : Room) s m args below meth c H locs 0 0 Q (F0 m pc ls [.int v])) ⟨fun q => s.heap.size ≤ q, va_S.rf, fun q h => h, fun v H locs pc ls h hS hn hd => retRZ hx hb hr hlk hS hn h hd⟩ ?_
  rintro Q ⟨A, hS, hA, hRet⟩
  change W p l e ({ frames := 0, cells := 0, slots := 0, locals := 0 } : Room) s m args below meth c _ _ 0 0 Q _
  unfold fX7_isRow at hf
  refine lv_iload_n hx hb dX7_isRow_0 rfl (lv_at hl 0 rfl) ?_
  refine lv_if_lt (tgt := 13) hx hb dX7_isRow_1 (by decide) (fun c_1 => ?_) (fun c_1 => ?_)
  · have hf := ip c_1 hf
    refine lv_iconst (v := 0) hx hb dX7_isRow_13 (by decide) ?_
    exact hRet _ _ _ _ _ hf hS (by decide +kernel) dX7_isRow_14
  · have hf := iq c_1 hf
    refine lv_iload_n hx hb dX7_isRow_4 rfl (lv_at hl 0 rfl) ?_
    refine lv_iconst (v := 4) hx hb dX7_isRow_5 (by decide) ?_
    refine lv_icmp_ge (tgt := 13) hx hb dX7_isRow_6 (by decide) (fun c_2 => ?_) (fun c_2 => ?_)
    · have hf := ip c_2 hf
      refine lv_iconst (v := 0) hx hb dX7_isRow_13 (by decide) ?_
      exact hRet _ _ _ _ _ hf hS (by decide +kernel) dX7_isRow_14
    · have hf := iq c_2 hf
      refine lv_iconst (v := 1) hx hb dX7_isRow_9 (by decide) ?_
      refine lv_goto (tgt := 14) hx hb dX7_isRow_10 (by decide) ?_
      exact hRet _ _ _ _ _ hf hS (by decide +kernel) dX7_isRow_14
theorem calX7_rowRefusal : CalV yX7_rowRefusal cX7_rowRefusal 2 (some .int) 1 := ⟨⟨kw_25_5, kw_1_2, by decide +kernel⟩, kw_25_3, kw_25_4⟩
set_option maxHeartbeats 8000000 in
set_option maxRecDepth 100000 in
theorem ctX7_rowRefusal (l : Launch) (G : GT) (t_h : Nat) (t_a : Nat → Nat) (row_h : Nat) (row_a : Nat → Nat) (rd_h : Nat) (now_h : Nat) (sp_h : Nat) (wy_h : Nat) (gp_h : Nat) (ch_h : Nat) (sb_h : Nat) (t_rows : Nat → Option Nat) (row_sort : Int32) (row_size : Int32) (v1 : Int32) (h_row : vp_in v1 4 → va_rf (t_rows v1.toNatClampNeg) = .ref row_h) (r : Int32) (hf : fX7_rowRefusal row_size v1 = some r) : RdI l yX7_rowRefusal (Cond.code yX7_rowRefusal cX7_rowRefusal 2 (some .int)) { frames := 1, cells := 0, slots := 0, locals := 20 } G [.ref t_h, .int v1] [oX7 t_h t_a rd_h now_h sp_h wy_h gp_h ch_h sb_h, arR G (t_a 7) 4 t_rows, oX4 row_h row_a row_sort row_size] r := by
  intro sz
  refine Met.ofW (cc := cX7_rowRefusal) (maxL := 2) (ret := (some .int)) (by decide) rfl ?_
  intro p e s m args below meth c s₁ B hml hv
  obtain ⟨hargs, hsz, hP, hK⟩ := hv
  subst hsz
  obtain ⟨hx, hb, hr, hw, hown, hlk⟩ := fwB B
  refine fw_enter hargs (Nat.le_of_ble_eq_true rfl) (fun ls hl => ?_)
  have hl : lv_has ls 2 [(0, .ref t_h), (1, .int v1)] := hl
  refine fw_Q (P := fun Q => ∃ A : Nat → Prop, va_S A s.heap s.heap [] ∧ (∀ q, s.heap.size ≤ q → A q) ∧ ∀ (v : Int32) (H : Heap) (locs : List Loc) (pc : Nat) (ls : Array Slot), some v = some r → va_S A s.heap H locs → decode cX7_rowRefusal pc = .ok (.ireturn, 1) → W p l e ({ frames := 1, cells := 0, slots := 0, locals := 20 } : Room) s m args below meth c H locs 0 0 Q (F0 m pc ls [.int v])) ⟨fun q => s.heap.size ≤ q, va_S.rf, fun q h => h, fun v H locs pc ls h hS hd => retRI hx hb hr hlk hS h hd⟩ ?_
  rintro Q ⟨A, hS, hA, hRet⟩
  change W p l e ({ frames := 1, cells := 0, slots := 0, locals := 20 } : Room) s m args below meth c _ _ 0 0 Q _
  unfold fX7_rowRefusal at hf
  refine lv_iload_n hx hb dX7_rowRefusal_0 rfl (lv_at hl 1 rfl) ?_
  obtain ⟨r_1, hc_2, hf⟩ := bd1_in hf
  refine rcI (va_runS (As := [.int v1]) (rest := []) ⟨hx, hb, hml, hown, hw⟩ ((ctX7_isRow l G v1 _ hc_2) _) (kS hw calX7_isRow kw_25_6 rfl rfl ⟨Nat.le_of_ble_eq_true rfl, Nat.le_of_ble_eq_true rfl⟩) (rpS (hP.sub (ws' := []) [] rfl) hK) rfl rfl hl.1 rfl (lv_room (Nat.le_of_ble_eq_true rfl)) dX7_rowRefusal_1 ⟨Nat.zero_le _, Nat.zero_le _⟩) hS hA hP (fun H locs hP hS => ?_)
  refine lv_if_ne (tgt := 10) hx hb dX7_rowRefusal_4 (by decide) (fun c_3 => ?_) (fun c_3 => ?_)
  · have hf := iq c_3 hf
    refine lv_aload_n hx hb dX7_rowRefusal_10 rfl (lv_at hl 0 rfl) ?_
    refine va_get (D := G.1) (ci := 7) (v := .ref (t_a 7)) (C := RX7) (T := TX7) (N := 10) hx hb hw inW7 hown hK.1 hP 0 rfl rfl 7 (by decide) (hw _ kw_2_15) (fun _ h9 => h9) rfl dX7_rowRefusal_11 ?_
    refine lv_iload_n hx hb dX7_rowRefusal_14 rfl (lv_at hl 1 rfl) ?_
    obtain ⟨hi_q, hf⟩ := ckI_in hf
    refine va_aldq hx hb hK.1 hP 1 5 rfl rfl hi_q dX7_rowRefusal_15 ?_
    rw [h_row hi_q]
    refine va_getN (D := G.1) (ci := 4) (v := .int row_size) (C := RX4) (T := TX4) (N := 3) hx hb hw inW4 hown hK.1 hP 2 rfl rfl 2 (by decide) ((nf_39 hK.2).use rfl) (fun _ h9 => h9) rfl dX7_rowRefusal_16 ?_
    refine lv_iconst (v := (-1)) hx hb dX7_rowRefusal_19 (by decide) ?_
    refine lv_icmp_ne (tgt := 28) hx hb dX7_rowRefusal_20 (by decide) (fun c_4 => ?_) (fun c_4 => ?_)
    · have hf := iq c_4 hf
      refine lv_iconst (v := 0) hx hb dX7_rowRefusal_28 (by decide) ?_
      exact hRet _ _ _ _ _ hf hS dX7_rowRefusal_29
    · have hf := ip c_4 hf
      refine lv_bipush (v := (-6)) hx hb dX7_rowRefusal_23 (by decide) ?_
      refine lv_goto (tgt := 29) hx hb dX7_rowRefusal_25 (by decide) ?_
      exact hRet _ _ _ _ _ hf hS dX7_rowRefusal_29
  · have hf := ip c_3 hf
    refine lv_bipush (v := (-2)) hx hb dX7_rowRefusal_7 (by decide) ?_
    exact hRet _ _ _ _ _ hf hS dX7_rowRefusal_9
theorem calX7_tieAll : CalV yX7_tieAll cX7_tieAll 8 (some .int) 1 := ⟨⟨kw_25_1, kw_1_2, by decide +kernel⟩, kw_24_23, kw_25_0⟩
set_option maxHeartbeats 8000000 in
set_option maxRecDepth 100000 in
theorem ctX7_tieAll (l : Launch) (G : GT) (t_h : Nat) (t_a : Nat → Nat) (now_h : Nat) (now_a : Nat → Nat) (row_h : Nat) (row_a : Nat → Nat) (rd_h : Nat) (sp_h : Nat) (wy_h : Nat) (gp_h : Nat) (ch_h : Nat) (sb_h : Nat) (t_rows : Nat → Option Nat) (now_windows : Int32) (now_washes : Int32) (now_damp : Int32) (now_heard : Int32) (now_lines : Int32) (now_hour : Int32) (now_strings : Int32) (now_cans : Nat → Int32) (now_pairs : Nat → Int32) (now_knots : Nat → Int32) (row_values : Nat → Int64) (row_sort : Int32) (row_size : Int32) (v1 : Int32) (h_row : vp_in v1 4 → va_rf (t_rows v1.toNatClampNeg) = .ref row_h) (r : Int32) (o_now_strings : Int32) (o_now_pairs : Nat → Int32) (o_now_knots : Nat → Int32) (hf : fX7_tieAll now_windows now_strings now_cans now_pairs now_knots row_values row_size v1 = some (r, o_now_strings, o_now_pairs, o_now_knots)) : WrI l yX7_tieAll (Cond.code yX7_tieAll cX7_tieAll 8 (some .int)) { frames := 3, cells := 0, slots := 0, locals := 70 } G [.ref t_h, .int v1] [oX7 t_h t_a rd_h now_h sp_h wy_h gp_h ch_h sb_h, arR G (t_a 7) 4 t_rows, oX1 now_h now_a now_windows now_washes now_damp now_heard now_lines now_hour now_strings, arI G (now_a 7) 12 now_cans, arI G (now_a 10) 21 now_pairs, arI G (now_a 11) 21 now_knots, oX4 row_h row_a row_sort row_size, arJ G (row_a 0) 40 row_values] [oX7 t_h t_a rd_h now_h sp_h wy_h gp_h ch_h sb_h, arR G (t_a 7) 4 t_rows, oX1 now_h now_a now_windows now_washes now_damp now_heard now_lines now_hour o_now_strings, arI G (now_a 7) 12 now_cans, arI G (now_a 10) 21 o_now_pairs, arI G (now_a 11) 21 o_now_knots, oX4 row_h row_a row_sort row_size, arJ G (row_a 0) 40 row_values] r := by
  intro sz
  refine Met.ofW (cc := cX7_tieAll) (maxL := 8) (ret := (some .int)) (by decide) rfl ?_
  intro p e s m args below meth c s₁ B hml hv
  obtain ⟨hargs, hsz, hP, hD0, hK⟩ := hv
  subst hsz
  obtain ⟨hx, hb, hr, hw, hown, hlk⟩ := fwB B
  refine fw_enter hargs (Nat.le_of_ble_eq_true rfl) (fun ls hl => ?_)
  have hl : lv_has ls 8 [(0, .ref t_h), (1, .int v1)] := hl
  refine fw_Q (P := fun Q => ∃ A : Nat → Prop, va_D A [oX7 t_h t_a rd_h now_h sp_h wy_h gp_h ch_h sb_h, arR G (t_a 7) 4 t_rows, oX1 now_h now_a now_windows now_washes now_damp now_heard now_lines now_hour now_strings, arI G (now_a 7) 12 now_cans, arI G (now_a 10) 21 now_pairs, arI G (now_a 11) 21 now_knots, oX4 row_h row_a row_sort row_size, arJ G (row_a 0) 40 row_values] ∧ va_S A s.heap s.heap [] ∧ (∀ q, s.heap.size ≤ q → A q) ∧ ∀ (v : Int32) (n_now_strings : Int32) (n_now_pairs : Nat → Int32) (n_now_knots : Nat → Int32) (H : Heap) (locs : List Loc) (pc : Nat) (ls : Array Slot), some (v, n_now_strings, n_now_pairs, n_now_knots) = some (r, o_now_strings, o_now_pairs, o_now_knots) → va_P G.1 vwCl [oX7 t_h t_a rd_h now_h sp_h wy_h gp_h ch_h sb_h, arR G (t_a 7) 4 t_rows, oX1 now_h now_a now_windows now_washes now_damp now_heard now_lines now_hour n_now_strings, arI G (now_a 7) 12 now_cans, arI G (now_a 10) 21 n_now_pairs, arI G (now_a 11) 21 n_now_knots, oX4 row_h row_a row_sort row_size, arJ G (row_a 0) 40 row_values] H → va_S A s.heap H locs → decode cX7_tieAll pc = .ok (.ireturn, 1) → W p l e ({ frames := 3, cells := 0, slots := 0, locals := 70 } : Room) s m args below meth c H locs 0 0 Q (F0 m pc ls [.int v])) ⟨va_A [oX7 t_h t_a rd_h now_h sp_h wy_h gp_h ch_h sb_h, arR G (t_a 7) 4 t_rows, oX1 now_h now_a now_windows now_washes now_damp now_heard now_lines now_hour now_strings, arI G (now_a 7) 12 now_cans, arI G (now_a 10) 21 now_pairs, arI G (now_a 11) 21 now_knots, oX4 row_h row_a row_sort row_size, arJ G (row_a 0) 40 row_values] s.heap.size, hD0.self (sz := s.heap.size), va_S.rf, fun q h => Or.inr h, ?_⟩ ?_
  · intro v n_now_strings n_now_pairs n_now_knots H locs pc ls h hP hS hd
    cases h
    exact retWI hx hb hr hlk hS hP rfl hd
  rintro Q ⟨A, hD, hS, hA, hRet⟩
  change W p l e ({ frames := 3, cells := 0, slots := 0, locals := 70 } : Room) s m args below meth c _ _ 0 0 Q _
  have L25 : ∀  (K : Int32 → Int32 → (Nat → Int32) → (Nat → Int32) → Option (Int32 × Int32 × (Nat → Int32) × (Nat → Int32))) (n : Nat) (l4 : Int32) (l5 : Int32) (now_strings : Int32) (now_pairs : Nat → Int32) (now_knots : Nat → Int32) (H : Heap) (locs : List Loc) (ls : Array Slot), va_P G.1 vwCl [oX7 t_h t_a rd_h now_h sp_h wy_h gp_h ch_h sb_h, arR G (t_a 7) 4 t_rows, oX1 now_h now_a now_windows now_washes now_damp now_heard now_lines now_hour now_strings, arI G (now_a 7) 12 now_cans, arI G (now_a 10) 21 now_pairs, arI G (now_a 11) 21 now_knots, oX4 row_h row_a row_sort row_size, arJ G (row_a 0) 40 row_values] H → va_D A [oX7 t_h t_a rd_h now_h sp_h wy_h gp_h ch_h sb_h, arR G (t_a 7) 4 t_rows, oX1 now_h now_a now_windows now_washes now_damp now_heard now_lines now_hour now_strings, arI G (now_a 7) 12 now_cans, arI G (now_a 10) 21 now_pairs, arI G (now_a 11) 21 now_knots, oX4 row_h row_a row_sort row_size, arJ G (row_a 0) 40 row_values] → va_S A s.heap H locs → lv_has ls 8 [(0, .ref t_h), (3, .ref row_h), (4, .int l4), (5, .int l5)] → fX7_tieAll_25 now_windows now_cans row_values row_size K n l4 l5 now_strings now_pairs now_knots = some (r, o_now_strings, o_now_pairs, o_now_knots) → (∀ (k4 : Int32) (know_strings : Int32) (know_pairs : Nat → Int32) (know_knots : Nat → Int32) (H : Heap) (locs : List Loc) (ls : Array Slot), va_P G.1 vwCl [oX7 t_h t_a rd_h now_h sp_h wy_h gp_h ch_h sb_h, arR G (t_a 7) 4 t_rows, oX1 now_h now_a now_windows now_washes now_damp now_heard now_lines now_hour know_strings, arI G (now_a 7) 12 now_cans, arI G (now_a 10) 21 know_pairs, arI G (now_a 11) 21 know_knots, oX4 row_h row_a row_sort row_size, arJ G (row_a 0) 40 row_values] H → va_D A [oX7 t_h t_a rd_h now_h sp_h wy_h gp_h ch_h sb_h, arR G (t_a 7) 4 t_rows, oX1 now_h now_a now_windows now_washes now_damp now_heard now_lines now_hour know_strings, arI G (now_a 7) 12 now_cans, arI G (now_a 10) 21 know_pairs, arI G (now_a 11) 21 know_knots, oX4 row_h row_a row_sort row_size, arJ G (row_a 0) 40 row_values] → va_S A s.heap H locs → lv_has ls 8 [(4, .int k4)] → K k4 know_strings know_pairs know_knots = some (r, o_now_strings, o_now_pairs, o_now_knots) → W p l e ({ frames := 3, cells := 0, slots := 0, locals := 70 } : Room) s m args below meth c H locs 0 0 Q (F0 m 87 ls [])) → W p l e ({ frames := 3, cells := 0, slots := 0, locals := 70 } : Room) s m args below meth c H locs 0 0 Q (F0 m 25 ls []) := by
    intro  K n
    induction n with
    | zero => intro l4 l5 now_strings now_pairs now_knots H locs ls hP hD hS hl hf; rw [fX7_tieAll_25] at hf; cases hf
    | succ n ih =>
      intro l4 l5 now_strings now_pairs now_knots H locs ls hP hD hS hl hf hX
      rw [fX7_tieAll_25] at hf
      refine lv_iload hx hb dX7_tieAll_25 (lv_at hl 3 rfl) ?_
      refine lv_aload_n hx hb dX7_tieAll_27 rfl (lv_at hl 1 rfl) ?_
      refine va_getN (D := G.1) (ci := 4) (v := .int row_size) (C := RX4) (T := TX4) (N := 3) hx hb hw inW4 hown hK.1 hP 6 rfl rfl 2 (by decide) ((nf_39 hK.2).use rfl) (fun _ h9 => h9) rfl dX7_tieAll_28 ?_
      refine lv_icmp_ge (tgt := 87) hx hb dX7_tieAll_31 (by decide) (fun c_4 => ?_) (fun c_4 => ?_)
      · have hf := ip c_4 hf
        exact hX _ _ _ _ _ _ _ hP hD hS (lv_sub hl [2] rfl) hf
      · have hf := iq c_4 hf
        refine lv_aload_n hx hb dX7_tieAll_34 rfl (lv_at hl 1 rfl) ?_
        refine lv_iload hx hb dX7_tieAll_35 (lv_at hl 3 rfl) ?_
        obtain ⟨r_5, hc_6, hf⟩ := bd1_in hf
        refine rcL (va_runV (As := [.int l5]) (rest := []) ⟨hx, hb, hml, hown, hw⟩ ((ctX4_numberAt l G row_h row_a row_values row_sort row_size l5 _ hc_6) _) (kV hw calX4_numberAt kw_25_9 rfl rfl ⟨Nat.le_of_ble_eq_true rfl, Nat.le_of_ble_eq_true rfl⟩) (rpV (hP.sub (ws' := [oX4 row_h row_a row_sort row_size, arJ G (row_a 0) 40 row_values]) [6, 7] rfl) hK (ci := 4) (q0 := 0) rfl rfl) rfl rfl hl.1 rfl (lv_room (Nat.le_of_ble_eq_true rfl)) dX7_tieAll_37 ⟨Nat.zero_le _, Nat.zero_le _⟩) hS hA hP (fun H locs hP hS => ?_)
        refine lv_lstore (lv' := [(6, .long r_5), (0, .ref t_h), (3, .ref row_h), (4, .int l4), (5, .int l5)]) hx hb dX7_tieAll_40 hl (by decide) rfl (fun ls hl => ?_)
        refine lv_aload_n hx hb dX7_tieAll_42 rfl (lv_at hl 1 rfl) ?_
        refine va_get (D := G.1) (ci := 7) (v := .ref now_h) (C := RX7) (T := TX7) (N := 10) hx hb hw inW7 hown hK.1 hP 0 rfl rfl 1 (by decide) (hw _ kw_1_20) (fun _ h9 => h9) rfl dX7_tieAll_43 ?_
        refine lv_lload hx hb dX7_tieAll_46 (lv_at hl 0 rfl) ?_
        obtain ⟨r_7, hc_8, hf⟩ := bd1_in hf
        refine rcI (va_runV (As := [.long r_5]) (rest := []) ⟨hx, hb, hml, hown, hw⟩ ((ctX1_hasPair l G now_h now_a now_windows now_washes now_damp now_heard now_lines now_hour now_strings r_5 _ hc_8) _) (kV hw calX1_hasPair kw_21_7 rfl rfl ⟨Nat.le_of_ble_eq_true rfl, Nat.le_of_ble_eq_true rfl⟩) (rpV (hP.sub (ws' := [oX1 now_h now_a now_windows now_washes now_damp now_heard now_lines now_hour now_strings]) [2] rfl) hK (ci := 1) (q0 := 0) rfl rfl) rfl rfl hl.1 rfl (lv_room (Nat.le_of_ble_eq_true rfl)) dX7_tieAll_48 ⟨Nat.zero_le _, Nat.zero_le _⟩) hS hA hP (fun H locs hP hS => ?_)
        refine lv_if_eq (tgt := 81) hx hb dX7_tieAll_51 (by decide) (fun c_9 => ?_) (fun c_9 => ?_)
        · have hf := ip c_9 hf
          refine lv_iinc (v := (l5 + 1)) (lv' := [(5, .int (l5 + 1)), (6, .long r_5), (0, .ref t_h), (3, .ref row_h), (4, .int l4)]) hx hb dX7_tieAll_81 hl (k := 4) rfl (by rfl) (by decide) rfl (fun ls hl => ?_)
          refine lv_goto (tgt := 25) hx hb dX7_tieAll_84 (by decide) ?_
          exact ih _ _ _ _ _ _ _ _ hP hD hS (lv_sub hl [2, 3, 4, 0] rfl) hf hX
        · have hf := iq c_9 hf
          refine lv_aload_n hx hb dX7_tieAll_54 rfl (lv_at hl 1 rfl) ?_
          refine va_get (D := G.1) (ci := 7) (v := .ref now_h) (C := RX7) (T := TX7) (N := 10) hx hb hw inW7 hown hK.1 hP 0 rfl rfl 1 (by decide) (hw _ kw_1_20) (fun _ h9 => h9) rfl dX7_tieAll_55 ?_
          refine lv_lload hx hb dX7_tieAll_58 (lv_at hl 0 rfl) ?_
          refine lv_l2i hx hb dX7_tieAll_60 rfl ?_
          obtain ⟨r_10, hc_11, hf⟩ := bd1_in hf
          refine rcI (va_runV (As := [.int (Int64.toInt32 r_5)]) (rest := []) ⟨hx, hb, hml, hown, hw⟩ ((ctX1_whyNot l G now_h now_a now_windows now_washes now_damp now_heard now_lines now_hour now_strings now_cans now_pairs (Int64.toInt32 r_5) _ hc_11) _) (kV hw calX1_whyNot kw_23_3 rfl rfl ⟨Nat.le_of_ble_eq_true rfl, Nat.le_of_ble_eq_true rfl⟩) (rpV (hP.sub (ws' := [oX1 now_h now_a now_windows now_washes now_damp now_heard now_lines now_hour now_strings, arI G (now_a 7) 12 now_cans, arI G (now_a 10) 21 now_pairs]) [2, 3, 4] rfl) hK (ci := 1) (q0 := 0) rfl rfl) rfl rfl hl.1 rfl (lv_room (Nat.le_of_ble_eq_true rfl)) dX7_tieAll_61 ⟨Nat.zero_le _, Nat.zero_le _⟩) hS hA hP (fun H locs hP hS => ?_)
          refine lv_if_ne (tgt := 81) hx hb dX7_tieAll_64 (by decide) (fun c_12 => ?_) (fun c_12 => ?_)
          · have hf := iq c_12 hf
            refine lv_iinc (v := (l5 + 1)) (lv' := [(5, .int (l5 + 1)), (6, .long r_5), (0, .ref t_h), (3, .ref row_h), (4, .int l4)]) hx hb dX7_tieAll_81 hl (k := 4) rfl (by rfl) (by decide) rfl (fun ls hl => ?_)
            refine lv_goto (tgt := 25) hx hb dX7_tieAll_84 (by decide) ?_
            exact ih _ _ _ _ _ _ _ _ hP hD hS (lv_sub hl [2, 3, 4, 0] rfl) hf hX
          · have hf := ip c_12 hf
            refine lv_aload_n hx hb dX7_tieAll_67 rfl (lv_at hl 1 rfl) ?_
            refine va_get (D := G.1) (ci := 7) (v := .ref now_h) (C := RX7) (T := TX7) (N := 10) hx hb hw inW7 hown hK.1 hP 0 rfl rfl 1 (by decide) (hw _ kw_1_20) (fun _ h9 => h9) rfl dX7_tieAll_68 ?_
            refine lv_lload hx hb dX7_tieAll_71 (lv_at hl 0 rfl) ?_
            refine lv_l2i hx hb dX7_tieAll_73 rfl ?_
            refine lv_iconst (v := 0) hx hb dX7_tieAll_74 (by decide) ?_
            obtain ⟨now_strings_13, now_pairs_14, now_knots_15, hc_16, hf⟩ := bd3_in hf
            refine wcV (w1 := [oX1 now_h now_a now_windows now_washes now_damp now_heard now_lines now_hour now_strings_13, arI G (now_a 10) 21 now_pairs_14, arI G (now_a 11) 21 now_knots_15]) (va_runV (As := [.int (Int64.toInt32 r_5), .int 0]) (rest := []) ⟨hx, hb, hml, hown, hw⟩ ((ctX1_addString l G now_h now_a now_windows now_washes now_damp now_heard now_lines now_hour now_strings now_pairs now_knots (Int64.toInt32 r_5) 0 _ _ _ hc_16) _) (kV hw calX1_addString kw_23_16 rfl rfl ⟨Nat.le_of_ble_eq_true rfl, Nat.le_of_ble_eq_true rfl⟩) (wpV (hP.sub (ws' := [oX1 now_h now_a now_windows now_washes now_damp now_heard now_lines now_hour now_strings, arI G (now_a 10) 21 now_pairs, arI G (now_a 11) 21 now_knots]) [2, 4, 5] rfl) (hD.sub (ws' := [oX1 now_h now_a now_windows now_washes now_damp now_heard now_lines now_hour now_strings, arI G (now_a 10) 21 now_pairs, arI G (now_a 11) 21 now_knots]) [2, 4, 5] (by decide) rfl) hK (ci := 1) (q0 := 0) rfl rfl) rfl rfl hl.1 rfl (lv_room (Nat.le_of_ble_eq_true rfl)) dX7_tieAll_75 ⟨Nat.zero_le _, Nat.zero_le _⟩) hS hA hP hD [2, 4, 5] rfl rfl (fun H locs hP hD hS => ?_)
            have hP : va_P G.1 vwCl [oX7 t_h t_a rd_h now_h sp_h wy_h gp_h ch_h sb_h, arR G (t_a 7) 4 t_rows, oX1 now_h now_a now_windows now_washes now_damp now_heard now_lines now_hour now_strings_13, arI G (now_a 7) 12 now_cans, arI G (now_a 10) 21 now_pairs_14, arI G (now_a 11) 21 now_knots_15, oX4 row_h row_a row_sort row_size, arJ G (row_a 0) 40 row_values] H := hP
            have hD : va_D A [oX7 t_h t_a rd_h now_h sp_h wy_h gp_h ch_h sb_h, arR G (t_a 7) 4 t_rows, oX1 now_h now_a now_windows now_washes now_damp now_heard now_lines now_hour now_strings_13, arI G (now_a 7) 12 now_cans, arI G (now_a 10) 21 now_pairs_14, arI G (now_a 11) 21 now_knots_15, oX4 row_h row_a row_sort row_size, arJ G (row_a 0) 40 row_values] := hD
            refine lv_iinc (v := (l4 + 1)) (lv' := [(4, .int (l4 + 1)), (6, .long r_5), (0, .ref t_h), (3, .ref row_h), (5, .int l5)]) hx hb dX7_tieAll_78 hl (k := 3) rfl (by rfl) (by decide) rfl (fun ls hl => ?_)
            refine lv_iinc (v := (l5 + 1)) (lv' := [(5, .int (l5 + 1)), (4, .int (l4 + 1)), (6, .long r_5), (0, .ref t_h), (3, .ref row_h)]) hx hb dX7_tieAll_81 hl (k := 4) rfl (by rfl) (by decide) rfl (fun ls hl => ?_)
            refine lv_goto (tgt := 25) hx hb dX7_tieAll_84 (by decide) ?_
            exact ih _ _ _ _ _ _ _ _ hP hD hS (lv_sub hl [3, 4, 1, 0] rfl) hf hX
  unfold fX7_tieAll at hf
  refine lv_aload_n hx hb dX7_tieAll_0 rfl (lv_at hl 0 rfl) ?_
  refine lv_iload_n hx hb dX7_tieAll_1 rfl (lv_at hl 1 rfl) ?_
  obtain ⟨r_1, hc_2, hf⟩ := bd1_in hf
  refine rcI (va_runV (As := [.int v1]) (rest := []) ⟨hx, hb, hml, hown, hw⟩ ((ctX7_rowRefusal l G t_h t_a row_h row_a rd_h now_h sp_h wy_h gp_h ch_h sb_h t_rows row_sort row_size v1 h_row _ hc_2) _) (kV hw calX7_rowRefusal kw_25_2 rfl rfl ⟨Nat.le_of_ble_eq_true rfl, Nat.le_of_ble_eq_true rfl⟩) (rpV (hP.sub (ws' := [oX7 t_h t_a rd_h now_h sp_h wy_h gp_h ch_h sb_h, arR G (t_a 7) 4 t_rows, oX4 row_h row_a row_sort row_size]) [0, 1, 6] rfl) hK (ci := 7) (q0 := 0) rfl rfl) rfl rfl hl.1 rfl (lv_room (Nat.le_of_ble_eq_true rfl)) dX7_tieAll_2 ⟨Nat.zero_le _, Nat.zero_le _⟩) hS hA hP (fun H locs hP hS => ?_)
  refine lv_istore_n (lv' := [(2, .int r_1), (0, .ref t_h), (1, .int v1)]) hx hb dX7_tieAll_5 rfl hl (by decide) rfl (fun ls hl => ?_)
  refine lv_iload_n hx hb dX7_tieAll_6 rfl (lv_at hl 0 rfl) ?_
  refine lv_if_eq (tgt := 12) hx hb dX7_tieAll_7 (by decide) (fun c_3 => ?_) (fun c_3 => ?_)
  · have hf := ip c_3 hf
    refine lv_aload_n hx hb dX7_tieAll_12 rfl (lv_at hl 1 rfl) ?_
    refine va_get (D := G.1) (ci := 7) (v := .ref (t_a 7)) (C := RX7) (T := TX7) (N := 10) hx hb hw inW7 hown hK.1 hP 0 rfl rfl 7 (by decide) (hw _ kw_2_15) (fun _ h9 => h9) rfl dX7_tieAll_13 ?_
    refine lv_iload_n hx hb dX7_tieAll_16 rfl (lv_at hl 2 rfl) ?_
    obtain ⟨hi_q, hf⟩ := ckI_in hf
    refine va_aldq hx hb hK.1 hP 1 5 rfl rfl hi_q dX7_tieAll_17 ?_
    rw [h_row hi_q]
    refine lv_astore_n (lv' := [(3, .ref row_h), (2, .int r_1), (0, .ref t_h), (1, .int v1)]) hx hb dX7_tieAll_18 rfl hl (by decide) rfl (fun ls hl => ?_)
    refine lv_iconst (v := 0) hx hb dX7_tieAll_19 (by decide) ?_
    refine lv_istore (lv' := [(4, .int 0), (3, .ref row_h), (2, .int r_1), (0, .ref t_h), (1, .int v1)]) hx hb dX7_tieAll_20 hl (by decide) rfl (fun ls hl => ?_)
    refine lv_iconst (v := 0) hx hb dX7_tieAll_22 (by decide) ?_
    refine lv_istore (lv' := [(5, .int 0), (4, .int 0), (3, .ref row_h), (2, .int r_1), (0, .ref t_h), (1, .int v1)]) hx hb dX7_tieAll_23 hl (by decide) rfl (fun ls hl => ?_)
    refine L25  _ _ _ _ _ _ _ _ _ _ hP hD hS (lv_sub hl [4, 2, 1, 0] rfl) hf (fun w_17 now_strings_18 now_pairs_19 now_knots_20 H locs ls hP hD hS hl hf => ?_)
    refine lv_iload hx hb dX7_tieAll_87 (lv_at hl 0 rfl) ?_
    exact hRet _ _ _ _ _ _ _ _ hf hP hS dX7_tieAll_89
  · have hf := iq c_3 hf
    refine lv_iload_n hx hb dX7_tieAll_10 rfl (lv_at hl 0 rfl) ?_
    exact hRet _ _ _ _ _ _ _ _ hf hP hS dX7_tieAll_11
theorem calX7_pass : CalV yX7_pass cX7_pass 2 (some .int) 1 := ⟨⟨kw_25_20, kw_1_2, by decide +kernel⟩, kw_25_18, kw_25_19⟩
set_option maxHeartbeats 8000000 in
set_option maxRecDepth 100000 in
theorem ctX7_pass (l : Launch) (G : GT) (t_h : Nat) (t_a : Nat → Nat) (now_h : Nat) (now_a : Nat → Nat) (rd_h : Nat) (sp_h : Nat) (wy_h : Nat) (gp_h : Nat) (ch_h : Nat) (sb_h : Nat) (now_windows : Int32) (now_washes : Int32) (now_damp : Int32) (now_heard : Int32) (now_lines : Int32) (now_hour : Int32) (now_strings : Int32) (v1 : Int32) (r : Int32) (o_now_hour : Int32) (hf : fX7_pass now_hour v1 = some (r, o_now_hour)) : WrI l yX7_pass (Cond.code yX7_pass cX7_pass 2 (some .int)) { frames := 0, cells := 0, slots := 0, locals := 0 } G [.ref t_h, .int v1] [oX7 t_h t_a rd_h now_h sp_h wy_h gp_h ch_h sb_h, oX1 now_h now_a now_windows now_washes now_damp now_heard now_lines now_hour now_strings] [oX7 t_h t_a rd_h now_h sp_h wy_h gp_h ch_h sb_h, oX1 now_h now_a now_windows now_washes now_damp now_heard now_lines o_now_hour now_strings] r := by
  intro sz
  refine Met.ofW (cc := cX7_pass) (maxL := 2) (ret := (some .int)) (by decide) rfl ?_
  intro p e s m args below meth c s₁ B hml hv
  obtain ⟨hargs, hsz, hP, hD0, hK⟩ := hv
  subst hsz
  obtain ⟨hx, hb, hr, hw, hown, hlk⟩ := fwB B
  refine fw_enter hargs (Nat.le_of_ble_eq_true rfl) (fun ls hl => ?_)
  have hl : lv_has ls 2 [(0, .ref t_h), (1, .int v1)] := hl
  refine fw_Q (P := fun Q => ∃ A : Nat → Prop, va_D A [oX7 t_h t_a rd_h now_h sp_h wy_h gp_h ch_h sb_h, oX1 now_h now_a now_windows now_washes now_damp now_heard now_lines now_hour now_strings] ∧ va_S A s.heap s.heap [] ∧ (∀ q, s.heap.size ≤ q → A q) ∧ ∀ (v : Int32) (n_now_hour : Int32) (H : Heap) (locs : List Loc) (pc : Nat) (ls : Array Slot), some (v, n_now_hour) = some (r, o_now_hour) → va_P G.1 vwCl [oX7 t_h t_a rd_h now_h sp_h wy_h gp_h ch_h sb_h, oX1 now_h now_a now_windows now_washes now_damp now_heard now_lines n_now_hour now_strings] H → va_S A s.heap H locs → decode cX7_pass pc = .ok (.ireturn, 1) → W p l e ({ frames := 0, cells := 0, slots := 0, locals := 0 } : Room) s m args below meth c H locs 0 0 Q (F0 m pc ls [.int v])) ⟨va_A [oX7 t_h t_a rd_h now_h sp_h wy_h gp_h ch_h sb_h, oX1 now_h now_a now_windows now_washes now_damp now_heard now_lines now_hour now_strings] s.heap.size, hD0.self (sz := s.heap.size), va_S.rf, fun q h => Or.inr h, ?_⟩ ?_
  · intro v n_now_hour H locs pc ls h hP hS hd
    cases h
    exact retWI hx hb hr hlk hS hP rfl hd
  rintro Q ⟨A, hD, hS, hA, hRet⟩
  change W p l e ({ frames := 0, cells := 0, slots := 0, locals := 0 } : Room) s m args below meth c _ _ 0 0 Q _
  unfold fX7_pass at hf
  refine lv_iload_n hx hb dX7_pass_0 rfl (lv_at hl 1 rfl) ?_
  refine lv_if_lt (tgt := 10) hx hb dX7_pass_1 (by decide) (fun c_1 => ?_) (fun c_1 => ?_)
  · have hf := ip c_1 hf
    refine lv_bipush (v := (-3)) hx hb dX7_pass_10 (by decide) ?_
    exact hRet _ _ _ _ _ _ hf hP hS dX7_pass_12
  · have hf := iq c_1 hf
    refine lv_iload_n hx hb dX7_pass_4 rfl (lv_at hl 1 rfl) ?_
    refine lv_bipush (v := 99) hx hb dX7_pass_5 (by decide) ?_
    refine lv_icmp_le (tgt := 13) hx hb dX7_pass_7 (by decide) (fun c_2 => ?_) (fun c_2 => ?_)
    · have hf := ip c_2 hf
      refine lv_aload_n hx hb dX7_pass_13 rfl (lv_at hl 0 rfl) ?_
      refine va_get (D := G.1) (ci := 7) (v := .ref now_h) (C := RX7) (T := TX7) (N := 10) hx hb hw inW7 hown hK.1 hP 0 rfl rfl 1 (by decide) (hw _ kw_1_20) (fun _ h9 => h9) rfl dX7_pass_14 ?_
      refine va_getN (D := G.1) (ci := 1) (v := .int now_hour) (C := RX1) (T := TX1) (N := 12) hx hb hw inW1 hown hK.1 hP 1 rfl rfl 5 (by decide) ((nf_16 hK.2).use rfl) (fun _ h9 => h9) rfl dX7_pass_17 ?_
      refine lv_iload_n hx hb dX7_pass_20 rfl (lv_at hl 1 rfl) ?_
      refine lv_iadd hx hb dX7_pass_21 ?_
      refine lv_sipush (v := 9999) hx hb dX7_pass_22 (by decide) ?_
      refine lv_icmp_le (tgt := 31) hx hb dX7_pass_25 (by decide) (fun c_3 => ?_) (fun c_3 => ?_)
      · have hf := ip c_3 hf
        refine lv_aload_n hx hb dX7_pass_31 rfl (lv_at hl 0 rfl) ?_
        refine va_get (D := G.1) (ci := 7) (v := .ref now_h) (C := RX7) (T := TX7) (N := 10) hx hb hw inW7 hown hK.1 hP 0 rfl rfl 1 (by decide) (hw _ kw_1_20) (fun _ h9 => h9) rfl dX7_pass_32 ?_
        refine lv_dup hx hb dX7_pass_35 rfl ?_
        refine va_getN (D := G.1) (ci := 1) (v := .int now_hour) (C := RX1) (T := TX1) (N := 12) hx hb hw inW1 hown hK.1 hP 1 rfl rfl 5 (by decide) ((nf_16 hK.2).use rfl) (fun _ h9 => h9) rfl dX7_pass_36 ?_
        refine lv_iload_n hx hb dX7_pass_39 rfl (lv_at hl 1 rfl) ?_
        refine lv_iadd hx hb dX7_pass_40 ?_
        refine lv_topi (fun y_4 ey_4 => ?_)
        have hf := bnd_all hf y_4 ey_4
        refine va_putN (D := G.1) (ci := 1) (v := .int y_4) (ty := .int) (C := RX1) (T := TX1) (N := 12) hx hb hw inW1 tyX1 tyX1_ok nmX1 hown hK.1 hP hD hS 1 rfl rfl 5 (by decide) ((nf_16 hK.2).use rfl) (fun _ h9 => h9) rfl (by decide +kernel) rfl rfl (Nat.le_of_ble_eq_true rfl) dX7_pass_41 (fun H locs hP hD hS => ?_)
        have hP : va_P G.1 vwCl [oX7 t_h t_a rd_h now_h sp_h wy_h gp_h ch_h sb_h, oX1 now_h now_a now_windows now_washes now_damp now_heard now_lines y_4 now_strings] H := hP
        have hD : va_D A [oX7 t_h t_a rd_h now_h sp_h wy_h gp_h ch_h sb_h, oX1 now_h now_a now_windows now_washes now_damp now_heard now_lines y_4 now_strings] := hD
        refine lv_aload_n hx hb dX7_pass_44 rfl (lv_at hl 0 rfl) ?_
        refine va_get (D := G.1) (ci := 7) (v := .ref now_h) (C := RX7) (T := TX7) (N := 10) hx hb hw inW7 hown hK.1 hP 0 rfl rfl 1 (by decide) (hw _ kw_1_20) (fun _ h9 => h9) rfl dX7_pass_45 ?_
        refine va_getN (D := G.1) (ci := 1) (v := .int y_4) (C := RX1) (T := TX1) (N := 12) hx hb hw inW1 hown hK.1 hP 1 rfl rfl 5 (by decide) ((nf_16 hK.2).use rfl) (fun _ h9 => h9) rfl dX7_pass_48 ?_
        exact hRet _ _ _ _ _ _ hf hP hS dX7_pass_51
      · have hf := iq c_3 hf
        refine lv_bipush (v := (-5)) hx hb dX7_pass_28 (by decide) ?_
        exact hRet _ _ _ _ _ _ hf hP hS dX7_pass_30
    · have hf := iq c_2 hf
      refine lv_bipush (v := (-3)) hx hb dX7_pass_10 (by decide) ?_
      exact hRet _ _ _ _ _ _ hf hP hS dX7_pass_12
theorem calX7_damp : CalV yX7_damp cX7_damp 3 (some .int) 1 := ⟨⟨kw_26_5, kw_1_2, by decide +kernel⟩, kw_26_3, kw_26_4⟩
set_option maxHeartbeats 8000000 in
set_option maxRecDepth 100000 in
theorem ctX7_damp (l : Launch) (G : GT) (t_h : Nat) (t_a : Nat → Nat) (now_h : Nat) (now_a : Nat → Nat) (rd_h : Nat) (sp_h : Nat) (wy_h : Nat) (gp_h : Nat) (ch_h : Nat) (sb_h : Nat) (now_windows : Int32) (now_washes : Int32) (now_damp : Int32) (now_heard : Int32) (now_lines : Int32) (now_hour : Int32) (now_strings : Int32) (v1 : Int32) (r : Int32) (o_now_damp : Int32) (hf : fX7_damp now_damp v1 = some (r, o_now_damp)) : WrI l yX7_damp (Cond.code yX7_damp cX7_damp 3 (some .int)) { frames := 0, cells := 0, slots := 0, locals := 0 } G [.ref t_h, .int v1] [oX7 t_h t_a rd_h now_h sp_h wy_h gp_h ch_h sb_h, oX1 now_h now_a now_windows now_washes now_damp now_heard now_lines now_hour now_strings] [oX7 t_h t_a rd_h now_h sp_h wy_h gp_h ch_h sb_h, oX1 now_h now_a now_windows now_washes o_now_damp now_heard now_lines now_hour now_strings] r := by
  intro sz
  refine Met.ofW (cc := cX7_damp) (maxL := 3) (ret := (some .int)) (by decide) rfl ?_
  intro p e s m args below meth c s₁ B hml hv
  obtain ⟨hargs, hsz, hP, hD0, hK⟩ := hv
  subst hsz
  obtain ⟨hx, hb, hr, hw, hown, hlk⟩ := fwB B
  refine fw_enter hargs (Nat.le_of_ble_eq_true rfl) (fun ls hl => ?_)
  have hl : lv_has ls 3 [(0, .ref t_h), (1, .int v1)] := hl
  refine fw_Q (P := fun Q => ∃ A : Nat → Prop, va_D A [oX7 t_h t_a rd_h now_h sp_h wy_h gp_h ch_h sb_h, oX1 now_h now_a now_windows now_washes now_damp now_heard now_lines now_hour now_strings] ∧ va_S A s.heap s.heap [] ∧ (∀ q, s.heap.size ≤ q → A q) ∧ ∀ (v : Int32) (n_now_damp : Int32) (H : Heap) (locs : List Loc) (pc : Nat) (ls : Array Slot), some (v, n_now_damp) = some (r, o_now_damp) → va_P G.1 vwCl [oX7 t_h t_a rd_h now_h sp_h wy_h gp_h ch_h sb_h, oX1 now_h now_a now_windows now_washes n_now_damp now_heard now_lines now_hour now_strings] H → va_S A s.heap H locs → decode cX7_damp pc = .ok (.ireturn, 1) → W p l e ({ frames := 0, cells := 0, slots := 0, locals := 0 } : Room) s m args below meth c H locs 0 0 Q (F0 m pc ls [.int v])) ⟨va_A [oX7 t_h t_a rd_h now_h sp_h wy_h gp_h ch_h sb_h, oX1 now_h now_a now_windows now_washes now_damp now_heard now_lines now_hour now_strings] s.heap.size, hD0.self (sz := s.heap.size), va_S.rf, fun q h => Or.inr h, ?_⟩ ?_
  · intro v n_now_damp H locs pc ls h hP hS hd
    cases h
    exact retWI hx hb hr hlk hS hP rfl hd
  rintro Q ⟨A, hD, hS, hA, hRet⟩
  change W p l e ({ frames := 0, cells := 0, slots := 0, locals := 0 } : Room) s m args below meth c _ _ 0 0 Q _
  unfold fX7_damp at hf
  refine lv_iload_n hx hb dX7_damp_0 rfl (lv_at hl 1 rfl) ?_
  refine lv_if_lt (tgt := 10) hx hb dX7_damp_1 (by decide) (fun c_1 => ?_) (fun c_1 => ?_)
  · have hf := ip c_1 hf
    refine lv_bipush (v := (-3)) hx hb dX7_damp_10 (by decide) ?_
    exact hRet _ _ _ _ _ _ hf hP hS dX7_damp_12
  · have hf := iq c_1 hf
    refine lv_iload_n hx hb dX7_damp_4 rfl (lv_at hl 1 rfl) ?_
    refine lv_bipush (v := 20) hx hb dX7_damp_5 (by decide) ?_
    refine lv_icmp_le (tgt := 13) hx hb dX7_damp_7 (by decide) (fun c_2 => ?_) (fun c_2 => ?_)
    · have hf := ip c_2 hf
      refine lv_aload_n hx hb dX7_damp_13 rfl (lv_at hl 0 rfl) ?_
      refine va_get (D := G.1) (ci := 7) (v := .ref now_h) (C := RX7) (T := TX7) (N := 10) hx hb hw inW7 hown hK.1 hP 0 rfl rfl 1 (by decide) (hw _ kw_1_20) (fun _ h9 => h9) rfl dX7_damp_14 ?_
      refine va_getN (D := G.1) (ci := 1) (v := .int now_damp) (C := RX1) (T := TX1) (N := 12) hx hb hw inW1 hown hK.1 hP 1 rfl rfl 2 (by decide) ((nf_10 hK.2).use rfl) (fun _ h9 => h9) rfl dX7_damp_17 ?_
      refine lv_istore_n (lv' := [(2, .int now_damp), (0, .ref t_h), (1, .int v1)]) hx hb dX7_damp_20 rfl hl (by decide) rfl (fun ls hl => ?_)
      refine lv_aload_n hx hb dX7_damp_21 rfl (lv_at hl 1 rfl) ?_
      refine va_get (D := G.1) (ci := 7) (v := .ref now_h) (C := RX7) (T := TX7) (N := 10) hx hb hw inW7 hown hK.1 hP 0 rfl rfl 1 (by decide) (hw _ kw_1_20) (fun _ h9 => h9) rfl dX7_damp_22 ?_
      refine lv_iload_n hx hb dX7_damp_25 rfl (lv_at hl 2 rfl) ?_
      refine va_putN (D := G.1) (ci := 1) (v := .int v1) (ty := .int) (C := RX1) (T := TX1) (N := 12) hx hb hw inW1 tyX1 tyX1_ok nmX1 hown hK.1 hP hD hS 1 rfl rfl 2 (by decide) ((nf_10 hK.2).use rfl) (fun _ h9 => h9) rfl (by decide +kernel) rfl rfl (Nat.le_of_ble_eq_true rfl) dX7_damp_26 (fun H locs hP hD hS => ?_)
      have hP : va_P G.1 vwCl [oX7 t_h t_a rd_h now_h sp_h wy_h gp_h ch_h sb_h, oX1 now_h now_a now_windows now_washes v1 now_heard now_lines now_hour now_strings] H := hP
      have hD : va_D A [oX7 t_h t_a rd_h now_h sp_h wy_h gp_h ch_h sb_h, oX1 now_h now_a now_windows now_washes v1 now_heard now_lines now_hour now_strings] := hD
      refine lv_iload_n hx hb dX7_damp_29 rfl (lv_at hl 0 rfl) ?_
      exact hRet _ _ _ _ _ _ hf hP hS dX7_damp_30
    · have hf := iq c_2 hf
      refine lv_bipush (v := (-3)) hx hb dX7_damp_10 (by decide) ?_
      exact hRet _ _ _ _ _ _ hf hP hS dX7_damp_12
theorem calX7_nextDraw : CalS yX7_nextDraw cX7_nextDraw 1 (some .int) 1 := ⟨⟨kw_26_20, kw_1_2, by decide +kernel⟩, kw_26_19⟩
set_option maxHeartbeats 8000000 in
set_option maxRecDepth 100000 in
theorem ctX7_nextDraw (l : Launch) (G : GT) (v0 : Int32) (r : Int32) (hf : fX7_nextDraw v0 = some r) : RdI l yX7_nextDraw (Cond.code yX7_nextDraw cX7_nextDraw 1 (some .int)) { frames := 0, cells := 0, slots := 0, locals := 0 } G [.int v0] [] r := by
  intro sz
  refine Met.ofW (cc := cX7_nextDraw) (maxL := 1) (ret := (some .int)) (by decide) rfl ?_
  intro p e s m args below meth c s₁ B hml hv
  obtain ⟨hargs, hsz, hP, hK⟩ := hv
  subst hsz
  obtain ⟨hx, hb, hr, hw, hown, hlk⟩ := fwB B
  refine fw_enter hargs (Nat.le_of_ble_eq_true rfl) (fun ls hl => ?_)
  have hl : lv_has ls 1 [(0, .int v0)] := hl
  refine fw_Q (P := fun Q => ∃ A : Nat → Prop, va_S A s.heap s.heap [] ∧ (∀ q, s.heap.size ≤ q → A q) ∧ ∀ (v : Int32) (H : Heap) (locs : List Loc) (pc : Nat) (ls : Array Slot), some v = some r → va_S A s.heap H locs → decode cX7_nextDraw pc = .ok (.ireturn, 1) → W p l e ({ frames := 0, cells := 0, slots := 0, locals := 0 } : Room) s m args below meth c H locs 0 0 Q (F0 m pc ls [.int v])) ⟨fun q => s.heap.size ≤ q, va_S.rf, fun q h => h, fun v H locs pc ls h hS hd => retRI hx hb hr hlk hS h hd⟩ ?_
  rintro Q ⟨A, hS, hA, hRet⟩
  change W p l e ({ frames := 0, cells := 0, slots := 0, locals := 0 } : Room) s m args below meth c _ _ 0 0 Q _
  unfold fX7_nextDraw at hf
  refine lv_ldcw hx hb hown (hw _ kw_26_21) dX7_nextDraw_0 ?_
  refine lv_iload_n hx hb dX7_nextDraw_3 rfl (lv_at hl 0 rfl) ?_
  refine lv_imul hx hb dX7_nextDraw_4 ?_
  refine lv_sipush (v := 12345) hx hb dX7_nextDraw_5 (by decide) ?_
  refine lv_iadd hx hb dX7_nextDraw_8 ?_
  exact hRet _ _ _ _ _ hf hS dX7_nextDraw_9
theorem calX7_drawn : CalS yX7_drawn cX7_drawn 2 (some .int) 2 := ⟨⟨kw_27_0, kw_1_2, by decide +kernel⟩, kw_26_23⟩
set_option maxHeartbeats 8000000 in
set_option maxRecDepth 100000 in
theorem ctX7_drawn (l : Launch) (G : GT) (v0 : Int32) (v1 : Int32) (r : Int32) (hf : fX7_drawn v0 v1 = some r) : RdI l yX7_drawn (Cond.code yX7_drawn cX7_drawn 2 (some .int)) { frames := 0, cells := 0, slots := 0, locals := 0 } G [.int v0, .int v1] [] r := by
  intro sz
  refine Met.ofW (cc := cX7_drawn) (maxL := 2) (ret := (some .int)) (by decide) rfl ?_
  intro p e s m args below meth c s₁ B hml hv
  obtain ⟨hargs, hsz, hP, hK⟩ := hv
  subst hsz
  obtain ⟨hx, hb, hr, hw, hown, hlk⟩ := fwB B
  refine fw_enter hargs (Nat.le_of_ble_eq_true rfl) (fun ls hl => ?_)
  have hl : lv_has ls 2 [(0, .int v0), (1, .int v1)] := hl
  refine fw_Q (P := fun Q => ∃ A : Nat → Prop, va_S A s.heap s.heap [] ∧ (∀ q, s.heap.size ≤ q → A q) ∧ ∀ (v : Int32) (H : Heap) (locs : List Loc) (pc : Nat) (ls : Array Slot), some v = some r → va_S A s.heap H locs → decode cX7_drawn pc = .ok (.ireturn, 1) → W p l e ({ frames := 0, cells := 0, slots := 0, locals := 0 } : Room) s m args below meth c H locs 0 0 Q (F0 m pc ls [.int v])) ⟨fun q => s.heap.size ≤ q, va_S.rf, fun q h => h, fun v H locs pc ls h hS hd => retRI hx hb hr hlk hS h hd⟩ ?_
  rintro Q ⟨A, hS, hA, hRet⟩
  change W p l e ({ frames := 0, cells := 0, slots := 0, locals := 0 } : Room) s m args below meth c _ _ 0 0 Q _
  unfold fX7_drawn at hf
  refine lv_iload_n hx hb dX7_drawn_0 rfl (lv_at hl 1 rfl) ?_
  refine lv_iconst (v := 1) hx hb dX7_drawn_1 (by decide) ?_
  refine lv_icmp_ge (tgt := 9) hx hb dX7_drawn_2 (by decide) (fun c_1 => ?_) (fun c_1 => ?_)
  · have hf := ip c_1 hf
    refine lv_iload_n hx hb dX7_drawn_9 rfl (lv_at hl 0 rfl) ?_
    refine lv_bipush (v := 16) hx hb dX7_drawn_10 (by decide) ?_
    refine lv_iushr hx hb dX7_drawn_12 rfl ?_
    refine lv_iload_n hx hb dX7_drawn_13 rfl (lv_at hl 1 rfl) ?_
    obtain ⟨hz, hf⟩ := nzI_in hf
    refine lv_irem hx hb dX7_drawn_14 hz ?_
    exact hRet _ _ _ _ _ hf hS dX7_drawn_15
  · have hf := iq c_1 hf
    refine lv_iconst (v := 0) hx hb dX7_drawn_5 (by decide) ?_
    refine lv_goto (tgt := 15) hx hb dX7_drawn_6 (by decide) ?_
    exact hRet _ _ _ _ _ hf hS dX7_drawn_15
theorem calX7_blow : CalV yX7_blow cX7_blow 6 (some .int) 1 := ⟨⟨kw_26_17, kw_1_2, by decide +kernel⟩, kw_26_15, kw_26_16⟩
set_option maxHeartbeats 8000000 in
set_option maxRecDepth 100000 in
theorem ctX7_blow (l : Launch) (G : GT) (t_h : Nat) (t_a : Nat → Nat) (now_h : Nat) (now_a : Nat → Nat) (rd_h : Nat) (sp_h : Nat) (wy_h : Nat) (gp_h : Nat) (ch_h : Nat) (sb_h : Nat) (now_windows : Int32) (now_washes : Int32) (now_damp : Int32) (now_heard : Int32) (now_lines : Int32) (now_hour : Int32) (now_strings : Int32) (now_cans : Nat → Int32) (now_pairs : Nat → Int32) (now_knots : Nat → Int32) (v1 : Int32) (r : Int32) (o_now_strings : Int32) (o_now_pairs : Nat → Int32) (o_now_knots : Nat → Int32) (hf : fX7_blow now_windows now_strings now_cans now_pairs now_knots v1 = some (r, o_now_strings, o_now_pairs, o_now_knots)) : WrI l yX7_blow (Cond.code yX7_blow cX7_blow 6 (some .int)) { frames := 3, cells := 0, slots := 0, locals := 70 } G [.ref t_h, .int v1] [oX7 t_h t_a rd_h now_h sp_h wy_h gp_h ch_h sb_h, oX1 now_h now_a now_windows now_washes now_damp now_heard now_lines now_hour now_strings, arI G (now_a 7) 12 now_cans, arI G (now_a 10) 21 now_pairs, arI G (now_a 11) 21 now_knots] [oX7 t_h t_a rd_h now_h sp_h wy_h gp_h ch_h sb_h, oX1 now_h now_a now_windows now_washes now_damp now_heard now_lines now_hour o_now_strings, arI G (now_a 7) 12 now_cans, arI G (now_a 10) 21 o_now_pairs, arI G (now_a 11) 21 o_now_knots] r := by
  intro sz
  refine Met.ofW (cc := cX7_blow) (maxL := 6) (ret := (some .int)) (by decide) rfl ?_
  intro p e s m args below meth c s₁ B hml hv
  obtain ⟨hargs, hsz, hP, hD0, hK⟩ := hv
  subst hsz
  obtain ⟨hx, hb, hr, hw, hown, hlk⟩ := fwB B
  refine fw_enter hargs (Nat.le_of_ble_eq_true rfl) (fun ls hl => ?_)
  have hl : lv_has ls 6 [(0, .ref t_h), (1, .int v1)] := hl
  refine fw_Q (P := fun Q => ∃ A : Nat → Prop, va_D A [oX7 t_h t_a rd_h now_h sp_h wy_h gp_h ch_h sb_h, oX1 now_h now_a now_windows now_washes now_damp now_heard now_lines now_hour now_strings, arI G (now_a 7) 12 now_cans, arI G (now_a 10) 21 now_pairs, arI G (now_a 11) 21 now_knots] ∧ va_S A s.heap s.heap [] ∧ (∀ q, s.heap.size ≤ q → A q) ∧ ∀ (v : Int32) (n_now_strings : Int32) (n_now_pairs : Nat → Int32) (n_now_knots : Nat → Int32) (H : Heap) (locs : List Loc) (pc : Nat) (ls : Array Slot), some (v, n_now_strings, n_now_pairs, n_now_knots) = some (r, o_now_strings, o_now_pairs, o_now_knots) → va_P G.1 vwCl [oX7 t_h t_a rd_h now_h sp_h wy_h gp_h ch_h sb_h, oX1 now_h now_a now_windows now_washes now_damp now_heard now_lines now_hour n_now_strings, arI G (now_a 7) 12 now_cans, arI G (now_a 10) 21 n_now_pairs, arI G (now_a 11) 21 n_now_knots] H → va_S A s.heap H locs → decode cX7_blow pc = .ok (.ireturn, 1) → W p l e ({ frames := 3, cells := 0, slots := 0, locals := 70 } : Room) s m args below meth c H locs 0 0 Q (F0 m pc ls [.int v])) ⟨va_A [oX7 t_h t_a rd_h now_h sp_h wy_h gp_h ch_h sb_h, oX1 now_h now_a now_windows now_washes now_damp now_heard now_lines now_hour now_strings, arI G (now_a 7) 12 now_cans, arI G (now_a 10) 21 now_pairs, arI G (now_a 11) 21 now_knots] s.heap.size, hD0.self (sz := s.heap.size), va_S.rf, fun q h => Or.inr h, ?_⟩ ?_
  · intro v n_now_strings n_now_pairs n_now_knots H locs pc ls h hP hS hd
    cases h
    exact retWI hx hb hr hlk hS hP rfl hd
  rintro Q ⟨A, hD, hS, hA, hRet⟩
  change W p l e ({ frames := 3, cells := 0, slots := 0, locals := 70 } : Room) s m args below meth c _ _ 0 0 Q _
  unfold fX7_blow at hf
  refine lv_iload_n hx hb dX7_blow_0 rfl (lv_at hl 1 rfl) ?_
  obtain ⟨r_1, hc_2, hf⟩ := bd1_in hf
  refine rcI (va_runS (As := [.int v1]) (rest := []) ⟨hx, hb, hml, hown, hw⟩ ((ctX7_nextDraw l G v1 _ hc_2) _) (kS hw calX7_nextDraw kw_26_18 rfl rfl ⟨Nat.le_of_ble_eq_true rfl, Nat.le_of_ble_eq_true rfl⟩) (rpS (hP.sub (ws' := []) [] rfl) hK) rfl rfl hl.1 rfl (lv_room (Nat.le_of_ble_eq_true rfl)) dX7_blow_1 ⟨Nat.zero_le _, Nat.zero_le _⟩) hS hA hP (fun H locs hP hS => ?_)
  refine lv_istore_n (lv' := [(2, .int r_1), (0, .ref t_h), (1, .int v1)]) hx hb dX7_blow_4 rfl hl (by decide) rfl (fun ls hl => ?_)
  refine lv_iload_n hx hb dX7_blow_5 rfl (lv_at hl 0 rfl) ?_
  refine lv_aload_n hx hb dX7_blow_6 rfl (lv_at hl 1 rfl) ?_
  refine va_get (D := G.1) (ci := 7) (v := .ref now_h) (C := RX7) (T := TX7) (N := 10) hx hb hw inW7 hown hK.1 hP 0 rfl rfl 1 (by decide) (hw _ kw_1_20) (fun _ h9 => h9) rfl dX7_blow_7 ?_
  refine va_getN (D := G.1) (ci := 1) (v := .int now_windows) (C := RX1) (T := TX1) (N := 12) hx hb hw inW1 hown hK.1 hP 1 rfl rfl 0 (by decide) ((nf_6 hK.2).use rfl) (fun _ h9 => h9) rfl dX7_blow_10 ?_
  obtain ⟨r_3, hc_4, hf⟩ := bd1_in hf
  refine rcI (va_runS (As := [.int r_1, .int now_windows]) (rest := []) ⟨hx, hb, hml, hown, hw⟩ ((ctX7_drawn l G r_1 now_windows _ hc_4) _) (kS hw calX7_drawn kw_26_22 rfl rfl ⟨Nat.le_of_ble_eq_true rfl, Nat.le_of_ble_eq_true rfl⟩) (rpS (hP.sub (ws' := []) [] rfl) hK) rfl rfl hl.1 rfl (lv_room (Nat.le_of_ble_eq_true rfl)) dX7_blow_13 ⟨Nat.zero_le _, Nat.zero_le _⟩) hS hA hP (fun H locs hP hS => ?_)
  refine lv_istore_n (lv' := [(3, .int r_3), (2, .int r_1), (0, .ref t_h), (1, .int v1)]) hx hb dX7_blow_16 rfl hl (by decide) rfl (fun ls hl => ?_)
  refine lv_iload_n hx hb dX7_blow_17 rfl (lv_at hl 1 rfl) ?_
  obtain ⟨r_5, hc_6, hf⟩ := bd1_in hf
  refine rcI (va_runS (As := [.int r_1]) (rest := []) ⟨hx, hb, hml, hown, hw⟩ ((ctX7_nextDraw l G r_1 _ hc_6) _) (kS hw calX7_nextDraw kw_26_18 rfl rfl ⟨Nat.le_of_ble_eq_true rfl, Nat.le_of_ble_eq_true rfl⟩) (rpS (hP.sub (ws' := []) [] rfl) hK) rfl rfl hl.1 rfl (lv_room (Nat.le_of_ble_eq_true rfl)) dX7_blow_18 ⟨Nat.zero_le _, Nat.zero_le _⟩) hS hA hP (fun H locs hP hS => ?_)
  refine lv_istore_n (lv' := [(2, .int r_5), (3, .int r_3), (0, .ref t_h), (1, .int v1)]) hx hb dX7_blow_21 rfl hl (by decide) rfl (fun ls hl => ?_)
  refine lv_iload_n hx hb dX7_blow_22 rfl (lv_at hl 1 rfl) ?_
  refine lv_iload_n hx hb dX7_blow_23 rfl (lv_at hl 0 rfl) ?_
  refine lv_aload_n hx hb dX7_blow_24 rfl (lv_at hl 2 rfl) ?_
  refine va_get (D := G.1) (ci := 7) (v := .ref now_h) (C := RX7) (T := TX7) (N := 10) hx hb hw inW7 hown hK.1 hP 0 rfl rfl 1 (by decide) (hw _ kw_1_20) (fun _ h9 => h9) rfl dX7_blow_25 ?_
  refine va_getN (D := G.1) (ci := 1) (v := .int now_windows) (C := RX1) (T := TX1) (N := 12) hx hb hw inW1 hown hK.1 hP 1 rfl rfl 0 (by decide) ((nf_6 hK.2).use rfl) (fun _ h9 => h9) rfl dX7_blow_28 ?_
  obtain ⟨r_7, hc_8, hf⟩ := bd1_in hf
  refine rcI (va_runS (As := [.int r_5, .int now_windows]) (rest := [.int r_3]) ⟨hx, hb, hml, hown, hw⟩ ((ctX7_drawn l G r_5 now_windows _ hc_8) _) (kS hw calX7_drawn kw_26_22 rfl rfl ⟨Nat.le_of_ble_eq_true rfl, Nat.le_of_ble_eq_true rfl⟩) (rpS (hP.sub (ws' := []) [] rfl) hK) rfl rfl hl.1 rfl (lv_room (Nat.le_of_ble_eq_true rfl)) dX7_blow_31 ⟨Nat.zero_le _, Nat.zero_le _⟩) hS hA hP (fun H locs hP hS => ?_)
  obtain ⟨r_9, hc_10, hf⟩ := bd1_in hf
  refine rcI (va_runS (As := [.int r_3, .int r_7]) (rest := []) ⟨hx, hb, hml, hown, hw⟩ ((ctX7_pairOf l G r_3 r_7 _ hc_10) _) (kS hw calX7_pairOf kw_27_1 rfl rfl ⟨Nat.le_of_ble_eq_true rfl, Nat.le_of_ble_eq_true rfl⟩) (rpS (hP.sub (ws' := []) [] rfl) hK) rfl rfl hl.1 rfl (lv_room (Nat.le_of_ble_eq_true rfl)) dX7_blow_34 ⟨Nat.zero_le _, Nat.zero_le _⟩) hS hA hP (fun H locs hP hS => ?_)
  refine lv_istore (lv' := [(4, .int r_9), (2, .int r_5), (3, .int r_3), (0, .ref t_h), (1, .int v1)]) hx hb dX7_blow_37 hl (by decide) rfl (fun ls hl => ?_)
  refine lv_aload_n hx hb dX7_blow_39 rfl (lv_at hl 3 rfl) ?_
  refine va_get (D := G.1) (ci := 7) (v := .ref now_h) (C := RX7) (T := TX7) (N := 10) hx hb hw inW7 hown hK.1 hP 0 rfl rfl 1 (by decide) (hw _ kw_1_20) (fun _ h9 => h9) rfl dX7_blow_40 ?_
  refine lv_iload hx hb dX7_blow_43 (lv_at hl 0 rfl) ?_
  obtain ⟨r_11, hc_12, hf⟩ := bd1_in hf
  refine rcI (va_runV (As := [.int r_9]) (rest := []) ⟨hx, hb, hml, hown, hw⟩ ((ctX1_indexOf l G now_h now_a now_windows now_washes now_damp now_heard now_lines now_hour now_strings now_pairs r_9 _ hc_12) _) (kV hw calX1_indexOf kw_21_22 rfl rfl ⟨Nat.le_of_ble_eq_true rfl, Nat.le_of_ble_eq_true rfl⟩) (rpV (hP.sub (ws' := [oX1 now_h now_a now_windows now_washes now_damp now_heard now_lines now_hour now_strings, arI G (now_a 10) 21 now_pairs]) [1, 3] rfl) hK (ci := 1) (q0 := 0) rfl rfl) rfl rfl hl.1 rfl (lv_room (Nat.le_of_ble_eq_true rfl)) dX7_blow_45 ⟨Nat.zero_le _, Nat.zero_le _⟩) hS hA hP (fun H locs hP hS => ?_)
  refine lv_istore (lv' := [(5, .int r_11), (4, .int r_9), (2, .int r_5), (3, .int r_3), (0, .ref t_h), (1, .int v1)]) hx hb dX7_blow_48 hl (by decide) rfl (fun ls hl => ?_)
  refine lv_iload hx hb dX7_blow_50 (lv_at hl 0 rfl) ?_
  refine lv_iconst (v := (-1)) hx hb dX7_blow_52 (by decide) ?_
  refine lv_icmp_eq (tgt := 68) hx hb dX7_blow_53 (by decide) (fun c_13 => ?_) (fun c_13 => ?_)
  · have hf := ip c_13 hf
    refine lv_aload_n hx hb dX7_blow_68 rfl (lv_at hl 4 rfl) ?_
    refine va_get (D := G.1) (ci := 7) (v := .ref now_h) (C := RX7) (T := TX7) (N := 10) hx hb hw inW7 hown hK.1 hP 0 rfl rfl 1 (by decide) (hw _ kw_1_20) (fun _ h9 => h9) rfl dX7_blow_69 ?_
    refine lv_iload hx hb dX7_blow_72 (lv_at hl 1 rfl) ?_
    obtain ⟨r_14, hc_15, hf⟩ := bd1_in hf
    refine rcI (va_runV (As := [.int r_9]) (rest := []) ⟨hx, hb, hml, hown, hw⟩ ((ctX1_whyNot l G now_h now_a now_windows now_washes now_damp now_heard now_lines now_hour now_strings now_cans now_pairs r_9 _ hc_15) _) (kV hw calX1_whyNot kw_23_3 rfl rfl ⟨Nat.le_of_ble_eq_true rfl, Nat.le_of_ble_eq_true rfl⟩) (rpV (hP.sub (ws' := [oX1 now_h now_a now_windows now_washes now_damp now_heard now_lines now_hour now_strings, arI G (now_a 7) 12 now_cans, arI G (now_a 10) 21 now_pairs]) [1, 2, 3] rfl) hK (ci := 1) (q0 := 0) rfl rfl) rfl rfl hl.1 rfl (lv_room (Nat.le_of_ble_eq_true rfl)) dX7_blow_74 ⟨Nat.zero_le _, Nat.zero_le _⟩) hS hA hP (fun H locs hP hS => ?_)
    refine lv_if_ne (tgt := 99) hx hb dX7_blow_77 (by decide) (fun c_16 => ?_) (fun c_16 => ?_)
    · have hf := iq c_16 hf
      refine lv_iload_n hx hb dX7_blow_99 rfl (lv_at hl 2 rfl) ?_
      exact hRet _ _ _ _ _ _ _ _ hf hP hS dX7_blow_100
    · have hf := ip c_16 hf
      refine lv_iload_n hx hb dX7_blow_80 rfl (lv_at hl 2 rfl) ?_
      obtain ⟨r_17, hc_18, hf⟩ := bd1_in hf
      refine rcI (va_runS (As := [.int r_5]) (rest := []) ⟨hx, hb, hml, hown, hw⟩ ((ctX7_nextDraw l G r_5 _ hc_18) _) (kS hw calX7_nextDraw kw_26_18 rfl rfl ⟨Nat.le_of_ble_eq_true rfl, Nat.le_of_ble_eq_true rfl⟩) (rpS (hP.sub (ws' := []) [] rfl) hK) rfl rfl hl.1 rfl (lv_room (Nat.le_of_ble_eq_true rfl)) dX7_blow_81 ⟨Nat.zero_le _, Nat.zero_le _⟩) hS hA hP (fun H locs hP hS => ?_)
      refine lv_istore_n (lv' := [(2, .int r_17), (5, .int r_11), (4, .int r_9), (3, .int r_3), (0, .ref t_h), (1, .int v1)]) hx hb dX7_blow_84 rfl hl (by decide) rfl (fun ls hl => ?_)
      refine lv_aload_n hx hb dX7_blow_85 rfl (lv_at hl 4 rfl) ?_
      refine va_get (D := G.1) (ci := 7) (v := .ref now_h) (C := RX7) (T := TX7) (N := 10) hx hb hw inW7 hown hK.1 hP 0 rfl rfl 1 (by decide) (hw _ kw_1_20) (fun _ h9 => h9) rfl dX7_blow_86 ?_
      refine lv_iload hx hb dX7_blow_89 (lv_at hl 2 rfl) ?_
      refine lv_iload_n hx hb dX7_blow_91 rfl (lv_at hl 0 rfl) ?_
      refine lv_iconst (v := 3) hx hb dX7_blow_92 (by decide) ?_
      obtain ⟨r_19, hc_20, hf⟩ := bd1_in hf
      refine rcI (va_runS (As := [.int r_17, .int 3]) (rest := [.int r_9, .ref now_h]) ⟨hx, hb, hml, hown, hw⟩ ((ctX7_drawn l G r_17 3 _ hc_20) _) (kS hw calX7_drawn kw_26_22 rfl rfl ⟨Nat.le_of_ble_eq_true rfl, Nat.le_of_ble_eq_true rfl⟩) (rpS (hP.sub (ws' := []) [] rfl) hK) rfl rfl hl.1 rfl (lv_room (Nat.le_of_ble_eq_true rfl)) dX7_blow_93 ⟨Nat.zero_le _, Nat.zero_le _⟩) hS hA hP (fun H locs hP hS => ?_)
      obtain ⟨now_strings_21, now_pairs_22, now_knots_23, hc_24, hf⟩ := bd3_in hf
      refine wcV (w1 := [oX1 now_h now_a now_windows now_washes now_damp now_heard now_lines now_hour now_strings_21, arI G (now_a 10) 21 now_pairs_22, arI G (now_a 11) 21 now_knots_23]) (va_runV (As := [.int r_9, .int r_19]) (rest := []) ⟨hx, hb, hml, hown, hw⟩ ((ctX1_addString l G now_h now_a now_windows now_washes now_damp now_heard now_lines now_hour now_strings now_pairs now_knots r_9 r_19 _ _ _ hc_24) _) (kV hw calX1_addString kw_23_16 rfl rfl ⟨Nat.le_of_ble_eq_true rfl, Nat.le_of_ble_eq_true rfl⟩) (wpV (hP.sub (ws' := [oX1 now_h now_a now_windows now_washes now_damp now_heard now_lines now_hour now_strings, arI G (now_a 10) 21 now_pairs, arI G (now_a 11) 21 now_knots]) [1, 3, 4] rfl) (hD.sub (ws' := [oX1 now_h now_a now_windows now_washes now_damp now_heard now_lines now_hour now_strings, arI G (now_a 10) 21 now_pairs, arI G (now_a 11) 21 now_knots]) [1, 3, 4] (by decide) rfl) hK (ci := 1) (q0 := 0) rfl rfl) rfl rfl hl.1 rfl (lv_room (Nat.le_of_ble_eq_true rfl)) dX7_blow_96 ⟨Nat.zero_le _, Nat.zero_le _⟩) hS hA hP hD [1, 3, 4] rfl rfl (fun H locs hP hD hS => ?_)
      have hP : va_P G.1 vwCl [oX7 t_h t_a rd_h now_h sp_h wy_h gp_h ch_h sb_h, oX1 now_h now_a now_windows now_washes now_damp now_heard now_lines now_hour now_strings_21, arI G (now_a 7) 12 now_cans, arI G (now_a 10) 21 now_pairs_22, arI G (now_a 11) 21 now_knots_23] H := hP
      have hD : va_D A [oX7 t_h t_a rd_h now_h sp_h wy_h gp_h ch_h sb_h, oX1 now_h now_a now_windows now_washes now_damp now_heard now_lines now_hour now_strings_21, arI G (now_a 7) 12 now_cans, arI G (now_a 10) 21 now_pairs_22, arI G (now_a 11) 21 now_knots_23] := hD
      refine lv_iload_n hx hb dX7_blow_99 rfl (lv_at hl 0 rfl) ?_
      exact hRet _ _ _ _ _ _ _ _ hf hP hS dX7_blow_100
  · have hf := iq c_13 hf
    refine lv_aload_n hx hb dX7_blow_56 rfl (lv_at hl 4 rfl) ?_
    refine va_get (D := G.1) (ci := 7) (v := .ref now_h) (C := RX7) (T := TX7) (N := 10) hx hb hw inW7 hown hK.1 hP 0 rfl rfl 1 (by decide) (hw _ kw_1_20) (fun _ h9 => h9) rfl dX7_blow_57 ?_
    refine lv_iload hx hb dX7_blow_60 (lv_at hl 0 rfl) ?_
    obtain ⟨now_strings_25, now_pairs_26, now_knots_27, hc_28, hf⟩ := bd3_in hf
    refine wcV (w1 := [oX1 now_h now_a now_windows now_washes now_damp now_heard now_lines now_hour now_strings_25, arI G (now_a 10) 21 now_pairs_26, arI G (now_a 11) 21 now_knots_27]) (va_runV (As := [.int r_11]) (rest := []) ⟨hx, hb, hml, hown, hw⟩ ((ctX1_removeString l G now_h now_a now_windows now_washes now_damp now_heard now_lines now_hour now_strings now_pairs now_knots r_11 _ _ _ hc_28) _) (kV hw calX1_removeString kw_24_6 rfl rfl ⟨Nat.le_of_ble_eq_true rfl, Nat.le_of_ble_eq_true rfl⟩) (wpV (hP.sub (ws' := [oX1 now_h now_a now_windows now_washes now_damp now_heard now_lines now_hour now_strings, arI G (now_a 10) 21 now_pairs, arI G (now_a 11) 21 now_knots]) [1, 3, 4] rfl) (hD.sub (ws' := [oX1 now_h now_a now_windows now_washes now_damp now_heard now_lines now_hour now_strings, arI G (now_a 10) 21 now_pairs, arI G (now_a 11) 21 now_knots]) [1, 3, 4] (by decide) rfl) hK (ci := 1) (q0 := 0) rfl rfl) rfl rfl hl.1 rfl (lv_room (Nat.le_of_ble_eq_true rfl)) dX7_blow_62 ⟨Nat.zero_le _, Nat.zero_le _⟩) hS hA hP hD [1, 3, 4] rfl rfl (fun H locs hP hD hS => ?_)
    have hP : va_P G.1 vwCl [oX7 t_h t_a rd_h now_h sp_h wy_h gp_h ch_h sb_h, oX1 now_h now_a now_windows now_washes now_damp now_heard now_lines now_hour now_strings_25, arI G (now_a 7) 12 now_cans, arI G (now_a 10) 21 now_pairs_26, arI G (now_a 11) 21 now_knots_27] H := hP
    have hD : va_D A [oX7 t_h t_a rd_h now_h sp_h wy_h gp_h ch_h sb_h, oX1 now_h now_a now_windows now_washes now_damp now_heard now_lines now_hour now_strings_25, arI G (now_a 7) 12 now_cans, arI G (now_a 10) 21 now_pairs_26, arI G (now_a 11) 21 now_knots_27] := hD
    refine lv_goto (tgt := 99) hx hb dX7_blow_65 (by decide) ?_
    refine lv_iload_n hx hb dX7_blow_99 rfl (lv_at hl 2 rfl) ?_
    exact hRet _ _ _ _ _ _ _ _ hf hP hS dX7_blow_100
theorem calX7_gust : CalV yX7_gust cX7_gust 5 (some .int) 2 := ⟨⟨kw_26_13, kw_1_2, by decide +kernel⟩, kw_26_11, kw_26_12⟩
set_option maxHeartbeats 8000000 in
set_option maxRecDepth 100000 in
theorem ctX7_gust (l : Launch) (G : GT) (t_h : Nat) (t_a : Nat → Nat) (now_h : Nat) (now_a : Nat → Nat) (rd_h : Nat) (sp_h : Nat) (wy_h : Nat) (gp_h : Nat) (ch_h : Nat) (sb_h : Nat) (now_windows : Int32) (now_washes : Int32) (now_damp : Int32) (now_heard : Int32) (now_lines : Int32) (now_hour : Int32) (now_strings : Int32) (now_cans : Nat → Int32) (now_pairs : Nat → Int32) (now_knots : Nat → Int32) (v1 : Int32) (v2 : Int32) (r : Int32) (o_now_strings : Int32) (o_now_pairs : Nat → Int32) (o_now_knots : Nat → Int32) (hf : fX7_gust now_windows now_strings now_cans now_pairs now_knots v1 v2 = some (r, o_now_strings, o_now_pairs, o_now_knots)) : WrI l yX7_gust (Cond.code yX7_gust cX7_gust 5 (some .int)) { frames := 4, cells := 0, slots := 0, locals := 95 } G [.ref t_h, .int v1, .int v2] [oX7 t_h t_a rd_h now_h sp_h wy_h gp_h ch_h sb_h, oX1 now_h now_a now_windows now_washes now_damp now_heard now_lines now_hour now_strings, arI G (now_a 7) 12 now_cans, arI G (now_a 10) 21 now_pairs, arI G (now_a 11) 21 now_knots] [oX7 t_h t_a rd_h now_h sp_h wy_h gp_h ch_h sb_h, oX1 now_h now_a now_windows now_washes now_damp now_heard now_lines now_hour o_now_strings, arI G (now_a 7) 12 now_cans, arI G (now_a 10) 21 o_now_pairs, arI G (now_a 11) 21 o_now_knots] r := by
  intro sz
  refine Met.ofW (cc := cX7_gust) (maxL := 5) (ret := (some .int)) (by decide) rfl ?_
  intro p e s m args below meth c s₁ B hml hv
  obtain ⟨hargs, hsz, hP, hD0, hK⟩ := hv
  subst hsz
  obtain ⟨hx, hb, hr, hw, hown, hlk⟩ := fwB B
  refine fw_enter hargs (Nat.le_of_ble_eq_true rfl) (fun ls hl => ?_)
  have hl : lv_has ls 5 [(0, .ref t_h), (1, .int v1), (2, .int v2)] := hl
  refine fw_Q (P := fun Q => ∃ A : Nat → Prop, va_D A [oX7 t_h t_a rd_h now_h sp_h wy_h gp_h ch_h sb_h, oX1 now_h now_a now_windows now_washes now_damp now_heard now_lines now_hour now_strings, arI G (now_a 7) 12 now_cans, arI G (now_a 10) 21 now_pairs, arI G (now_a 11) 21 now_knots] ∧ va_S A s.heap s.heap [] ∧ (∀ q, s.heap.size ≤ q → A q) ∧ ∀ (v : Int32) (n_now_strings : Int32) (n_now_pairs : Nat → Int32) (n_now_knots : Nat → Int32) (H : Heap) (locs : List Loc) (pc : Nat) (ls : Array Slot), some (v, n_now_strings, n_now_pairs, n_now_knots) = some (r, o_now_strings, o_now_pairs, o_now_knots) → va_P G.1 vwCl [oX7 t_h t_a rd_h now_h sp_h wy_h gp_h ch_h sb_h, oX1 now_h now_a now_windows now_washes now_damp now_heard now_lines now_hour n_now_strings, arI G (now_a 7) 12 now_cans, arI G (now_a 10) 21 n_now_pairs, arI G (now_a 11) 21 n_now_knots] H → va_S A s.heap H locs → decode cX7_gust pc = .ok (.ireturn, 1) → W p l e ({ frames := 4, cells := 0, slots := 0, locals := 95 } : Room) s m args below meth c H locs 0 0 Q (F0 m pc ls [.int v])) ⟨va_A [oX7 t_h t_a rd_h now_h sp_h wy_h gp_h ch_h sb_h, oX1 now_h now_a now_windows now_washes now_damp now_heard now_lines now_hour now_strings, arI G (now_a 7) 12 now_cans, arI G (now_a 10) 21 now_pairs, arI G (now_a 11) 21 now_knots] s.heap.size, hD0.self (sz := s.heap.size), va_S.rf, fun q h => Or.inr h, ?_⟩ ?_
  · intro v n_now_strings n_now_pairs n_now_knots H locs pc ls h hP hS hd
    cases h
    exact retWI hx hb hr hlk hS hP rfl hd
  rintro Q ⟨A, hD, hS, hA, hRet⟩
  change W p l e ({ frames := 4, cells := 0, slots := 0, locals := 95 } : Room) s m args below meth c _ _ 0 0 Q _
  have L33 : ∀  (K : Int32 → (Nat → Int32) → (Nat → Int32) → Option (Int32 × Int32 × (Nat → Int32) × (Nat → Int32))) (n : Nat) (l3 : Int32) (l4 : Int32) (now_strings : Int32) (now_pairs : Nat → Int32) (now_knots : Nat → Int32) (H : Heap) (locs : List Loc) (ls : Array Slot), va_P G.1 vwCl [oX7 t_h t_a rd_h now_h sp_h wy_h gp_h ch_h sb_h, oX1 now_h now_a now_windows now_washes now_damp now_heard now_lines now_hour now_strings, arI G (now_a 7) 12 now_cans, arI G (now_a 10) 21 now_pairs, arI G (now_a 11) 21 now_knots] H → va_D A [oX7 t_h t_a rd_h now_h sp_h wy_h gp_h ch_h sb_h, oX1 now_h now_a now_windows now_washes now_damp now_heard now_lines now_hour now_strings, arI G (now_a 7) 12 now_cans, arI G (now_a 10) 21 now_pairs, arI G (now_a 11) 21 now_knots] → va_S A s.heap H locs → lv_has ls 5 [(0, .ref t_h), (2, .int v2), (3, .int l3), (4, .int l4)] → fX7_gust_33 v2 now_windows now_cans K n l3 l4 now_strings now_pairs now_knots = some (r, o_now_strings, o_now_pairs, o_now_knots) → (∀ (know_strings : Int32) (know_pairs : Nat → Int32) (know_knots : Nat → Int32) (H : Heap) (locs : List Loc) (ls : Array Slot), va_P G.1 vwCl [oX7 t_h t_a rd_h now_h sp_h wy_h gp_h ch_h sb_h, oX1 now_h now_a now_windows now_washes now_damp now_heard now_lines now_hour know_strings, arI G (now_a 7) 12 now_cans, arI G (now_a 10) 21 know_pairs, arI G (now_a 11) 21 know_knots] H → va_D A [oX7 t_h t_a rd_h now_h sp_h wy_h gp_h ch_h sb_h, oX1 now_h now_a now_windows now_washes now_damp now_heard now_lines now_hour know_strings, arI G (now_a 7) 12 now_cans, arI G (now_a 10) 21 know_pairs, arI G (now_a 11) 21 know_knots] → va_S A s.heap H locs → lv_has ls 5 [(0, .ref t_h)] → K know_strings know_pairs know_knots = some (r, o_now_strings, o_now_pairs, o_now_knots) → W p l e ({ frames := 4, cells := 0, slots := 0, locals := 95 } : Room) s m args below meth c H locs 0 0 Q (F0 m 51 ls [])) → W p l e ({ frames := 4, cells := 0, slots := 0, locals := 95 } : Room) s m args below meth c H locs 0 0 Q (F0 m 33 ls []) := by
    intro  K n
    induction n with
    | zero => intro l3 l4 now_strings now_pairs now_knots H locs ls hP hD hS hl hf; rw [fX7_gust_33] at hf; cases hf
    | succ n ih =>
      intro l3 l4 now_strings now_pairs now_knots H locs ls hP hD hS hl hf hX
      rw [fX7_gust_33] at hf
      refine lv_iload hx hb dX7_gust_33 (lv_at hl 3 rfl) ?_
      refine lv_iload_n hx hb dX7_gust_35 rfl (lv_at hl 1 rfl) ?_
      refine lv_icmp_ge (tgt := 51) hx hb dX7_gust_36 (by decide) (fun c_4 => ?_) (fun c_4 => ?_)
      · have hf := ip c_4 hf
        exact hX _ _ _ _ _ _ hP hD hS (lv_sub hl [0] rfl) hf
      · have hf := iq c_4 hf
        refine lv_aload_n hx hb dX7_gust_39 rfl (lv_at hl 0 rfl) ?_
        refine lv_iload_n hx hb dX7_gust_40 rfl (lv_at hl 2 rfl) ?_
        obtain ⟨r_8, now_strings_5, now_pairs_6, now_knots_7, hc_9, hf⟩ := bd4_in hf
        refine wcI (w1 := [oX7 t_h t_a rd_h now_h sp_h wy_h gp_h ch_h sb_h, oX1 now_h now_a now_windows now_washes now_damp now_heard now_lines now_hour now_strings_5, arI G (now_a 7) 12 now_cans, arI G (now_a 10) 21 now_pairs_6, arI G (now_a 11) 21 now_knots_7]) (va_runV (As := [.int l3]) (rest := []) ⟨hx, hb, hml, hown, hw⟩ ((ctX7_blow l G t_h t_a now_h now_a rd_h sp_h wy_h gp_h ch_h sb_h now_windows now_washes now_damp now_heard now_lines now_hour now_strings now_cans now_pairs now_knots l3 _ _ _ _ hc_9) _) (kV hw calX7_blow kw_26_14 rfl rfl ⟨Nat.le_of_ble_eq_true rfl, Nat.le_of_ble_eq_true rfl⟩) (wpV (hP.sub (ws' := [oX7 t_h t_a rd_h now_h sp_h wy_h gp_h ch_h sb_h, oX1 now_h now_a now_windows now_washes now_damp now_heard now_lines now_hour now_strings, arI G (now_a 7) 12 now_cans, arI G (now_a 10) 21 now_pairs, arI G (now_a 11) 21 now_knots]) [0, 1, 2, 3, 4] rfl) (hD.sub (ws' := [oX7 t_h t_a rd_h now_h sp_h wy_h gp_h ch_h sb_h, oX1 now_h now_a now_windows now_washes now_damp now_heard now_lines now_hour now_strings, arI G (now_a 7) 12 now_cans, arI G (now_a 10) 21 now_pairs, arI G (now_a 11) 21 now_knots]) [0, 1, 2, 3, 4] (by decide) rfl) hK (ci := 7) (q0 := 0) rfl rfl) rfl rfl hl.1 rfl (lv_room (Nat.le_of_ble_eq_true rfl)) dX7_gust_41 ⟨Nat.zero_le _, Nat.zero_le _⟩) hS hA hP hD [0, 1, 2, 3, 4] rfl rfl (fun H locs hP hD hS => ?_)
        have hP : va_P G.1 vwCl [oX7 t_h t_a rd_h now_h sp_h wy_h gp_h ch_h sb_h, oX1 now_h now_a now_windows now_washes now_damp now_heard now_lines now_hour now_strings_5, arI G (now_a 7) 12 now_cans, arI G (now_a 10) 21 now_pairs_6, arI G (now_a 11) 21 now_knots_7] H := hP
        have hD : va_D A [oX7 t_h t_a rd_h now_h sp_h wy_h gp_h ch_h sb_h, oX1 now_h now_a now_windows now_washes now_damp now_heard now_lines now_hour now_strings_5, arI G (now_a 7) 12 now_cans, arI G (now_a 10) 21 now_pairs_6, arI G (now_a 11) 21 now_knots_7] := hD
        refine lv_istore_n (lv' := [(3, .int r_8), (0, .ref t_h), (2, .int v2), (4, .int l4)]) hx hb dX7_gust_44 rfl hl (by decide) rfl (fun ls hl => ?_)
        refine lv_iinc (v := (l4 + 1)) (lv' := [(4, .int (l4 + 1)), (3, .int r_8), (0, .ref t_h), (2, .int v2)]) hx hb dX7_gust_45 hl (k := 3) rfl (by rfl) (by decide) rfl (fun ls hl => ?_)
        refine lv_goto (tgt := 33) hx hb dX7_gust_48 (by decide) ?_
        exact ih _ _ _ _ _ _ _ _ hP hD hS (lv_sub hl [2, 3, 1, 0] rfl) hf hX
  unfold fX7_gust at hf
  refine lv_aload_n hx hb dX7_gust_0 rfl (lv_at hl 0 rfl) ?_
  refine va_get (D := G.1) (ci := 7) (v := .ref now_h) (C := RX7) (T := TX7) (N := 10) hx hb hw inW7 hown hK.1 hP 0 rfl rfl 1 (by decide) (hw _ kw_1_20) (fun _ h9 => h9) rfl dX7_gust_1 ?_
  refine va_getN (D := G.1) (ci := 1) (v := .int now_windows) (C := RX1) (T := TX1) (N := 12) hx hb hw inW1 hown hK.1 hP 1 rfl rfl 0 (by decide) ((nf_6 hK.2).use rfl) (fun _ h9 => h9) rfl dX7_gust_4 ?_
  refine lv_iconst (v := 1) hx hb dX7_gust_7 (by decide) ?_
  refine lv_icmp_ge (tgt := 14) hx hb dX7_gust_8 (by decide) (fun c_1 => ?_) (fun c_1 => ?_)
  · have hf := ip c_1 hf
    refine lv_iload_n hx hb dX7_gust_14 rfl (lv_at hl 2 rfl) ?_
    refine lv_iconst (v := 1) hx hb dX7_gust_15 (by decide) ?_
    refine lv_icmp_lt (tgt := 25) hx hb dX7_gust_16 (by decide) (fun c_2 => ?_) (fun c_2 => ?_)
    · have hf := ip c_2 hf
      refine lv_bipush (v := (-3)) hx hb dX7_gust_25 (by decide) ?_
      exact hRet _ _ _ _ _ _ _ _ hf hP hS dX7_gust_27
    · have hf := iq c_2 hf
      refine lv_iload_n hx hb dX7_gust_19 rfl (lv_at hl 2 rfl) ?_
      refine lv_bipush (v := 60) hx hb dX7_gust_20 (by decide) ?_
      refine lv_icmp_le (tgt := 28) hx hb dX7_gust_22 (by decide) (fun c_3 => ?_) (fun c_3 => ?_)
      · have hf := ip c_3 hf
        refine lv_iload_n hx hb dX7_gust_28 rfl (lv_at hl 1 rfl) ?_
        refine lv_istore_n (lv' := [(3, .int v1), (0, .ref t_h), (1, .int v1), (2, .int v2)]) hx hb dX7_gust_29 rfl hl (by decide) rfl (fun ls hl => ?_)
        refine lv_iconst (v := 0) hx hb dX7_gust_30 (by decide) ?_
        refine lv_istore (lv' := [(4, .int 0), (3, .int v1), (0, .ref t_h), (1, .int v1), (2, .int v2)]) hx hb dX7_gust_31 hl (by decide) rfl (fun ls hl => ?_)
        refine L33  _ _ _ _ _ _ _ _ _ _ hP hD hS (lv_sub hl [2, 4, 1, 0] rfl) hf (fun now_strings_10 now_pairs_11 now_knots_12 H locs ls hP hD hS hl hf => ?_)
        refine lv_aload_n hx hb dX7_gust_51 rfl (lv_at hl 0 rfl) ?_
        refine va_get (D := G.1) (ci := 7) (v := .ref now_h) (C := RX7) (T := TX7) (N := 10) hx hb hw inW7 hown hK.1 hP 0 rfl rfl 1 (by decide) (hw _ kw_1_20) (fun _ h9 => h9) rfl dX7_gust_52 ?_
        refine va_getN (D := G.1) (ci := 1) (v := .int now_strings_10) (C := RX1) (T := TX1) (N := 12) hx hb hw inW1 hown hK.1 hP 1 rfl rfl 6 (by decide) ((nf_18 hK.2).use rfl) (fun _ h9 => h9) rfl dX7_gust_55 ?_
        exact hRet _ _ _ _ _ _ _ _ hf hP hS dX7_gust_58
      · have hf := iq c_3 hf
        refine lv_bipush (v := (-3)) hx hb dX7_gust_25 (by decide) ?_
        exact hRet _ _ _ _ _ _ _ _ hf hP hS dX7_gust_27
  · have hf := iq c_1 hf
    refine lv_bipush (v := (-5)) hx hb dX7_gust_11 (by decide) ?_
    exact hRet _ _ _ _ _ _ _ _ hf hP hS dX7_gust_13
theorem calX7_areTwoWindows : CalV yX7_areTwoWindows cX7_areTwoWindows 3 (some .boolean) 2 := ⟨⟨kw_27_20, kw_1_2, by decide +kernel⟩, kw_27_18, kw_27_19⟩
set_option maxHeartbeats 8000000 in
set_option maxRecDepth 100000 in
theorem ctX7_areTwoWindows (l : Launch) (G : GT) (t_h : Nat) (t_a : Nat → Nat) (now_h : Nat) (now_a : Nat → Nat) (rd_h : Nat) (sp_h : Nat) (wy_h : Nat) (gp_h : Nat) (ch_h : Nat) (sb_h : Nat) (now_windows : Int32) (now_washes : Int32) (now_damp : Int32) (now_heard : Int32) (now_lines : Int32) (now_hour : Int32) (now_strings : Int32) (v1 : Int32) (v2 : Int32) (r : Int32) (hf : fX7_areTwoWindows now_windows v1 v2 = some r) : RdI l yX7_areTwoWindows (Cond.code yX7_areTwoWindows cX7_areTwoWindows 3 (some .boolean)) { frames := 1, cells := 0, slots := 0, locals := 21 } G [.ref t_h, .int v1, .int v2] [oX7 t_h t_a rd_h now_h sp_h wy_h gp_h ch_h sb_h, oX1 now_h now_a now_windows now_washes now_damp now_heard now_lines now_hour now_strings] r := by
  intro sz
  refine Met.ofW (cc := cX7_areTwoWindows) (maxL := 3) (ret := (some .boolean)) (by decide) rfl ?_
  intro p e s m args below meth c s₁ B hml hv
  obtain ⟨hargs, hsz, hP, hK⟩ := hv
  subst hsz
  obtain ⟨hx, hb, hr, hw, hown, hlk⟩ := fwB B
  refine fw_enter hargs (Nat.le_of_ble_eq_true rfl) (fun ls hl => ?_)
  have hl : lv_has ls 3 [(0, .ref t_h), (1, .int v1), (2, .int v2)] := hl
  refine fw_Q (P := fun Q => ∃ A : Nat → Prop, va_S A s.heap s.heap [] ∧ (∀ q, s.heap.size ≤ q → A q) ∧ ∀ (v : Int32) (H : Heap) (locs : List Loc) (pc : Nat) (ls : Array Slot), some v = some r → va_S A s.heap H locs → narrow .boolean (.int v) = .int v → decode cX7_areTwoWindows pc = .ok (.ireturn, 1) → W p l e ({ frames := 1, cells := 0, slots := 0, locals := 21 } : Room) s m args below meth c H locs 0 0 Q (F0 m pc ls [.int v])) ⟨fun q => s.heap.size ≤ q, va_S.rf, fun q h => h, fun v H locs pc ls h hS hn hd => retRZ hx hb hr hlk hS hn h hd⟩ ?_
  rintro Q ⟨A, hS, hA, hRet⟩
  change W p l e ({ frames := 1, cells := 0, slots := 0, locals := 21 } : Room) s m args below meth c _ _ 0 0 Q _
  unfold fX7_areTwoWindows at hf
  refine lv_aload_n hx hb dX7_areTwoWindows_0 rfl (lv_at hl 0 rfl) ?_
  refine va_get (D := G.1) (ci := 7) (v := .ref now_h) (C := RX7) (T := TX7) (N := 10) hx hb hw inW7 hown hK.1 hP 0 rfl rfl 1 (by decide) (hw _ kw_1_20) (fun _ h9 => h9) rfl dX7_areTwoWindows_1 ?_
  refine lv_iload_n hx hb dX7_areTwoWindows_4 rfl (lv_at hl 1 rfl) ?_
  obtain ⟨r_1, hc_2, hf⟩ := bd1_in hf
  refine rcI (va_runV (As := [.int v1]) (rest := []) ⟨hx, hb, hml, hown, hw⟩ ((ctX1_hasWindow l G now_h now_a now_windows now_washes now_damp now_heard now_lines now_hour now_strings v1 _ hc_2) _) (kV hw calX1_hasWindow kw_18_1 rfl rfl ⟨Nat.le_of_ble_eq_true rfl, Nat.le_of_ble_eq_true rfl⟩) (rpV (hP.sub (ws' := [oX1 now_h now_a now_windows now_washes now_damp now_heard now_lines now_hour now_strings]) [1] rfl) hK (ci := 1) (q0 := 0) rfl rfl) rfl rfl hl.1 rfl (lv_room (Nat.le_of_ble_eq_true rfl)) dX7_areTwoWindows_5 ⟨Nat.zero_le _, Nat.zero_le _⟩) hS hA hP (fun H locs hP hS => ?_)
  refine lv_if_eq (tgt := 31) hx hb dX7_areTwoWindows_8 (by decide) (fun c_3 => ?_) (fun c_3 => ?_)
  · have hf := ip c_3 hf
    refine lv_iconst (v := 0) hx hb dX7_areTwoWindows_31 (by decide) ?_
    exact hRet _ _ _ _ _ hf hS (by decide +kernel) dX7_areTwoWindows_32
  · have hf := iq c_3 hf
    refine lv_aload_n hx hb dX7_areTwoWindows_11 rfl (lv_at hl 0 rfl) ?_
    refine va_get (D := G.1) (ci := 7) (v := .ref now_h) (C := RX7) (T := TX7) (N := 10) hx hb hw inW7 hown hK.1 hP 0 rfl rfl 1 (by decide) (hw _ kw_1_20) (fun _ h9 => h9) rfl dX7_areTwoWindows_12 ?_
    refine lv_iload_n hx hb dX7_areTwoWindows_15 rfl (lv_at hl 2 rfl) ?_
    obtain ⟨r_4, hc_5, hf⟩ := bd1_in hf
    refine rcI (va_runV (As := [.int v2]) (rest := []) ⟨hx, hb, hml, hown, hw⟩ ((ctX1_hasWindow l G now_h now_a now_windows now_washes now_damp now_heard now_lines now_hour now_strings v2 _ hc_5) _) (kV hw calX1_hasWindow kw_18_1 rfl rfl ⟨Nat.le_of_ble_eq_true rfl, Nat.le_of_ble_eq_true rfl⟩) (rpV (hP.sub (ws' := [oX1 now_h now_a now_windows now_washes now_damp now_heard now_lines now_hour now_strings]) [1] rfl) hK (ci := 1) (q0 := 0) rfl rfl) rfl rfl hl.1 rfl (lv_room (Nat.le_of_ble_eq_true rfl)) dX7_areTwoWindows_16 ⟨Nat.zero_le _, Nat.zero_le _⟩) hS hA hP (fun H locs hP hS => ?_)
    refine lv_if_eq (tgt := 31) hx hb dX7_areTwoWindows_19 (by decide) (fun c_6 => ?_) (fun c_6 => ?_)
    · have hf := ip c_6 hf
      refine lv_iconst (v := 0) hx hb dX7_areTwoWindows_31 (by decide) ?_
      exact hRet _ _ _ _ _ hf hS (by decide +kernel) dX7_areTwoWindows_32
    · have hf := iq c_6 hf
      refine lv_iload_n hx hb dX7_areTwoWindows_22 rfl (lv_at hl 1 rfl) ?_
      refine lv_iload_n hx hb dX7_areTwoWindows_23 rfl (lv_at hl 2 rfl) ?_
      refine lv_icmp_eq (tgt := 31) hx hb dX7_areTwoWindows_24 (by decide) (fun c_7 => ?_) (fun c_7 => ?_)
      · have hf := ip c_7 hf
        refine lv_iconst (v := 0) hx hb dX7_areTwoWindows_31 (by decide) ?_
        exact hRet _ _ _ _ _ hf hS (by decide +kernel) dX7_areTwoWindows_32
      · have hf := iq c_7 hf
        refine lv_iconst (v := 1) hx hb dX7_areTwoWindows_27 (by decide) ?_
        refine lv_goto (tgt := 32) hx hb dX7_areTwoWindows_28 (by decide) ?_
        exact hRet _ _ _ _ _ hf hS (by decide +kernel) dX7_areTwoWindows_32
theorem calX7_best : CalV yX7_best cX7_best 7 (some .int) 4 := ⟨⟨kw_27_16, kw_1_2, by decide +kernel⟩, kw_27_14, kw_27_15⟩
set_option maxHeartbeats 8000000 in
set_option maxRecDepth 100000 in
theorem ctX7_best (l : Launch) (G : GT) (t_h : Nat) (t_a : Nat → Nat) (now_h : Nat) (now_a : Nat → Nat) (wy_h : Nat) (wy_a : Nat → Nat) (rd_h : Nat) (sp_h : Nat) (gp_h : Nat) (ch_h : Nat) (sb_h : Nat) (now_windows : Int32) (now_washes : Int32) (now_damp : Int32) (now_heard : Int32) (now_lines : Int32) (now_hour : Int32) (now_strings : Int32) (now_washPairs : Nat → Int32) (now_washHours : Nat → Int32) (now_pairs : Nat → Int32) (now_knots : Nat → Int32) (wy_windows : Int32) (wy_links : Nat → Int32) (wy_prices : Nat → Int32) (wy_rest : Nat → Int32) (wy_goal : Int32) (wy_otherFrom : Int32) (wy_otherTo : Int32) (wy_least : Int32) (v1 : Int32) (v2 : Int32) (v3 : Int32) (v4 : Int32) (r : Int32) (o_wy_windows : Int32) (o_wy_links : Nat → Int32) (o_wy_prices : Nat → Int32) (o_wy_rest : Nat → Int32) (hf : fX7_best now_windows now_washes now_damp now_hour now_strings now_washPairs now_washHours now_pairs now_knots wy_windows wy_links wy_prices wy_rest v1 v2 v3 v4 = some (r, o_wy_windows, o_wy_links, o_wy_prices, o_wy_rest)) : WrI l yX7_best (Cond.code yX7_best cX7_best 7 (some .int)) { frames := 5, cells := 0, slots := 0, locals := 108 } G [.ref t_h, .int v1, .int v2, .int v3, .int v4] [oX7 t_h t_a rd_h now_h sp_h wy_h gp_h ch_h sb_h, oX1 now_h now_a now_windows now_washes now_damp now_heard now_lines now_hour now_strings, arI G (now_a 8) 8 now_washPairs, arI G (now_a 9) 8 now_washHours, arI G (now_a 10) 21 now_pairs, arI G (now_a 11) 21 now_knots, oX6 wy_h wy_a wy_windows wy_goal wy_otherFrom wy_otherTo wy_least, arI G (wy_a 1) 12 wy_links, arI G (wy_a 2) 144 wy_prices, arI G (wy_a 3) 12 wy_rest] [oX7 t_h t_a rd_h now_h sp_h wy_h gp_h ch_h sb_h, oX1 now_h now_a now_windows now_washes now_damp now_heard now_lines now_hour now_strings, arI G (now_a 8) 8 now_washPairs, arI G (now_a 9) 8 now_washHours, arI G (now_a 10) 21 now_pairs, arI G (now_a 11) 21 now_knots, oX6 wy_h wy_a o_wy_windows wy_goal wy_otherFrom wy_otherTo wy_least, arI G (wy_a 1) 12 o_wy_links, arI G (wy_a 2) 144 o_wy_prices, arI G (wy_a 3) 12 o_wy_rest] r := by
  intro sz
  refine Met.ofW (cc := cX7_best) (maxL := 7) (ret := (some .int)) (by decide) rfl ?_
  intro p e s m args below meth c s₁ B hml hv
  obtain ⟨hargs, hsz, hP, hD0, hK⟩ := hv
  subst hsz
  obtain ⟨hx, hb, hr, hw, hown, hlk⟩ := fwB B
  refine fw_enter hargs (Nat.le_of_ble_eq_true rfl) (fun ls hl => ?_)
  have hl : lv_has ls 7 [(0, .ref t_h), (1, .int v1), (2, .int v2), (3, .int v3), (4, .int v4)] := hl
  refine fw_Q (P := fun Q => ∃ A : Nat → Prop, va_D A [oX7 t_h t_a rd_h now_h sp_h wy_h gp_h ch_h sb_h, oX1 now_h now_a now_windows now_washes now_damp now_heard now_lines now_hour now_strings, arI G (now_a 8) 8 now_washPairs, arI G (now_a 9) 8 now_washHours, arI G (now_a 10) 21 now_pairs, arI G (now_a 11) 21 now_knots, oX6 wy_h wy_a wy_windows wy_goal wy_otherFrom wy_otherTo wy_least, arI G (wy_a 1) 12 wy_links, arI G (wy_a 2) 144 wy_prices, arI G (wy_a 3) 12 wy_rest] ∧ va_S A s.heap s.heap [] ∧ (∀ q, s.heap.size ≤ q → A q) ∧ ∀ (v : Int32) (n_wy_windows : Int32) (n_wy_links : Nat → Int32) (n_wy_prices : Nat → Int32) (n_wy_rest : Nat → Int32) (H : Heap) (locs : List Loc) (pc : Nat) (ls : Array Slot), some (v, n_wy_windows, n_wy_links, n_wy_prices, n_wy_rest) = some (r, o_wy_windows, o_wy_links, o_wy_prices, o_wy_rest) → va_P G.1 vwCl [oX7 t_h t_a rd_h now_h sp_h wy_h gp_h ch_h sb_h, oX1 now_h now_a now_windows now_washes now_damp now_heard now_lines now_hour now_strings, arI G (now_a 8) 8 now_washPairs, arI G (now_a 9) 8 now_washHours, arI G (now_a 10) 21 now_pairs, arI G (now_a 11) 21 now_knots, oX6 wy_h wy_a n_wy_windows wy_goal wy_otherFrom wy_otherTo wy_least, arI G (wy_a 1) 12 n_wy_links, arI G (wy_a 2) 144 n_wy_prices, arI G (wy_a 3) 12 n_wy_rest] H → va_S A s.heap H locs → decode cX7_best pc = .ok (.ireturn, 1) → W p l e ({ frames := 5, cells := 0, slots := 0, locals := 108 } : Room) s m args below meth c H locs 0 0 Q (F0 m pc ls [.int v])) ⟨va_A [oX7 t_h t_a rd_h now_h sp_h wy_h gp_h ch_h sb_h, oX1 now_h now_a now_windows now_washes now_damp now_heard now_lines now_hour now_strings, arI G (now_a 8) 8 now_washPairs, arI G (now_a 9) 8 now_washHours, arI G (now_a 10) 21 now_pairs, arI G (now_a 11) 21 now_knots, oX6 wy_h wy_a wy_windows wy_goal wy_otherFrom wy_otherTo wy_least, arI G (wy_a 1) 12 wy_links, arI G (wy_a 2) 144 wy_prices, arI G (wy_a 3) 12 wy_rest] s.heap.size, hD0.self (sz := s.heap.size), va_S.rf, fun q h => Or.inr h, ?_⟩ ?_
  · intro v n_wy_windows n_wy_links n_wy_prices n_wy_rest H locs pc ls h hP hS hd
    cases h
    exact retWI hx hb hr hlk hS hP rfl hd
  rintro Q ⟨A, hD, hS, hA, hRet⟩
  change W p l e ({ frames := 5, cells := 0, slots := 0, locals := 108 } : Room) s m args below meth c _ _ 0 0 Q _
  unfold fX7_best at hf
  refine lv_iload hx hb dX7_best_0 (lv_at hl 4 rfl) ?_
  refine lv_bipush (v := 10) hx hb dX7_best_2 (by decide) ?_
  refine jn_el hf (fun k_2 ek_2 hf => ?_)
  have J19 : ∀ (z_1 : Int32) (H : Heap) (locs : List Loc) (ls : Array Slot), va_P G.1 vwCl [oX7 t_h t_a rd_h now_h sp_h wy_h gp_h ch_h sb_h, oX1 now_h now_a now_windows now_washes now_damp now_heard now_lines now_hour now_strings, arI G (now_a 8) 8 now_washPairs, arI G (now_a 9) 8 now_washHours, arI G (now_a 10) 21 now_pairs, arI G (now_a 11) 21 now_knots, oX6 wy_h wy_a wy_windows wy_goal wy_otherFrom wy_otherTo wy_least, arI G (wy_a 1) 12 wy_links, arI G (wy_a 2) 144 wy_prices, arI G (wy_a 3) 12 wy_rest] H → va_D A [oX7 t_h t_a rd_h now_h sp_h wy_h gp_h ch_h sb_h, oX1 now_h now_a now_windows now_washes now_damp now_heard now_lines now_hour now_strings, arI G (now_a 8) 8 now_washPairs, arI G (now_a 9) 8 now_washHours, arI G (now_a 10) 21 now_pairs, arI G (now_a 11) 21 now_knots, oX6 wy_h wy_a wy_windows wy_goal wy_otherFrom wy_otherTo wy_least, arI G (wy_a 1) 12 wy_links, arI G (wy_a 2) 144 wy_prices, arI G (wy_a 3) 12 wy_rest] → va_S A s.heap H locs → lv_has ls 7 [(0, .ref t_h), (1, .int v1), (2, .int v2), (3, .int v3), (4, .int v4)] → k_2 z_1 = some (r, o_wy_windows, o_wy_links, o_wy_prices, o_wy_rest) → W p l e ({ frames := 5, cells := 0, slots := 0, locals := 108 } : Room) s m args below meth c H locs 0 0 Q (F0 m 19 ls [.int z_1]) := by
    intro z_1 H locs ls hP hD hS hl hf
    rw [ek_2] at hf
    refine lv_istore (lv' := [(5, .int z_1), (0, .ref t_h), (1, .int v1), (2, .int v2), (3, .int v3), (4, .int v4)]) hx hb dX7_best_19 hl (by decide) rfl (fun ls hl => ?_)
    refine lv_aload_n hx hb dX7_best_21 rfl (lv_at hl 1 rfl) ?_
    refine lv_iload_n hx hb dX7_best_22 rfl (lv_at hl 2 rfl) ?_
    refine lv_iload_n hx hb dX7_best_23 rfl (lv_at hl 3 rfl) ?_
    obtain ⟨r_3, hc_4, hf⟩ := bd1_in hf
    refine rcI (va_runV (As := [.int v1, .int v2]) (rest := []) ⟨hx, hb, hml, hown, hw⟩ ((ctX7_areTwoWindows l G t_h t_a now_h now_a rd_h sp_h wy_h gp_h ch_h sb_h now_windows now_washes now_damp now_heard now_lines now_hour now_strings v1 v2 _ hc_4) _) (kV hw calX7_areTwoWindows kw_27_17 rfl rfl ⟨Nat.le_of_ble_eq_true rfl, Nat.le_of_ble_eq_true rfl⟩) (rpV (hP.sub (ws' := [oX7 t_h t_a rd_h now_h sp_h wy_h gp_h ch_h sb_h, oX1 now_h now_a now_windows now_washes now_damp now_heard now_lines now_hour now_strings]) [0, 1] rfl) hK (ci := 7) (q0 := 0) rfl rfl) rfl rfl hl.1 rfl (lv_room (Nat.le_of_ble_eq_true rfl)) dX7_best_24 ⟨Nat.zero_le _, Nat.zero_le _⟩) hS hA hP (fun H locs hP hS => ?_)
    refine lv_if_eq (tgt := 46) hx hb dX7_best_27 (by decide) (fun c_5 => ?_) (fun c_5 => ?_)
    · have hf := ip c_5 hf
      refine lv_bipush (v := (-2)) hx hb dX7_best_46 (by decide) ?_
      exact hRet _ _ _ _ _ _ _ _ _ hf hP hS dX7_best_48
    · have hf := iq c_5 hf
      refine lv_iload hx hb dX7_best_30 (lv_at hl 5 rfl) ?_
      refine jn_el hf (fun k_6 ek_6 hf => ?_)
      have J49 : ∀  (H : Heap) (locs : List Loc) (ls : Array Slot), va_P G.1 vwCl [oX7 t_h t_a rd_h now_h sp_h wy_h gp_h ch_h sb_h, oX1 now_h now_a now_windows now_washes now_damp now_heard now_lines now_hour now_strings, arI G (now_a 8) 8 now_washPairs, arI G (now_a 9) 8 now_washHours, arI G (now_a 10) 21 now_pairs, arI G (now_a 11) 21 now_knots, oX6 wy_h wy_a wy_windows wy_goal wy_otherFrom wy_otherTo wy_least, arI G (wy_a 1) 12 wy_links, arI G (wy_a 2) 144 wy_prices, arI G (wy_a 3) 12 wy_rest] H → va_D A [oX7 t_h t_a rd_h now_h sp_h wy_h gp_h ch_h sb_h, oX1 now_h now_a now_windows now_washes now_damp now_heard now_lines now_hour now_strings, arI G (now_a 8) 8 now_washPairs, arI G (now_a 9) 8 now_washHours, arI G (now_a 10) 21 now_pairs, arI G (now_a 11) 21 now_knots, oX6 wy_h wy_a wy_windows wy_goal wy_otherFrom wy_otherTo wy_least, arI G (wy_a 1) 12 wy_links, arI G (wy_a 2) 144 wy_prices, arI G (wy_a 3) 12 wy_rest] → va_S A s.heap H locs → lv_has ls 7 [(0, .ref t_h), (1, .int v1), (2, .int v2), (3, .int v3), (4, .int v4)] → k_6 = some (r, o_wy_windows, o_wy_links, o_wy_prices, o_wy_rest) → W p l e ({ frames := 5, cells := 0, slots := 0, locals := 108 } : Room) s m args below meth c H locs 0 0 Q (F0 m 49 ls []) := by
        intro  H locs ls hP hD hS hl hf
        rw [ek_6] at hf
        refine lv_aload_n hx hb dX7_best_49 rfl (lv_at hl 0 rfl) ?_
        refine va_get (D := G.1) (ci := 7) (v := .ref now_h) (C := RX7) (T := TX7) (N := 10) hx hb hw inW7 hown hK.1 hP 0 rfl rfl 1 (by decide) (hw _ kw_1_20) (fun _ h9 => h9) rfl dX7_best_50 ?_
        obtain ⟨r_7, hc_8, hf⟩ := bd1_in hf
        refine rcI (va_runV (As := []) (rest := []) ⟨hx, hb, hml, hown, hw⟩ ((ctX1_everyWindow l G now_h now_a now_windows now_washes now_damp now_heard now_lines now_hour now_strings _ hc_8) _) (kV hw calX1_everyWindow kw_27_21 rfl rfl ⟨Nat.le_of_ble_eq_true rfl, Nat.le_of_ble_eq_true rfl⟩) (rpV (hP.sub (ws' := [oX1 now_h now_a now_windows now_washes now_damp now_heard now_lines now_hour now_strings]) [1] rfl) hK (ci := 1) (q0 := 0) rfl rfl) rfl rfl hl.1 rfl (lv_room (Nat.le_of_ble_eq_true rfl)) dX7_best_53 ⟨Nat.zero_le _, Nat.zero_le _⟩) hS hA hP (fun H locs hP hS => ?_)
        refine lv_iconst (v := 1) hx hb dX7_best_56 (by decide) ?_
        refine lv_iload_n hx hb dX7_best_57 rfl (lv_at hl 1 rfl) ?_
        refine lv_ishl hx hb dX7_best_58 ?_
        refine lv_iconst (v := (-1)) hx hb dX7_best_59 (by decide) ?_
        refine lv_ixor hx hb dX7_best_60 ?_
        refine lv_iand hx hb dX7_best_61 ?_
        refine lv_iconst (v := 1) hx hb dX7_best_62 (by decide) ?_
        refine lv_iload_n hx hb dX7_best_63 rfl (lv_at hl 2 rfl) ?_
        refine lv_ishl hx hb dX7_best_64 ?_
        refine lv_iconst (v := (-1)) hx hb dX7_best_65 (by decide) ?_
        refine lv_ixor hx hb dX7_best_66 ?_
        refine lv_iand hx hb dX7_best_67 ?_
        refine lv_topi (fun y_9 ey_9 => ?_)
        have hf := bnd_all hf y_9 ey_9
        refine lv_istore (lv' := [(6, .int y_9), (0, .ref t_h), (1, .int v1), (2, .int v2), (3, .int v3), (4, .int v4)]) hx hb dX7_best_68 hl (by decide) rfl (fun ls hl => ?_)
        refine lv_iload_n hx hb dX7_best_70 rfl (lv_at hl 4 rfl) ?_
        refine lv_iload hx hb dX7_best_71 (lv_at hl 0 rfl) ?_
        refine lv_iconst (v := (-1)) hx hb dX7_best_73 (by decide) ?_
        refine lv_ixor hx hb dX7_best_74 ?_
        refine lv_iand hx hb dX7_best_75 ?_
        refine lv_if_eq (tgt := 82) hx hb dX7_best_76 (by decide) (fun c_10 => ?_) (fun c_10 => ?_)
        · have hf := ip c_10 hf
          refine lv_aload_n hx hb dX7_best_82 rfl (lv_at hl 1 rfl) ?_
          refine va_get (D := G.1) (ci := 7) (v := .ref wy_h) (C := RX7) (T := TX7) (N := 10) hx hb hw inW7 hown hK.1 hP 0 rfl rfl 3 (by decide) (hw _ kw_2_1) (fun _ h9 => h9) rfl dX7_best_83 ?_
          refine lv_aload_n hx hb dX7_best_86 rfl (lv_at hl 1 rfl) ?_
          refine va_get (D := G.1) (ci := 7) (v := .ref now_h) (C := RX7) (T := TX7) (N := 10) hx hb hw inW7 hown hK.1 hP 0 rfl rfl 1 (by decide) (hw _ kw_1_20) (fun _ h9 => h9) rfl dX7_best_87 ?_
          refine lv_aload_n hx hb dX7_best_90 rfl (lv_at hl 1 rfl) ?_
          refine va_get (D := G.1) (ci := 7) (v := .ref now_h) (C := RX7) (T := TX7) (N := 10) hx hb hw inW7 hown hK.1 hP 0 rfl rfl 1 (by decide) (hw _ kw_1_20) (fun _ h9 => h9) rfl dX7_best_91 ?_
          refine va_getN (D := G.1) (ci := 1) (v := .int now_hour) (C := RX1) (T := TX1) (N := 12) hx hb hw inW1 hown hK.1 hP 1 rfl rfl 5 (by decide) ((nf_16 hK.2).use rfl) (fun _ h9 => h9) rfl dX7_best_94 ?_
          obtain ⟨wy_windows_11, wy_links_12, wy_prices_13, hc_14, hf⟩ := bd3_in hf
          refine wcV (w1 := [oX6 wy_h wy_a wy_windows_11 wy_goal wy_otherFrom wy_otherTo wy_least, arI G (wy_a 1) 12 wy_links_12, arI G (wy_a 2) 144 wy_prices_13, oX1 now_h now_a now_windows now_washes now_damp now_heard now_lines now_hour now_strings, arI G (now_a 8) 8 now_washPairs, arI G (now_a 9) 8 now_washHours, arI G (now_a 10) 21 now_pairs, arI G (now_a 11) 21 now_knots]) (va_runV (As := [.ref now_h, .int now_hour]) (rest := []) ⟨hx, hb, hml, hown, hw⟩ ((ctX6_takeStrings l G wy_h wy_a now_h now_a wy_windows wy_links wy_prices wy_goal wy_otherFrom wy_otherTo wy_least now_windows now_washes now_damp now_heard now_lines now_hour now_strings now_washPairs now_washHours now_pairs now_knots now_hour _ _ _ hc_14) _) (kV hw calX6_takeStrings kw_18_10 rfl rfl ⟨Nat.le_of_ble_eq_true rfl, Nat.le_of_ble_eq_true rfl⟩) (wpV (hP.sub (ws' := [oX6 wy_h wy_a wy_windows wy_goal wy_otherFrom wy_otherTo wy_least, arI G (wy_a 1) 12 wy_links, arI G (wy_a 2) 144 wy_prices, oX1 now_h now_a now_windows now_washes now_damp now_heard now_lines now_hour now_strings, arI G (now_a 8) 8 now_washPairs, arI G (now_a 9) 8 now_washHours, arI G (now_a 10) 21 now_pairs, arI G (now_a 11) 21 now_knots]) [6, 7, 8, 1, 2, 3, 4, 5] rfl) (hD.sub (ws' := [oX6 wy_h wy_a wy_windows wy_goal wy_otherFrom wy_otherTo wy_least, arI G (wy_a 1) 12 wy_links, arI G (wy_a 2) 144 wy_prices, oX1 now_h now_a now_windows now_washes now_damp now_heard now_lines now_hour now_strings, arI G (now_a 8) 8 now_washPairs, arI G (now_a 9) 8 now_washHours, arI G (now_a 10) 21 now_pairs, arI G (now_a 11) 21 now_knots]) [6, 7, 8, 1, 2, 3, 4, 5] (by decide) rfl) hK (ci := 6) (q0 := 0) rfl rfl) rfl rfl hl.1 rfl (lv_room (Nat.le_of_ble_eq_true rfl)) dX7_best_97 ⟨Nat.zero_le _, Nat.zero_le _⟩) hS hA hP hD [6, 7, 8, 1, 2, 3, 4, 5] rfl rfl (fun H locs hP hD hS => ?_)
          have hP : va_P G.1 vwCl [oX7 t_h t_a rd_h now_h sp_h wy_h gp_h ch_h sb_h, oX1 now_h now_a now_windows now_washes now_damp now_heard now_lines now_hour now_strings, arI G (now_a 8) 8 now_washPairs, arI G (now_a 9) 8 now_washHours, arI G (now_a 10) 21 now_pairs, arI G (now_a 11) 21 now_knots, oX6 wy_h wy_a wy_windows_11 wy_goal wy_otherFrom wy_otherTo wy_least, arI G (wy_a 1) 12 wy_links_12, arI G (wy_a 2) 144 wy_prices_13, arI G (wy_a 3) 12 wy_rest] H := hP
          have hD : va_D A [oX7 t_h t_a rd_h now_h sp_h wy_h gp_h ch_h sb_h, oX1 now_h now_a now_windows now_washes now_damp now_heard now_lines now_hour now_strings, arI G (now_a 8) 8 now_washPairs, arI G (now_a 9) 8 now_washHours, arI G (now_a 10) 21 now_pairs, arI G (now_a 11) 21 now_knots, oX6 wy_h wy_a wy_windows_11 wy_goal wy_otherFrom wy_otherTo wy_least, arI G (wy_a 1) 12 wy_links_12, arI G (wy_a 2) 144 wy_prices_13, arI G (wy_a 3) 12 wy_rest] := hD
          refine lv_aload_n hx hb dX7_best_100 rfl (lv_at hl 1 rfl) ?_
          refine va_get (D := G.1) (ci := 7) (v := .ref wy_h) (C := RX7) (T := TX7) (N := 10) hx hb hw inW7 hown hK.1 hP 0 rfl rfl 3 (by decide) (hw _ kw_2_1) (fun _ h9 => h9) rfl dX7_best_101 ?_
          refine lv_iload_n hx hb dX7_best_104 rfl (lv_at hl 3 rfl) ?_
          refine lv_iload_n hx hb dX7_best_105 rfl (lv_at hl 4 rfl) ?_
          obtain ⟨wy_rest_15, hc_16, hf⟩ := bd1_in hf
          refine wcV (w1 := [oX6 wy_h wy_a wy_windows_11 wy_goal wy_otherFrom wy_otherTo wy_least, arI G (wy_a 1) 12 wy_links_12, arI G (wy_a 2) 144 wy_prices_13, arI G (wy_a 3) 12 wy_rest_15]) (va_runV (As := [.int v2, .int v3]) (rest := []) ⟨hx, hb, hml, hown, hw⟩ ((ctX6_measure l G wy_h wy_a wy_windows_11 wy_links_12 wy_prices_13 wy_rest wy_goal wy_otherFrom wy_otherTo wy_least v2 v3 _ hc_16) _) (kV hw calX6_measure kw_28_1 rfl rfl ⟨Nat.le_of_ble_eq_true rfl, Nat.le_of_ble_eq_true rfl⟩) (wpV (hP.sub (ws' := [oX6 wy_h wy_a wy_windows_11 wy_goal wy_otherFrom wy_otherTo wy_least, arI G (wy_a 1) 12 wy_links_12, arI G (wy_a 2) 144 wy_prices_13, arI G (wy_a 3) 12 wy_rest]) [6, 7, 8, 9] rfl) (hD.sub (ws' := [oX6 wy_h wy_a wy_windows_11 wy_goal wy_otherFrom wy_otherTo wy_least, arI G (wy_a 1) 12 wy_links_12, arI G (wy_a 2) 144 wy_prices_13, arI G (wy_a 3) 12 wy_rest]) [6, 7, 8, 9] (by decide) rfl) hK (ci := 6) (q0 := 0) rfl rfl) rfl rfl hl.1 rfl (lv_room (Nat.le_of_ble_eq_true rfl)) dX7_best_106 ⟨Nat.zero_le _, Nat.zero_le _⟩) hS hA hP hD [6, 7, 8, 9] rfl rfl (fun H locs hP hD hS => ?_)
          have hP : va_P G.1 vwCl [oX7 t_h t_a rd_h now_h sp_h wy_h gp_h ch_h sb_h, oX1 now_h now_a now_windows now_washes now_damp now_heard now_lines now_hour now_strings, arI G (now_a 8) 8 now_washPairs, arI G (now_a 9) 8 now_washHours, arI G (now_a 10) 21 now_pairs, arI G (now_a 11) 21 now_knots, oX6 wy_h wy_a wy_windows_11 wy_goal wy_otherFrom wy_otherTo wy_least, arI G (wy_a 1) 12 wy_links_12, arI G (wy_a 2) 144 wy_prices_13, arI G (wy_a 3) 12 wy_rest_15] H := hP
          have hD : va_D A [oX7 t_h t_a rd_h now_h sp_h wy_h gp_h ch_h sb_h, oX1 now_h now_a now_windows now_washes now_damp now_heard now_lines now_hour now_strings, arI G (now_a 8) 8 now_washPairs, arI G (now_a 9) 8 now_washHours, arI G (now_a 10) 21 now_pairs, arI G (now_a 11) 21 now_knots, oX6 wy_h wy_a wy_windows_11 wy_goal wy_otherFrom wy_otherTo wy_least, arI G (wy_a 1) 12 wy_links_12, arI G (wy_a 2) 144 wy_prices_13, arI G (wy_a 3) 12 wy_rest_15] := hD
          refine lv_iload hx hb dX7_best_109 (lv_at hl 5 rfl) ?_
          refine lv_if_ne (tgt := 123) hx hb dX7_best_111 (by decide) (fun c_17 => ?_) (fun c_17 => ?_)
          · have hf := iq c_17 hf
            refine lv_iload hx hb dX7_best_123 (lv_at hl 5 rfl) ?_
            refine lv_iconst (v := 1) hx hb dX7_best_125 (by decide) ?_
            refine lv_icmp_ne (tgt := 138) hx hb dX7_best_126 (by decide) (fun c_18 => ?_) (fun c_18 => ?_)
            · have hf := iq c_18 hf
              refine lv_aload_n hx hb dX7_best_138 rfl (lv_at hl 1 rfl) ?_
              refine va_get (D := G.1) (ci := 7) (v := .ref wy_h) (C := RX7) (T := TX7) (N := 10) hx hb hw inW7 hown hK.1 hP 0 rfl rfl 3 (by decide) (hw _ kw_2_1) (fun _ h9 => h9) rfl dX7_best_139 ?_
              refine lv_iload_n hx hb dX7_best_142 rfl (lv_at hl 2 rfl) ?_
              refine lv_iload hx hb dX7_best_143 (lv_at hl 5 rfl) ?_
              refine lv_bipush (v := 10) hx hb dX7_best_145 (by decide) ?_
              refine lv_isub hx hb dX7_best_147 ?_
              obtain ⟨r_19, hc_20, hf⟩ := bd1_in hf
              refine rcI (va_runV (As := [.int v1, .int (v4 - 10)]) (rest := []) ⟨hx, hb, hml, hown, hw⟩ ((ctX6_windowOnWay l G wy_h wy_a wy_windows_11 wy_links_12 wy_prices_13 wy_rest_15 wy_goal wy_otherFrom wy_otherTo wy_least v1 (v4 - 10) _ hc_20) _) (kV hw calX6_windowOnWay kw_29_3 rfl rfl ⟨Nat.le_of_ble_eq_true rfl, Nat.le_of_ble_eq_true rfl⟩) (rpV (hP.sub (ws' := [oX6 wy_h wy_a wy_windows_11 wy_goal wy_otherFrom wy_otherTo wy_least, arI G (wy_a 1) 12 wy_links_12, arI G (wy_a 2) 144 wy_prices_13, arI G (wy_a 3) 12 wy_rest_15]) [6, 7, 8, 9] rfl) hK (ci := 6) (q0 := 0) rfl rfl) rfl rfl hl.1 rfl (lv_room (Nat.le_of_ble_eq_true rfl)) dX7_best_148 ⟨Nat.zero_le _, Nat.zero_le _⟩) hS hA hP (fun H locs hP hS => ?_)
              exact hRet _ _ _ _ _ _ _ _ _ hf hP hS dX7_best_151
            · have hf := ip c_18 hf
              refine lv_aload_n hx hb dX7_best_129 rfl (lv_at hl 1 rfl) ?_
              refine va_get (D := G.1) (ci := 7) (v := .ref wy_h) (C := RX7) (T := TX7) (N := 10) hx hb hw inW7 hown hK.1 hP 0 rfl rfl 3 (by decide) (hw _ kw_2_1) (fun _ h9 => h9) rfl dX7_best_130 ?_
              refine lv_iload_n hx hb dX7_best_133 rfl (lv_at hl 2 rfl) ?_
              obtain ⟨r_21, hc_22, hf⟩ := bd1_in hf
              refine rcI (va_runV (As := [.int v1]) (rest := []) ⟨hx, hb, hml, hown, hw⟩ ((ctX6_stringsFrom l G wy_h wy_a wy_windows_11 wy_rest_15 wy_goal wy_otherFrom wy_otherTo wy_least v1 _ hc_22) _) (kV hw calX6_stringsFrom kw_28_23 rfl rfl ⟨Nat.le_of_ble_eq_true rfl, Nat.le_of_ble_eq_true rfl⟩) (rpV (hP.sub (ws' := [oX6 wy_h wy_a wy_windows_11 wy_goal wy_otherFrom wy_otherTo wy_least, arI G (wy_a 3) 12 wy_rest_15]) [6, 9] rfl) hK (ci := 6) (q0 := 0) rfl rfl) rfl rfl hl.1 rfl (lv_room (Nat.le_of_ble_eq_true rfl)) dX7_best_134 ⟨Nat.zero_le _, Nat.zero_le _⟩) hS hA hP (fun H locs hP hS => ?_)
              exact hRet _ _ _ _ _ _ _ _ _ hf hP hS dX7_best_137
          · have hf := ip c_17 hf
            refine lv_aload_n hx hb dX7_best_114 rfl (lv_at hl 1 rfl) ?_
            refine va_get (D := G.1) (ci := 7) (v := .ref wy_h) (C := RX7) (T := TX7) (N := 10) hx hb hw inW7 hown hK.1 hP 0 rfl rfl 3 (by decide) (hw _ kw_2_1) (fun _ h9 => h9) rfl dX7_best_115 ?_
            refine lv_iload_n hx hb dX7_best_118 rfl (lv_at hl 2 rfl) ?_
            obtain ⟨r_23, hc_24, hf⟩ := bd1_in hf
            refine rcI (va_runV (As := [.int v1]) (rest := []) ⟨hx, hb, hml, hown, hw⟩ ((ctX6_lossFrom l G wy_h wy_a wy_windows_11 wy_rest_15 wy_goal wy_otherFrom wy_otherTo wy_least v1 _ hc_24) _) (kV hw calX6_lossFrom kw_28_19 rfl rfl ⟨Nat.le_of_ble_eq_true rfl, Nat.le_of_ble_eq_true rfl⟩) (rpV (hP.sub (ws' := [oX6 wy_h wy_a wy_windows_11 wy_goal wy_otherFrom wy_otherTo wy_least, arI G (wy_a 3) 12 wy_rest_15]) [6, 9] rfl) hK (ci := 6) (q0 := 0) rfl rfl) rfl rfl hl.1 rfl (lv_room (Nat.le_of_ble_eq_true rfl)) dX7_best_119 ⟨Nat.zero_le _, Nat.zero_le _⟩) hS hA hP (fun H locs hP hS => ?_)
            exact hRet _ _ _ _ _ _ _ _ _ hf hP hS dX7_best_122
        · have hf := iq c_10 hf
          refine lv_bipush (v := (-3)) hx hb dX7_best_79 (by decide) ?_
          exact hRet _ _ _ _ _ _ _ _ _ hf hP hS dX7_best_81
      refine lv_if_eq (tgt := 49) hx hb dX7_best_32 (by decide) (fun c_25 => ?_) (fun c_25 => ?_)
      · have hf := ip c_25 hf
        exact J49  _ _ _ hP hD hS (lv_sub hl [1, 2, 3, 4, 5] rfl) hf
      · have hf := iq c_25 hf
        refine lv_iload hx hb dX7_best_35 (lv_at hl 5 rfl) ?_
        refine lv_iconst (v := 1) hx hb dX7_best_37 (by decide) ?_
        refine lv_icmp_eq (tgt := 49) hx hb dX7_best_38 (by decide) (fun c_26 => ?_) (fun c_26 => ?_)
        · have hf := ip c_26 hf
          exact J49  _ _ _ hP hD hS (lv_sub hl [1, 2, 3, 4, 5] rfl) hf
        · have hf := iq c_26 hf
          refine lv_iload hx hb dX7_best_41 (lv_at hl 0 rfl) ?_
          refine lv_if_ne (tgt := 49) hx hb dX7_best_43 (by decide) (fun c_27 => ?_) (fun c_27 => ?_)
          · have hf := iq c_27 hf
            exact J49  _ _ _ hP hD hS (lv_sub hl [1, 2, 3, 4, 5] rfl) hf
          · have hf := ip c_27 hf
            refine lv_bipush (v := (-2)) hx hb dX7_best_46 (by decide) ?_
            exact hRet _ _ _ _ _ _ _ _ _ hf hP hS dX7_best_48
  refine lv_icmp_lt (tgt := 18) hx hb dX7_best_4 (by decide) (fun c_28 => ?_) (fun c_28 => ?_)
  · have hf := ip c_28 hf
    refine lv_iconst (v := 0) hx hb dX7_best_18 (by decide) ?_
    exact J19 _ _ _ _ hP hD hS (lv_sub hl [0, 1, 2, 3, 4] rfl) hf
  · have hf := iq c_28 hf
    refine lv_iload hx hb dX7_best_7 (lv_at hl 4 rfl) ?_
    refine lv_bipush (v := 22) hx hb dX7_best_9 (by decide) ?_
    refine lv_icmp_ge (tgt := 18) hx hb dX7_best_11 (by decide) (fun c_29 => ?_) (fun c_29 => ?_)
    · have hf := ip c_29 hf
      refine lv_iconst (v := 0) hx hb dX7_best_18 (by decide) ?_
      exact J19 _ _ _ _ hP hD hS (lv_sub hl [0, 1, 2, 3, 4] rfl) hf
    · have hf := iq c_29 hf
      refine lv_iconst (v := 1) hx hb dX7_best_14 (by decide) ?_
      refine lv_goto (tgt := 19) hx hb dX7_best_15 (by decide) ?_
      exact J19 _ _ _ _ hP hD hS (lv_sub hl [0, 1, 2, 3, 4] rfl) hf
theorem calX7_hears : CalV yX7_hears cX7_hears 4 (some .int) 1 := ⟨⟨kw_30_15, kw_1_2, by decide +kernel⟩, kw_30_13, kw_30_14⟩
set_option maxHeartbeats 8000000 in
set_option maxRecDepth 100000 in
theorem ctX7_hears (l : Launch) (G : GT) (t_h : Nat) (t_a : Nat → Nat) (now_h : Nat) (now_a : Nat → Nat) (wy_h : Nat) (wy_a : Nat → Nat) (rd_h : Nat) (sp_h : Nat) (gp_h : Nat) (ch_h : Nat) (sb_h : Nat) (now_windows : Int32) (now_washes : Int32) (now_damp : Int32) (now_heard : Int32) (now_lines : Int32) (now_hour : Int32) (now_strings : Int32) (now_washPairs : Nat → Int32) (now_washHours : Nat → Int32) (now_pairs : Nat → Int32) (now_knots : Nat → Int32) (wy_windows : Int32) (wy_links : Nat → Int32) (wy_prices : Nat → Int32) (wy_rest : Nat → Int32) (wy_goal : Int32) (wy_otherFrom : Int32) (wy_otherTo : Int32) (wy_least : Int32) (v1 : Int32) (r : Int32) (o_wy_windows : Int32) (o_wy_links : Nat → Int32) (o_wy_prices : Nat → Int32) (o_wy_rest : Nat → Int32) (hf : fX7_hears now_windows now_washes now_damp now_heard now_hour now_strings now_washPairs now_washHours now_pairs now_knots wy_windows wy_links wy_prices wy_rest v1 = some (r, o_wy_windows, o_wy_links, o_wy_prices, o_wy_rest)) : WrI l yX7_hears (Cond.code yX7_hears cX7_hears 4 (some .int)) { frames := 5, cells := 0, slots := 0, locals := 108 } G [.ref t_h, .int v1] [oX7 t_h t_a rd_h now_h sp_h wy_h gp_h ch_h sb_h, oX1 now_h now_a now_windows now_washes now_damp now_heard now_lines now_hour now_strings, arI G (now_a 8) 8 now_washPairs, arI G (now_a 9) 8 now_washHours, arI G (now_a 10) 21 now_pairs, arI G (now_a 11) 21 now_knots, oX6 wy_h wy_a wy_windows wy_goal wy_otherFrom wy_otherTo wy_least, arI G (wy_a 1) 12 wy_links, arI G (wy_a 2) 144 wy_prices, arI G (wy_a 3) 12 wy_rest] [oX7 t_h t_a rd_h now_h sp_h wy_h gp_h ch_h sb_h, oX1 now_h now_a now_windows now_washes now_damp now_heard now_lines now_hour now_strings, arI G (now_a 8) 8 now_washPairs, arI G (now_a 9) 8 now_washHours, arI G (now_a 10) 21 now_pairs, arI G (now_a 11) 21 now_knots, oX6 wy_h wy_a o_wy_windows wy_goal wy_otherFrom wy_otherTo wy_least, arI G (wy_a 1) 12 o_wy_links, arI G (wy_a 2) 144 o_wy_prices, arI G (wy_a 3) 12 o_wy_rest] r := by
  intro sz
  refine Met.ofW (cc := cX7_hears) (maxL := 4) (ret := (some .int)) (by decide) rfl ?_
  intro p e s m args below meth c s₁ B hml hv
  obtain ⟨hargs, hsz, hP, hD0, hK⟩ := hv
  subst hsz
  obtain ⟨hx, hb, hr, hw, hown, hlk⟩ := fwB B
  refine fw_enter hargs (Nat.le_of_ble_eq_true rfl) (fun ls hl => ?_)
  have hl : lv_has ls 4 [(0, .ref t_h), (1, .int v1)] := hl
  refine fw_Q (P := fun Q => ∃ A : Nat → Prop, va_D A [oX7 t_h t_a rd_h now_h sp_h wy_h gp_h ch_h sb_h, oX1 now_h now_a now_windows now_washes now_damp now_heard now_lines now_hour now_strings, arI G (now_a 8) 8 now_washPairs, arI G (now_a 9) 8 now_washHours, arI G (now_a 10) 21 now_pairs, arI G (now_a 11) 21 now_knots, oX6 wy_h wy_a wy_windows wy_goal wy_otherFrom wy_otherTo wy_least, arI G (wy_a 1) 12 wy_links, arI G (wy_a 2) 144 wy_prices, arI G (wy_a 3) 12 wy_rest] ∧ va_S A s.heap s.heap [] ∧ (∀ q, s.heap.size ≤ q → A q) ∧ ∀ (v : Int32) (n_wy_windows : Int32) (n_wy_links : Nat → Int32) (n_wy_prices : Nat → Int32) (n_wy_rest : Nat → Int32) (H : Heap) (locs : List Loc) (pc : Nat) (ls : Array Slot), some (v, n_wy_windows, n_wy_links, n_wy_prices, n_wy_rest) = some (r, o_wy_windows, o_wy_links, o_wy_prices, o_wy_rest) → va_P G.1 vwCl [oX7 t_h t_a rd_h now_h sp_h wy_h gp_h ch_h sb_h, oX1 now_h now_a now_windows now_washes now_damp now_heard now_lines now_hour now_strings, arI G (now_a 8) 8 now_washPairs, arI G (now_a 9) 8 now_washHours, arI G (now_a 10) 21 now_pairs, arI G (now_a 11) 21 now_knots, oX6 wy_h wy_a n_wy_windows wy_goal wy_otherFrom wy_otherTo wy_least, arI G (wy_a 1) 12 n_wy_links, arI G (wy_a 2) 144 n_wy_prices, arI G (wy_a 3) 12 n_wy_rest] H → va_S A s.heap H locs → decode cX7_hears pc = .ok (.ireturn, 1) → W p l e ({ frames := 5, cells := 0, slots := 0, locals := 108 } : Room) s m args below meth c H locs 0 0 Q (F0 m pc ls [.int v])) ⟨va_A [oX7 t_h t_a rd_h now_h sp_h wy_h gp_h ch_h sb_h, oX1 now_h now_a now_windows now_washes now_damp now_heard now_lines now_hour now_strings, arI G (now_a 8) 8 now_washPairs, arI G (now_a 9) 8 now_washHours, arI G (now_a 10) 21 now_pairs, arI G (now_a 11) 21 now_knots, oX6 wy_h wy_a wy_windows wy_goal wy_otherFrom wy_otherTo wy_least, arI G (wy_a 1) 12 wy_links, arI G (wy_a 2) 144 wy_prices, arI G (wy_a 3) 12 wy_rest] s.heap.size, hD0.self (sz := s.heap.size), va_S.rf, fun q h => Or.inr h, ?_⟩ ?_
  · intro v n_wy_windows n_wy_links n_wy_prices n_wy_rest H locs pc ls h hP hS hd
    cases h
    exact retWI hx hb hr hlk hS hP rfl hd
  rintro Q ⟨A, hD, hS, hA, hRet⟩
  change W p l e ({ frames := 5, cells := 0, slots := 0, locals := 108 } : Room) s m args below meth c _ _ 0 0 Q _
  have L45 : ∀ (wy_windows : Int32) (wy_links : Nat → Int32) (wy_prices : Nat → Int32) (wy_rest : Nat → Int32) (K : Int32 → Option (Int32 × Int32 × (Nat → Int32) × (Nat → Int32) × (Nat → Int32))) (n : Nat) (l2 : Int32) (l3 : Int32) (H : Heap) (locs : List Loc) (ls : Array Slot), va_P G.1 vwCl [oX7 t_h t_a rd_h now_h sp_h wy_h gp_h ch_h sb_h, oX1 now_h now_a now_windows now_washes now_damp now_heard now_lines now_hour now_strings, arI G (now_a 8) 8 now_washPairs, arI G (now_a 9) 8 now_washHours, arI G (now_a 10) 21 now_pairs, arI G (now_a 11) 21 now_knots, oX6 wy_h wy_a wy_windows wy_goal wy_otherFrom wy_otherTo wy_least, arI G (wy_a 1) 12 wy_links, arI G (wy_a 2) 144 wy_prices, arI G (wy_a 3) 12 wy_rest] H → va_D A [oX7 t_h t_a rd_h now_h sp_h wy_h gp_h ch_h sb_h, oX1 now_h now_a now_windows now_washes now_damp now_heard now_lines now_hour now_strings, arI G (now_a 8) 8 now_washPairs, arI G (now_a 9) 8 now_washHours, arI G (now_a 10) 21 now_pairs, arI G (now_a 11) 21 now_knots, oX6 wy_h wy_a wy_windows wy_goal wy_otherFrom wy_otherTo wy_least, arI G (wy_a 1) 12 wy_links, arI G (wy_a 2) 144 wy_prices, arI G (wy_a 3) 12 wy_rest] → va_S A s.heap H locs → lv_has ls 4 [(0, .ref t_h), (1, .int v1), (2, .int l2), (3, .int l3)] → fX7_hears_45 v1 now_windows now_heard wy_rest K n l2 l3 = some (r, o_wy_windows, o_wy_links, o_wy_prices, o_wy_rest) → (∀ (k2 : Int32) (H : Heap) (locs : List Loc) (ls : Array Slot), va_P G.1 vwCl [oX7 t_h t_a rd_h now_h sp_h wy_h gp_h ch_h sb_h, oX1 now_h now_a now_windows now_washes now_damp now_heard now_lines now_hour now_strings, arI G (now_a 8) 8 now_washPairs, arI G (now_a 9) 8 now_washHours, arI G (now_a 10) 21 now_pairs, arI G (now_a 11) 21 now_knots, oX6 wy_h wy_a wy_windows wy_goal wy_otherFrom wy_otherTo wy_least, arI G (wy_a 1) 12 wy_links, arI G (wy_a 2) 144 wy_prices, arI G (wy_a 3) 12 wy_rest] H → va_D A [oX7 t_h t_a rd_h now_h sp_h wy_h gp_h ch_h sb_h, oX1 now_h now_a now_windows now_washes now_damp now_heard now_lines now_hour now_strings, arI G (now_a 8) 8 now_washPairs, arI G (now_a 9) 8 now_washHours, arI G (now_a 10) 21 now_pairs, arI G (now_a 11) 21 now_knots, oX6 wy_h wy_a wy_windows wy_goal wy_otherFrom wy_otherTo wy_least, arI G (wy_a 1) 12 wy_links, arI G (wy_a 2) 144 wy_prices, arI G (wy_a 3) 12 wy_rest] → va_S A s.heap H locs → lv_has ls 4 [(2, .int k2)] → K k2 = some (r, o_wy_windows, o_wy_links, o_wy_prices, o_wy_rest) → W p l e ({ frames := 5, cells := 0, slots := 0, locals := 108 } : Room) s m args below meth c H locs 0 0 Q (F0 m 91 ls [])) → W p l e ({ frames := 5, cells := 0, slots := 0, locals := 108 } : Room) s m args below meth c H locs 0 0 Q (F0 m 45 ls []) := by
    intro wy_windows wy_links wy_prices wy_rest K n
    induction n with
    | zero => intro l2 l3 H locs ls hP hD hS hl hf; rw [fX7_hears_45] at hf; cases hf
    | succ n ih =>
      intro l2 l3 H locs ls hP hD hS hl hf hX
      rw [fX7_hears_45] at hf
      refine lv_iload_n hx hb dX7_hears_45 rfl (lv_at hl 3 rfl) ?_
      refine lv_aload_n hx hb dX7_hears_46 rfl (lv_at hl 0 rfl) ?_
      refine va_get (D := G.1) (ci := 7) (v := .ref now_h) (C := RX7) (T := TX7) (N := 10) hx hb hw inW7 hown hK.1 hP 0 rfl rfl 1 (by decide) (hw _ kw_1_20) (fun _ h9 => h9) rfl dX7_hears_47 ?_
      refine va_getN (D := G.1) (ci := 1) (v := .int now_windows) (C := RX1) (T := TX1) (N := 12) hx hb hw inW1 hown hK.1 hP 1 rfl rfl 0 (by decide) ((nf_6 hK.2).use rfl) (fun _ h9 => h9) rfl dX7_hears_50 ?_
      refine lv_icmp_ge (tgt := 91) hx hb dX7_hears_53 (by decide) (fun c_10 => ?_) (fun c_10 => ?_)
      · have hf := ip c_10 hf
        exact hX _ _ _ _ hP hD hS (lv_sub hl [2] rfl) hf
      · have hf := iq c_10 hf
        refine lv_iload_n hx hb dX7_hears_56 rfl (lv_at hl 3 rfl) ?_
        refine lv_iload_n hx hb dX7_hears_57 rfl (lv_at hl 1 rfl) ?_
        refine lv_icmp_eq (tgt := 85) hx hb dX7_hears_58 (by decide) (fun c_11 => ?_) (fun c_11 => ?_)
        · have hf := ip c_11 hf
          refine lv_iinc (v := (l3 + 1)) (lv' := [(3, .int (l3 + 1)), (0, .ref t_h), (1, .int v1), (2, .int l2)]) hx hb dX7_hears_85 hl (k := 3) rfl (by rfl) (by decide) rfl (fun ls hl => ?_)
          refine lv_goto (tgt := 45) hx hb dX7_hears_88 (by decide) ?_
          exact ih _ _ _ _ _ hP hD hS (lv_sub hl [1, 2, 3, 0] rfl) hf hX
        · have hf := iq c_11 hf
          refine lv_aload_n hx hb dX7_hears_61 rfl (lv_at hl 0 rfl) ?_
          refine va_get (D := G.1) (ci := 7) (v := .ref wy_h) (C := RX7) (T := TX7) (N := 10) hx hb hw inW7 hown hK.1 hP 0 rfl rfl 3 (by decide) (hw _ kw_2_1) (fun _ h9 => h9) rfl dX7_hears_62 ?_
          refine lv_iload_n hx hb dX7_hears_65 rfl (lv_at hl 3 rfl) ?_
          refine lv_aload_n hx hb dX7_hears_66 rfl (lv_at hl 0 rfl) ?_
          refine va_get (D := G.1) (ci := 7) (v := .ref now_h) (C := RX7) (T := TX7) (N := 10) hx hb hw inW7 hown hK.1 hP 0 rfl rfl 1 (by decide) (hw _ kw_1_20) (fun _ h9 => h9) rfl dX7_hears_67 ?_
          refine va_getN (D := G.1) (ci := 1) (v := .int now_heard) (C := RX1) (T := TX1) (N := 12) hx hb hw inW1 hown hK.1 hP 1 rfl rfl 3 (by decide) ((nf_13 hK.2).use rfl) (fun _ h9 => h9) rfl dX7_hears_70 ?_
          obtain ⟨r_12, hc_13, hf⟩ := bd1_in hf
          refine rcI (va_runV (As := [.int l3, .int now_heard]) (rest := []) ⟨hx, hb, hml, hown, hw⟩ ((ctX6_isHeardFrom l G wy_h wy_a wy_windows wy_rest wy_goal wy_otherFrom wy_otherTo wy_least l3 now_heard _ hc_13) _) (kV hw calX6_isHeardFrom kw_30_16 rfl rfl ⟨Nat.le_of_ble_eq_true rfl, Nat.le_of_ble_eq_true rfl⟩) (rpV (hP.sub (ws' := [oX6 wy_h wy_a wy_windows wy_goal wy_otherFrom wy_otherTo wy_least, arI G (wy_a 3) 12 wy_rest]) [6, 9] rfl) hK (ci := 6) (q0 := 0) rfl rfl) rfl rfl hl.1 rfl (lv_room (Nat.le_of_ble_eq_true rfl)) dX7_hears_73 ⟨Nat.zero_le _, Nat.zero_le _⟩) hS hA hP (fun H locs hP hS => ?_)
          refine lv_if_eq (tgt := 85) hx hb dX7_hears_76 (by decide) (fun c_14 => ?_) (fun c_14 => ?_)
          · have hf := ip c_14 hf
            refine lv_iinc (v := (l3 + 1)) (lv' := [(3, .int (l3 + 1)), (0, .ref t_h), (1, .int v1), (2, .int l2)]) hx hb dX7_hears_85 hl (k := 3) rfl (by rfl) (by decide) rfl (fun ls hl => ?_)
            refine lv_goto (tgt := 45) hx hb dX7_hears_88 (by decide) ?_
            exact ih _ _ _ _ _ hP hD hS (lv_sub hl [1, 2, 3, 0] rfl) hf hX
          · have hf := iq c_14 hf
            refine lv_iload_n hx hb dX7_hears_79 rfl (lv_at hl 2 rfl) ?_
            refine lv_iconst (v := 1) hx hb dX7_hears_80 (by decide) ?_
            refine lv_iload_n hx hb dX7_hears_81 rfl (lv_at hl 3 rfl) ?_
            refine lv_ishl hx hb dX7_hears_82 ?_
            refine lv_ior hx hb dX7_hears_83 ?_
            refine lv_topi (fun y_15 ey_15 => ?_)
            have hf := bnd_all hf y_15 ey_15
            refine lv_istore_n (lv' := [(2, .int y_15), (0, .ref t_h), (1, .int v1), (3, .int l3)]) hx hb dX7_hears_84 rfl hl (by decide) rfl (fun ls hl => ?_)
            refine lv_iinc (v := (l3 + 1)) (lv' := [(3, .int (l3 + 1)), (2, .int y_15), (0, .ref t_h), (1, .int v1)]) hx hb dX7_hears_85 hl (k := 3) rfl (by rfl) (by decide) rfl (fun ls hl => ?_)
            refine lv_goto (tgt := 45) hx hb dX7_hears_88 (by decide) ?_
            exact ih _ _ _ _ _ hP hD hS (lv_sub hl [2, 3, 1, 0] rfl) hf hX
  unfold fX7_hears at hf
  refine lv_aload_n hx hb dX7_hears_0 rfl (lv_at hl 0 rfl) ?_
  refine va_get (D := G.1) (ci := 7) (v := .ref now_h) (C := RX7) (T := TX7) (N := 10) hx hb hw inW7 hown hK.1 hP 0 rfl rfl 1 (by decide) (hw _ kw_1_20) (fun _ h9 => h9) rfl dX7_hears_1 ?_
  refine lv_iload_n hx hb dX7_hears_4 rfl (lv_at hl 1 rfl) ?_
  obtain ⟨r_1, hc_2, hf⟩ := bd1_in hf
  refine rcI (va_runV (As := [.int v1]) (rest := []) ⟨hx, hb, hml, hown, hw⟩ ((ctX1_hasWindow l G now_h now_a now_windows now_washes now_damp now_heard now_lines now_hour now_strings v1 _ hc_2) _) (kV hw calX1_hasWindow kw_18_1 rfl rfl ⟨Nat.le_of_ble_eq_true rfl, Nat.le_of_ble_eq_true rfl⟩) (rpV (hP.sub (ws' := [oX1 now_h now_a now_windows now_washes now_damp now_heard now_lines now_hour now_strings]) [1] rfl) hK (ci := 1) (q0 := 0) rfl rfl) rfl rfl hl.1 rfl (lv_room (Nat.le_of_ble_eq_true rfl)) dX7_hears_5 ⟨Nat.zero_le _, Nat.zero_le _⟩) hS hA hP (fun H locs hP hS => ?_)
  refine lv_if_ne (tgt := 14) hx hb dX7_hears_8 (by decide) (fun c_3 => ?_) (fun c_3 => ?_)
  · have hf := iq c_3 hf
    refine lv_aload_n hx hb dX7_hears_14 rfl (lv_at hl 0 rfl) ?_
    refine va_get (D := G.1) (ci := 7) (v := .ref wy_h) (C := RX7) (T := TX7) (N := 10) hx hb hw inW7 hown hK.1 hP 0 rfl rfl 3 (by decide) (hw _ kw_2_1) (fun _ h9 => h9) rfl dX7_hears_15 ?_
    refine lv_aload_n hx hb dX7_hears_18 rfl (lv_at hl 0 rfl) ?_
    refine va_get (D := G.1) (ci := 7) (v := .ref now_h) (C := RX7) (T := TX7) (N := 10) hx hb hw inW7 hown hK.1 hP 0 rfl rfl 1 (by decide) (hw _ kw_1_20) (fun _ h9 => h9) rfl dX7_hears_19 ?_
    refine lv_aload_n hx hb dX7_hears_22 rfl (lv_at hl 0 rfl) ?_
    refine va_get (D := G.1) (ci := 7) (v := .ref now_h) (C := RX7) (T := TX7) (N := 10) hx hb hw inW7 hown hK.1 hP 0 rfl rfl 1 (by decide) (hw _ kw_1_20) (fun _ h9 => h9) rfl dX7_hears_23 ?_
    refine va_getN (D := G.1) (ci := 1) (v := .int now_hour) (C := RX1) (T := TX1) (N := 12) hx hb hw inW1 hown hK.1 hP 1 rfl rfl 5 (by decide) ((nf_16 hK.2).use rfl) (fun _ h9 => h9) rfl dX7_hears_26 ?_
    obtain ⟨wy_windows_4, wy_links_5, wy_prices_6, hc_7, hf⟩ := bd3_in hf
    refine wcV (w1 := [oX6 wy_h wy_a wy_windows_4 wy_goal wy_otherFrom wy_otherTo wy_least, arI G (wy_a 1) 12 wy_links_5, arI G (wy_a 2) 144 wy_prices_6, oX1 now_h now_a now_windows now_washes now_damp now_heard now_lines now_hour now_strings, arI G (now_a 8) 8 now_washPairs, arI G (now_a 9) 8 now_washHours, arI G (now_a 10) 21 now_pairs, arI G (now_a 11) 21 now_knots]) (va_runV (As := [.ref now_h, .int now_hour]) (rest := []) ⟨hx, hb, hml, hown, hw⟩ ((ctX6_takeStrings l G wy_h wy_a now_h now_a wy_windows wy_links wy_prices wy_goal wy_otherFrom wy_otherTo wy_least now_windows now_washes now_damp now_heard now_lines now_hour now_strings now_washPairs now_washHours now_pairs now_knots now_hour _ _ _ hc_7) _) (kV hw calX6_takeStrings kw_18_10 rfl rfl ⟨Nat.le_of_ble_eq_true rfl, Nat.le_of_ble_eq_true rfl⟩) (wpV (hP.sub (ws' := [oX6 wy_h wy_a wy_windows wy_goal wy_otherFrom wy_otherTo wy_least, arI G (wy_a 1) 12 wy_links, arI G (wy_a 2) 144 wy_prices, oX1 now_h now_a now_windows now_washes now_damp now_heard now_lines now_hour now_strings, arI G (now_a 8) 8 now_washPairs, arI G (now_a 9) 8 now_washHours, arI G (now_a 10) 21 now_pairs, arI G (now_a 11) 21 now_knots]) [6, 7, 8, 1, 2, 3, 4, 5] rfl) (hD.sub (ws' := [oX6 wy_h wy_a wy_windows wy_goal wy_otherFrom wy_otherTo wy_least, arI G (wy_a 1) 12 wy_links, arI G (wy_a 2) 144 wy_prices, oX1 now_h now_a now_windows now_washes now_damp now_heard now_lines now_hour now_strings, arI G (now_a 8) 8 now_washPairs, arI G (now_a 9) 8 now_washHours, arI G (now_a 10) 21 now_pairs, arI G (now_a 11) 21 now_knots]) [6, 7, 8, 1, 2, 3, 4, 5] (by decide) rfl) hK (ci := 6) (q0 := 0) rfl rfl) rfl rfl hl.1 rfl (lv_room (Nat.le_of_ble_eq_true rfl)) dX7_hears_29 ⟨Nat.zero_le _, Nat.zero_le _⟩) hS hA hP hD [6, 7, 8, 1, 2, 3, 4, 5] rfl rfl (fun H locs hP hD hS => ?_)
    have hP : va_P G.1 vwCl [oX7 t_h t_a rd_h now_h sp_h wy_h gp_h ch_h sb_h, oX1 now_h now_a now_windows now_washes now_damp now_heard now_lines now_hour now_strings, arI G (now_a 8) 8 now_washPairs, arI G (now_a 9) 8 now_washHours, arI G (now_a 10) 21 now_pairs, arI G (now_a 11) 21 now_knots, oX6 wy_h wy_a wy_windows_4 wy_goal wy_otherFrom wy_otherTo wy_least, arI G (wy_a 1) 12 wy_links_5, arI G (wy_a 2) 144 wy_prices_6, arI G (wy_a 3) 12 wy_rest] H := hP
    have hD : va_D A [oX7 t_h t_a rd_h now_h sp_h wy_h gp_h ch_h sb_h, oX1 now_h now_a now_windows now_washes now_damp now_heard now_lines now_hour now_strings, arI G (now_a 8) 8 now_washPairs, arI G (now_a 9) 8 now_washHours, arI G (now_a 10) 21 now_pairs, arI G (now_a 11) 21 now_knots, oX6 wy_h wy_a wy_windows_4 wy_goal wy_otherFrom wy_otherTo wy_least, arI G (wy_a 1) 12 wy_links_5, arI G (wy_a 2) 144 wy_prices_6, arI G (wy_a 3) 12 wy_rest] := hD
    refine lv_aload_n hx hb dX7_hears_32 rfl (lv_at hl 0 rfl) ?_
    refine va_get (D := G.1) (ci := 7) (v := .ref wy_h) (C := RX7) (T := TX7) (N := 10) hx hb hw inW7 hown hK.1 hP 0 rfl rfl 3 (by decide) (hw _ kw_2_1) (fun _ h9 => h9) rfl dX7_hears_33 ?_
    refine lv_iload_n hx hb dX7_hears_36 rfl (lv_at hl 1 rfl) ?_
    refine lv_iconst (v := 0) hx hb dX7_hears_37 (by decide) ?_
    obtain ⟨wy_rest_8, hc_9, hf⟩ := bd1_in hf
    refine wcV (w1 := [oX6 wy_h wy_a wy_windows_4 wy_goal wy_otherFrom wy_otherTo wy_least, arI G (wy_a 1) 12 wy_links_5, arI G (wy_a 2) 144 wy_prices_6, arI G (wy_a 3) 12 wy_rest_8]) (va_runV (As := [.int v1, .int 0]) (rest := []) ⟨hx, hb, hml, hown, hw⟩ ((ctX6_measure l G wy_h wy_a wy_windows_4 wy_links_5 wy_prices_6 wy_rest wy_goal wy_otherFrom wy_otherTo wy_least v1 0 _ hc_9) _) (kV hw calX6_measure kw_28_1 rfl rfl ⟨Nat.le_of_ble_eq_true rfl, Nat.le_of_ble_eq_true rfl⟩) (wpV (hP.sub (ws' := [oX6 wy_h wy_a wy_windows_4 wy_goal wy_otherFrom wy_otherTo wy_least, arI G (wy_a 1) 12 wy_links_5, arI G (wy_a 2) 144 wy_prices_6, arI G (wy_a 3) 12 wy_rest]) [6, 7, 8, 9] rfl) (hD.sub (ws' := [oX6 wy_h wy_a wy_windows_4 wy_goal wy_otherFrom wy_otherTo wy_least, arI G (wy_a 1) 12 wy_links_5, arI G (wy_a 2) 144 wy_prices_6, arI G (wy_a 3) 12 wy_rest]) [6, 7, 8, 9] (by decide) rfl) hK (ci := 6) (q0 := 0) rfl rfl) rfl rfl hl.1 rfl (lv_room (Nat.le_of_ble_eq_true rfl)) dX7_hears_38 ⟨Nat.zero_le _, Nat.zero_le _⟩) hS hA hP hD [6, 7, 8, 9] rfl rfl (fun H locs hP hD hS => ?_)
    have hP : va_P G.1 vwCl [oX7 t_h t_a rd_h now_h sp_h wy_h gp_h ch_h sb_h, oX1 now_h now_a now_windows now_washes now_damp now_heard now_lines now_hour now_strings, arI G (now_a 8) 8 now_washPairs, arI G (now_a 9) 8 now_washHours, arI G (now_a 10) 21 now_pairs, arI G (now_a 11) 21 now_knots, oX6 wy_h wy_a wy_windows_4 wy_goal wy_otherFrom wy_otherTo wy_least, arI G (wy_a 1) 12 wy_links_5, arI G (wy_a 2) 144 wy_prices_6, arI G (wy_a 3) 12 wy_rest_8] H := hP
    have hD : va_D A [oX7 t_h t_a rd_h now_h sp_h wy_h gp_h ch_h sb_h, oX1 now_h now_a now_windows now_washes now_damp now_heard now_lines now_hour now_strings, arI G (now_a 8) 8 now_washPairs, arI G (now_a 9) 8 now_washHours, arI G (now_a 10) 21 now_pairs, arI G (now_a 11) 21 now_knots, oX6 wy_h wy_a wy_windows_4 wy_goal wy_otherFrom wy_otherTo wy_least, arI G (wy_a 1) 12 wy_links_5, arI G (wy_a 2) 144 wy_prices_6, arI G (wy_a 3) 12 wy_rest_8] := hD
    refine lv_iconst (v := 0) hx hb dX7_hears_41 (by decide) ?_
    refine lv_istore_n (lv' := [(2, .int 0), (0, .ref t_h), (1, .int v1)]) hx hb dX7_hears_42 rfl hl (by decide) rfl (fun ls hl => ?_)
    refine lv_iconst (v := 0) hx hb dX7_hears_43 (by decide) ?_
    refine lv_istore_n (lv' := [(3, .int 0), (2, .int 0), (0, .ref t_h), (1, .int v1)]) hx hb dX7_hears_44 rfl hl (by decide) rfl (fun ls hl => ?_)
    refine L45 _ _ _ _ _ _ _ _ _ _ _ hP hD hS (lv_sub hl [2, 3, 1, 0] rfl) hf (fun w_16 H locs ls hP hD hS hl hf => ?_)
    refine lv_iload_n hx hb dX7_hears_91 rfl (lv_at hl 0 rfl) ?_
    exact hRet _ _ _ _ _ _ _ _ _ hf hP hS dX7_hears_92
  · have hf := ip c_3 hf
    refine lv_bipush (v := (-2)) hx hb dX7_hears_11 (by decide) ?_
    exact hRet _ _ _ _ _ _ _ _ _ hf hP hS dX7_hears_13
theorem calX7_overhears : CalV yX7_overhears cX7_overhears 5 (some .int) 2 := ⟨⟨kw_31_4, kw_1_2, by decide +kernel⟩, kw_31_2, kw_31_3⟩
set_option maxHeartbeats 8000000 in
set_option maxRecDepth 100000 in
theorem ctX7_overhears (l : Launch) (G : GT) (t_h : Nat) (t_a : Nat → Nat) (now_h : Nat) (now_a : Nat → Nat) (wy_h : Nat) (wy_a : Nat → Nat) (rd_h : Nat) (sp_h : Nat) (gp_h : Nat) (ch_h : Nat) (sb_h : Nat) (now_windows : Int32) (now_washes : Int32) (now_damp : Int32) (now_heard : Int32) (now_lines : Int32) (now_hour : Int32) (now_strings : Int32) (now_washPairs : Nat → Int32) (now_washHours : Nat → Int32) (now_pairs : Nat → Int32) (now_knots : Nat → Int32) (wy_windows : Int32) (wy_links : Nat → Int32) (wy_prices : Nat → Int32) (wy_rest : Nat → Int32) (wy_goal : Int32) (wy_otherFrom : Int32) (wy_otherTo : Int32) (wy_least : Int32) (v1 : Int32) (v2 : Int32) (r : Int32) (o_wy_windows : Int32) (o_wy_links : Nat → Int32) (o_wy_prices : Nat → Int32) (o_wy_rest : Nat → Int32) (hf : fX7_overhears now_windows now_washes now_damp now_hour now_strings now_washPairs now_washHours now_pairs now_knots wy_windows wy_links wy_prices wy_rest v1 v2 = some (r, o_wy_windows, o_wy_links, o_wy_prices, o_wy_rest)) : WrI l yX7_overhears (Cond.code yX7_overhears cX7_overhears 5 (some .int)) { frames := 5, cells := 0, slots := 0, locals := 108 } G [.ref t_h, .int v1, .int v2] [oX7 t_h t_a rd_h now_h sp_h wy_h gp_h ch_h sb_h, oX1 now_h now_a now_windows now_washes now_damp now_heard now_lines now_hour now_strings, arI G (now_a 8) 8 now_washPairs, arI G (now_a 9) 8 now_washHours, arI G (now_a 10) 21 now_pairs, arI G (now_a 11) 21 now_knots, oX6 wy_h wy_a wy_windows wy_goal wy_otherFrom wy_otherTo wy_least, arI G (wy_a 1) 12 wy_links, arI G (wy_a 2) 144 wy_prices, arI G (wy_a 3) 12 wy_rest] [oX7 t_h t_a rd_h now_h sp_h wy_h gp_h ch_h sb_h, oX1 now_h now_a now_windows now_washes now_damp now_heard now_lines now_hour now_strings, arI G (now_a 8) 8 now_washPairs, arI G (now_a 9) 8 now_washHours, arI G (now_a 10) 21 now_pairs, arI G (now_a 11) 21 now_knots, oX6 wy_h wy_a o_wy_windows wy_goal wy_otherFrom wy_otherTo wy_least, arI G (wy_a 1) 12 o_wy_links, arI G (wy_a 2) 144 o_wy_prices, arI G (wy_a 3) 12 o_wy_rest] r := by
  intro sz
  refine Met.ofW (cc := cX7_overhears) (maxL := 5) (ret := (some .int)) (by decide) rfl ?_
  intro p e s m args below meth c s₁ B hml hv
  obtain ⟨hargs, hsz, hP, hD0, hK⟩ := hv
  subst hsz
  obtain ⟨hx, hb, hr, hw, hown, hlk⟩ := fwB B
  refine fw_enter hargs (Nat.le_of_ble_eq_true rfl) (fun ls hl => ?_)
  have hl : lv_has ls 5 [(0, .ref t_h), (1, .int v1), (2, .int v2)] := hl
  refine fw_Q (P := fun Q => ∃ A : Nat → Prop, va_D A [oX7 t_h t_a rd_h now_h sp_h wy_h gp_h ch_h sb_h, oX1 now_h now_a now_windows now_washes now_damp now_heard now_lines now_hour now_strings, arI G (now_a 8) 8 now_washPairs, arI G (now_a 9) 8 now_washHours, arI G (now_a 10) 21 now_pairs, arI G (now_a 11) 21 now_knots, oX6 wy_h wy_a wy_windows wy_goal wy_otherFrom wy_otherTo wy_least, arI G (wy_a 1) 12 wy_links, arI G (wy_a 2) 144 wy_prices, arI G (wy_a 3) 12 wy_rest] ∧ va_S A s.heap s.heap [] ∧ (∀ q, s.heap.size ≤ q → A q) ∧ ∀ (v : Int32) (n_wy_windows : Int32) (n_wy_links : Nat → Int32) (n_wy_prices : Nat → Int32) (n_wy_rest : Nat → Int32) (H : Heap) (locs : List Loc) (pc : Nat) (ls : Array Slot), some (v, n_wy_windows, n_wy_links, n_wy_prices, n_wy_rest) = some (r, o_wy_windows, o_wy_links, o_wy_prices, o_wy_rest) → va_P G.1 vwCl [oX7 t_h t_a rd_h now_h sp_h wy_h gp_h ch_h sb_h, oX1 now_h now_a now_windows now_washes now_damp now_heard now_lines now_hour now_strings, arI G (now_a 8) 8 now_washPairs, arI G (now_a 9) 8 now_washHours, arI G (now_a 10) 21 now_pairs, arI G (now_a 11) 21 now_knots, oX6 wy_h wy_a n_wy_windows wy_goal wy_otherFrom wy_otherTo wy_least, arI G (wy_a 1) 12 n_wy_links, arI G (wy_a 2) 144 n_wy_prices, arI G (wy_a 3) 12 n_wy_rest] H → va_S A s.heap H locs → decode cX7_overhears pc = .ok (.ireturn, 1) → W p l e ({ frames := 5, cells := 0, slots := 0, locals := 108 } : Room) s m args below meth c H locs 0 0 Q (F0 m pc ls [.int v])) ⟨va_A [oX7 t_h t_a rd_h now_h sp_h wy_h gp_h ch_h sb_h, oX1 now_h now_a now_windows now_washes now_damp now_heard now_lines now_hour now_strings, arI G (now_a 8) 8 now_washPairs, arI G (now_a 9) 8 now_washHours, arI G (now_a 10) 21 now_pairs, arI G (now_a 11) 21 now_knots, oX6 wy_h wy_a wy_windows wy_goal wy_otherFrom wy_otherTo wy_least, arI G (wy_a 1) 12 wy_links, arI G (wy_a 2) 144 wy_prices, arI G (wy_a 3) 12 wy_rest] s.heap.size, hD0.self (sz := s.heap.size), va_S.rf, fun q h => Or.inr h, ?_⟩ ?_
  · intro v n_wy_windows n_wy_links n_wy_prices n_wy_rest H locs pc ls h hP hS hd
    cases h
    exact retWI hx hb hr hlk hS hP rfl hd
  rintro Q ⟨A, hD, hS, hA, hRet⟩
  change W p l e ({ frames := 5, cells := 0, slots := 0, locals := 108 } : Room) s m args below meth c _ _ 0 0 Q _
  have L44 : ∀ (wy_windows : Int32) (wy_links : Nat → Int32) (wy_prices : Nat → Int32) (wy_rest : Nat → Int32) (K : Int32 → Option (Int32 × Int32 × (Nat → Int32) × (Nat → Int32) × (Nat → Int32))) (n : Nat) (l3 : Int32) (l4 : Int32) (H : Heap) (locs : List Loc) (ls : Array Slot), va_P G.1 vwCl [oX7 t_h t_a rd_h now_h sp_h wy_h gp_h ch_h sb_h, oX1 now_h now_a now_windows now_washes now_damp now_heard now_lines now_hour now_strings, arI G (now_a 8) 8 now_washPairs, arI G (now_a 9) 8 now_washHours, arI G (now_a 10) 21 now_pairs, arI G (now_a 11) 21 now_knots, oX6 wy_h wy_a wy_windows wy_goal wy_otherFrom wy_otherTo wy_least, arI G (wy_a 1) 12 wy_links, arI G (wy_a 2) 144 wy_prices, arI G (wy_a 3) 12 wy_rest] H → va_D A [oX7 t_h t_a rd_h now_h sp_h wy_h gp_h ch_h sb_h, oX1 now_h now_a now_windows now_washes now_damp now_heard now_lines now_hour now_strings, arI G (now_a 8) 8 now_washPairs, arI G (now_a 9) 8 now_washHours, arI G (now_a 10) 21 now_pairs, arI G (now_a 11) 21 now_knots, oX6 wy_h wy_a wy_windows wy_goal wy_otherFrom wy_otherTo wy_least, arI G (wy_a 1) 12 wy_links, arI G (wy_a 2) 144 wy_prices, arI G (wy_a 3) 12 wy_rest] → va_S A s.heap H locs → lv_has ls 5 [(0, .ref t_h), (1, .int v1), (3, .int l3), (4, .int l4)] → fX7_overhears_44 v1 wy_windows wy_links wy_prices wy_rest K n l3 l4 = some (r, o_wy_windows, o_wy_links, o_wy_prices, o_wy_rest) → (∀ (k3 : Int32) (H : Heap) (locs : List Loc) (ls : Array Slot), va_P G.1 vwCl [oX7 t_h t_a rd_h now_h sp_h wy_h gp_h ch_h sb_h, oX1 now_h now_a now_windows now_washes now_damp now_heard now_lines now_hour now_strings, arI G (now_a 8) 8 now_washPairs, arI G (now_a 9) 8 now_washHours, arI G (now_a 10) 21 now_pairs, arI G (now_a 11) 21 now_knots, oX6 wy_h wy_a wy_windows wy_goal wy_otherFrom wy_otherTo wy_least, arI G (wy_a 1) 12 wy_links, arI G (wy_a 2) 144 wy_prices, arI G (wy_a 3) 12 wy_rest] H → va_D A [oX7 t_h t_a rd_h now_h sp_h wy_h gp_h ch_h sb_h, oX1 now_h now_a now_windows now_washes now_damp now_heard now_lines now_hour now_strings, arI G (now_a 8) 8 now_washPairs, arI G (now_a 9) 8 now_washHours, arI G (now_a 10) 21 now_pairs, arI G (now_a 11) 21 now_knots, oX6 wy_h wy_a wy_windows wy_goal wy_otherFrom wy_otherTo wy_least, arI G (wy_a 1) 12 wy_links, arI G (wy_a 2) 144 wy_prices, arI G (wy_a 3) 12 wy_rest] → va_S A s.heap H locs → lv_has ls 5 [(3, .int k3)] → K k3 = some (r, o_wy_windows, o_wy_links, o_wy_prices, o_wy_rest) → W p l e ({ frames := 5, cells := 0, slots := 0, locals := 108 } : Room) s m args below meth c H locs 0 0 Q (F0 m 78 ls [])) → W p l e ({ frames := 5, cells := 0, slots := 0, locals := 108 } : Room) s m args below meth c H locs 0 0 Q (F0 m 44 ls []) := by
    intro wy_windows wy_links wy_prices wy_rest K n
    induction n with
    | zero => intro l3 l4 H locs ls hP hD hS hl hf; rw [fX7_overhears_44] at hf; cases hf
    | succ n ih =>
      intro l3 l4 H locs ls hP hD hS hl hf hX
      rw [fX7_overhears_44] at hf
      refine lv_iload hx hb dX7_overhears_44 (lv_at hl 3 rfl) ?_
      refine lv_aload_n hx hb dX7_overhears_46 rfl (lv_at hl 0 rfl) ?_
      refine va_get (D := G.1) (ci := 7) (v := .ref wy_h) (C := RX7) (T := TX7) (N := 10) hx hb hw inW7 hown hK.1 hP 0 rfl rfl 3 (by decide) (hw _ kw_2_1) (fun _ h9 => h9) rfl dX7_overhears_47 ?_
      refine lv_iload_n hx hb dX7_overhears_50 rfl (lv_at hl 1 rfl) ?_
      obtain ⟨r_10, hc_11, hf⟩ := bd1_in hf
      refine rcI (va_runV (As := [.int v1]) (rest := [.int l4]) ⟨hx, hb, hml, hown, hw⟩ ((ctX6_stringsFrom l G wy_h wy_a wy_windows wy_rest wy_goal wy_otherFrom wy_otherTo wy_least v1 _ hc_11) _) (kV hw calX6_stringsFrom kw_28_23 rfl rfl ⟨Nat.le_of_ble_eq_true rfl, Nat.le_of_ble_eq_true rfl⟩) (rpV (hP.sub (ws' := [oX6 wy_h wy_a wy_windows wy_goal wy_otherFrom wy_otherTo wy_least, arI G (wy_a 3) 12 wy_rest]) [6, 9] rfl) hK (ci := 6) (q0 := 0) rfl rfl) rfl rfl hl.1 rfl (lv_room (Nat.le_of_ble_eq_true rfl)) dX7_overhears_51 ⟨Nat.zero_le _, Nat.zero_le _⟩) hS hA hP (fun H locs hP hS => ?_)
      refine lv_icmp_ge (tgt := 78) hx hb dX7_overhears_54 (by decide) (fun c_12 => ?_) (fun c_12 => ?_)
      · have hf := ip c_12 hf
        exact hX _ _ _ _ hP hD hS (lv_sub hl [2] rfl) hf
      · have hf := iq c_12 hf
        refine lv_iload_n hx hb dX7_overhears_57 rfl (lv_at hl 2 rfl) ?_
        refine lv_iconst (v := 1) hx hb dX7_overhears_58 (by decide) ?_
        refine lv_aload_n hx hb dX7_overhears_59 rfl (lv_at hl 0 rfl) ?_
        refine va_get (D := G.1) (ci := 7) (v := .ref wy_h) (C := RX7) (T := TX7) (N := 10) hx hb hw inW7 hown hK.1 hP 0 rfl rfl 3 (by decide) (hw _ kw_2_1) (fun _ h9 => h9) rfl dX7_overhears_60 ?_
        refine lv_iload_n hx hb dX7_overhears_63 rfl (lv_at hl 1 rfl) ?_
        refine lv_iload hx hb dX7_overhears_64 (lv_at hl 3 rfl) ?_
        obtain ⟨r_13, hc_14, hf⟩ := bd1_in hf
        refine rcI (va_runV (As := [.int v1, .int l4]) (rest := [.int 1, .int l3]) ⟨hx, hb, hml, hown, hw⟩ ((ctX6_windowOnWay l G wy_h wy_a wy_windows wy_links wy_prices wy_rest wy_goal wy_otherFrom wy_otherTo wy_least v1 l4 _ hc_14) _) (kV hw calX6_windowOnWay kw_29_3 rfl rfl ⟨Nat.le_of_ble_eq_true rfl, Nat.le_of_ble_eq_true rfl⟩) (rpV (hP.sub (ws' := [oX6 wy_h wy_a wy_windows wy_goal wy_otherFrom wy_otherTo wy_least, arI G (wy_a 1) 12 wy_links, arI G (wy_a 2) 144 wy_prices, arI G (wy_a 3) 12 wy_rest]) [6, 7, 8, 9] rfl) hK (ci := 6) (q0 := 0) rfl rfl) rfl rfl hl.1 rfl (lv_room (Nat.le_of_ble_eq_true rfl)) dX7_overhears_66 ⟨Nat.zero_le _, Nat.zero_le _⟩) hS hA hP (fun H locs hP hS => ?_)
        refine lv_ishl hx hb dX7_overhears_69 ?_
        refine lv_ior hx hb dX7_overhears_70 ?_
        refine lv_topi (fun y_15 ey_15 => ?_)
        have hf := bnd_all hf y_15 ey_15
        refine lv_istore_n (lv' := [(3, .int y_15), (0, .ref t_h), (1, .int v1), (4, .int l4)]) hx hb dX7_overhears_71 rfl hl (by decide) rfl (fun ls hl => ?_)
        refine lv_iinc (v := (l4 + 1)) (lv' := [(4, .int (l4 + 1)), (3, .int y_15), (0, .ref t_h), (1, .int v1)]) hx hb dX7_overhears_72 hl (k := 3) rfl (by rfl) (by decide) rfl (fun ls hl => ?_)
        refine lv_goto (tgt := 44) hx hb dX7_overhears_75 (by decide) ?_
        exact ih _ _ _ _ _ hP hD hS (lv_sub hl [2, 3, 1, 0] rfl) hf hX
  unfold fX7_overhears at hf
  refine lv_aload_n hx hb dX7_overhears_0 rfl (lv_at hl 0 rfl) ?_
  refine lv_iload_n hx hb dX7_overhears_1 rfl (lv_at hl 1 rfl) ?_
  refine lv_iload_n hx hb dX7_overhears_2 rfl (lv_at hl 2 rfl) ?_
  obtain ⟨r_1, hc_2, hf⟩ := bd1_in hf
  refine rcI (va_runV (As := [.int v1, .int v2]) (rest := []) ⟨hx, hb, hml, hown, hw⟩ ((ctX7_areTwoWindows l G t_h t_a now_h now_a rd_h sp_h wy_h gp_h ch_h sb_h now_windows now_washes now_damp now_heard now_lines now_hour now_strings v1 v2 _ hc_2) _) (kV hw calX7_areTwoWindows kw_27_17 rfl rfl ⟨Nat.le_of_ble_eq_true rfl, Nat.le_of_ble_eq_true rfl⟩) (rpV (hP.sub (ws' := [oX7 t_h t_a rd_h now_h sp_h wy_h gp_h ch_h sb_h, oX1 now_h now_a now_windows now_washes now_damp now_heard now_lines now_hour now_strings]) [0, 1] rfl) hK (ci := 7) (q0 := 0) rfl rfl) rfl rfl hl.1 rfl (lv_room (Nat.le_of_ble_eq_true rfl)) dX7_overhears_3 ⟨Nat.zero_le _, Nat.zero_le _⟩) hS hA hP (fun H locs hP hS => ?_)
  refine lv_if_ne (tgt := 12) hx hb dX7_overhears_6 (by decide) (fun c_3 => ?_) (fun c_3 => ?_)
  · have hf := iq c_3 hf
    refine lv_aload_n hx hb dX7_overhears_12 rfl (lv_at hl 0 rfl) ?_
    refine va_get (D := G.1) (ci := 7) (v := .ref wy_h) (C := RX7) (T := TX7) (N := 10) hx hb hw inW7 hown hK.1 hP 0 rfl rfl 3 (by decide) (hw _ kw_2_1) (fun _ h9 => h9) rfl dX7_overhears_13 ?_
    refine lv_aload_n hx hb dX7_overhears_16 rfl (lv_at hl 0 rfl) ?_
    refine va_get (D := G.1) (ci := 7) (v := .ref now_h) (C := RX7) (T := TX7) (N := 10) hx hb hw inW7 hown hK.1 hP 0 rfl rfl 1 (by decide) (hw _ kw_1_20) (fun _ h9 => h9) rfl dX7_overhears_17 ?_
    refine lv_aload_n hx hb dX7_overhears_20 rfl (lv_at hl 0 rfl) ?_
    refine va_get (D := G.1) (ci := 7) (v := .ref now_h) (C := RX7) (T := TX7) (N := 10) hx hb hw inW7 hown hK.1 hP 0 rfl rfl 1 (by decide) (hw _ kw_1_20) (fun _ h9 => h9) rfl dX7_overhears_21 ?_
    refine va_getN (D := G.1) (ci := 1) (v := .int now_hour) (C := RX1) (T := TX1) (N := 12) hx hb hw inW1 hown hK.1 hP 1 rfl rfl 5 (by decide) ((nf_16 hK.2).use rfl) (fun _ h9 => h9) rfl dX7_overhears_24 ?_
    obtain ⟨wy_windows_4, wy_links_5, wy_prices_6, hc_7, hf⟩ := bd3_in hf
    refine wcV (w1 := [oX6 wy_h wy_a wy_windows_4 wy_goal wy_otherFrom wy_otherTo wy_least, arI G (wy_a 1) 12 wy_links_5, arI G (wy_a 2) 144 wy_prices_6, oX1 now_h now_a now_windows now_washes now_damp now_heard now_lines now_hour now_strings, arI G (now_a 8) 8 now_washPairs, arI G (now_a 9) 8 now_washHours, arI G (now_a 10) 21 now_pairs, arI G (now_a 11) 21 now_knots]) (va_runV (As := [.ref now_h, .int now_hour]) (rest := []) ⟨hx, hb, hml, hown, hw⟩ ((ctX6_takeStrings l G wy_h wy_a now_h now_a wy_windows wy_links wy_prices wy_goal wy_otherFrom wy_otherTo wy_least now_windows now_washes now_damp now_heard now_lines now_hour now_strings now_washPairs now_washHours now_pairs now_knots now_hour _ _ _ hc_7) _) (kV hw calX6_takeStrings kw_18_10 rfl rfl ⟨Nat.le_of_ble_eq_true rfl, Nat.le_of_ble_eq_true rfl⟩) (wpV (hP.sub (ws' := [oX6 wy_h wy_a wy_windows wy_goal wy_otherFrom wy_otherTo wy_least, arI G (wy_a 1) 12 wy_links, arI G (wy_a 2) 144 wy_prices, oX1 now_h now_a now_windows now_washes now_damp now_heard now_lines now_hour now_strings, arI G (now_a 8) 8 now_washPairs, arI G (now_a 9) 8 now_washHours, arI G (now_a 10) 21 now_pairs, arI G (now_a 11) 21 now_knots]) [6, 7, 8, 1, 2, 3, 4, 5] rfl) (hD.sub (ws' := [oX6 wy_h wy_a wy_windows wy_goal wy_otherFrom wy_otherTo wy_least, arI G (wy_a 1) 12 wy_links, arI G (wy_a 2) 144 wy_prices, oX1 now_h now_a now_windows now_washes now_damp now_heard now_lines now_hour now_strings, arI G (now_a 8) 8 now_washPairs, arI G (now_a 9) 8 now_washHours, arI G (now_a 10) 21 now_pairs, arI G (now_a 11) 21 now_knots]) [6, 7, 8, 1, 2, 3, 4, 5] (by decide) rfl) hK (ci := 6) (q0 := 0) rfl rfl) rfl rfl hl.1 rfl (lv_room (Nat.le_of_ble_eq_true rfl)) dX7_overhears_27 ⟨Nat.zero_le _, Nat.zero_le _⟩) hS hA hP hD [6, 7, 8, 1, 2, 3, 4, 5] rfl rfl (fun H locs hP hD hS => ?_)
    have hP : va_P G.1 vwCl [oX7 t_h t_a rd_h now_h sp_h wy_h gp_h ch_h sb_h, oX1 now_h now_a now_windows now_washes now_damp now_heard now_lines now_hour now_strings, arI G (now_a 8) 8 now_washPairs, arI G (now_a 9) 8 now_washHours, arI G (now_a 10) 21 now_pairs, arI G (now_a 11) 21 now_knots, oX6 wy_h wy_a wy_windows_4 wy_goal wy_otherFrom wy_otherTo wy_least, arI G (wy_a 1) 12 wy_links_5, arI G (wy_a 2) 144 wy_prices_6, arI G (wy_a 3) 12 wy_rest] H := hP
    have hD : va_D A [oX7 t_h t_a rd_h now_h sp_h wy_h gp_h ch_h sb_h, oX1 now_h now_a now_windows now_washes now_damp now_heard now_lines now_hour now_strings, arI G (now_a 8) 8 now_washPairs, arI G (now_a 9) 8 now_washHours, arI G (now_a 10) 21 now_pairs, arI G (now_a 11) 21 now_knots, oX6 wy_h wy_a wy_windows_4 wy_goal wy_otherFrom wy_otherTo wy_least, arI G (wy_a 1) 12 wy_links_5, arI G (wy_a 2) 144 wy_prices_6, arI G (wy_a 3) 12 wy_rest] := hD
    refine lv_aload_n hx hb dX7_overhears_30 rfl (lv_at hl 0 rfl) ?_
    refine va_get (D := G.1) (ci := 7) (v := .ref wy_h) (C := RX7) (T := TX7) (N := 10) hx hb hw inW7 hown hK.1 hP 0 rfl rfl 3 (by decide) (hw _ kw_2_1) (fun _ h9 => h9) rfl dX7_overhears_31 ?_
    refine lv_iload_n hx hb dX7_overhears_34 rfl (lv_at hl 2 rfl) ?_
    refine lv_iconst (v := 0) hx hb dX7_overhears_35 (by decide) ?_
    obtain ⟨wy_rest_8, hc_9, hf⟩ := bd1_in hf
    refine wcV (w1 := [oX6 wy_h wy_a wy_windows_4 wy_goal wy_otherFrom wy_otherTo wy_least, arI G (wy_a 1) 12 wy_links_5, arI G (wy_a 2) 144 wy_prices_6, arI G (wy_a 3) 12 wy_rest_8]) (va_runV (As := [.int v2, .int 0]) (rest := []) ⟨hx, hb, hml, hown, hw⟩ ((ctX6_measure l G wy_h wy_a wy_windows_4 wy_links_5 wy_prices_6 wy_rest wy_goal wy_otherFrom wy_otherTo wy_least v2 0 _ hc_9) _) (kV hw calX6_measure kw_28_1 rfl rfl ⟨Nat.le_of_ble_eq_true rfl, Nat.le_of_ble_eq_true rfl⟩) (wpV (hP.sub (ws' := [oX6 wy_h wy_a wy_windows_4 wy_goal wy_otherFrom wy_otherTo wy_least, arI G (wy_a 1) 12 wy_links_5, arI G (wy_a 2) 144 wy_prices_6, arI G (wy_a 3) 12 wy_rest]) [6, 7, 8, 9] rfl) (hD.sub (ws' := [oX6 wy_h wy_a wy_windows_4 wy_goal wy_otherFrom wy_otherTo wy_least, arI G (wy_a 1) 12 wy_links_5, arI G (wy_a 2) 144 wy_prices_6, arI G (wy_a 3) 12 wy_rest]) [6, 7, 8, 9] (by decide) rfl) hK (ci := 6) (q0 := 0) rfl rfl) rfl rfl hl.1 rfl (lv_room (Nat.le_of_ble_eq_true rfl)) dX7_overhears_36 ⟨Nat.zero_le _, Nat.zero_le _⟩) hS hA hP hD [6, 7, 8, 9] rfl rfl (fun H locs hP hD hS => ?_)
    have hP : va_P G.1 vwCl [oX7 t_h t_a rd_h now_h sp_h wy_h gp_h ch_h sb_h, oX1 now_h now_a now_windows now_washes now_damp now_heard now_lines now_hour now_strings, arI G (now_a 8) 8 now_washPairs, arI G (now_a 9) 8 now_washHours, arI G (now_a 10) 21 now_pairs, arI G (now_a 11) 21 now_knots, oX6 wy_h wy_a wy_windows_4 wy_goal wy_otherFrom wy_otherTo wy_least, arI G (wy_a 1) 12 wy_links_5, arI G (wy_a 2) 144 wy_prices_6, arI G (wy_a 3) 12 wy_rest_8] H := hP
    have hD : va_D A [oX7 t_h t_a rd_h now_h sp_h wy_h gp_h ch_h sb_h, oX1 now_h now_a now_windows now_washes now_damp now_heard now_lines now_hour now_strings, arI G (now_a 8) 8 now_washPairs, arI G (now_a 9) 8 now_washHours, arI G (now_a 10) 21 now_pairs, arI G (now_a 11) 21 now_knots, oX6 wy_h wy_a wy_windows_4 wy_goal wy_otherFrom wy_otherTo wy_least, arI G (wy_a 1) 12 wy_links_5, arI G (wy_a 2) 144 wy_prices_6, arI G (wy_a 3) 12 wy_rest_8] := hD
    refine lv_iconst (v := 0) hx hb dX7_overhears_39 (by decide) ?_
    refine lv_istore_n (lv' := [(3, .int 0), (0, .ref t_h), (1, .int v1), (2, .int v2)]) hx hb dX7_overhears_40 rfl hl (by decide) rfl (fun ls hl => ?_)
    refine lv_iconst (v := 1) hx hb dX7_overhears_41 (by decide) ?_
    refine lv_istore (lv' := [(4, .int 1), (3, .int 0), (0, .ref t_h), (1, .int v1), (2, .int v2)]) hx hb dX7_overhears_42 hl (by decide) rfl (fun ls hl => ?_)
    refine L44 _ _ _ _ _ _ _ _ _ _ _ hP hD hS (lv_sub hl [2, 3, 1, 0] rfl) hf (fun w_16 H locs ls hP hD hS hl hf => ?_)
    refine lv_iload_n hx hb dX7_overhears_78 rfl (lv_at hl 0 rfl) ?_
    exact hRet _ _ _ _ _ _ _ _ _ hf hP hS dX7_overhears_79
  · have hf := ip c_3 hf
    refine lv_bipush (v := (-2)) hx hb dX7_overhears_9 (by decide) ?_
    exact hRet _ _ _ _ _ _ _ _ _ hf hP hS dX7_overhears_11
theorem calX7_heardPast : CalV yX7_heardPast cX7_heardPast 4 (some .boolean) 3 := ⟨⟨kw_31_16, kw_1_2, by decide +kernel⟩, kw_31_14, kw_31_15⟩
set_option maxHeartbeats 8000000 in
set_option maxRecDepth 100000 in
theorem ctX7_heardPast (l : Launch) (G : GT) (t_h : Nat) (t_a : Nat → Nat) (now_h : Nat) (now_a : Nat → Nat) (wy_h : Nat) (wy_a : Nat → Nat) (rd_h : Nat) (sp_h : Nat) (gp_h : Nat) (ch_h : Nat) (sb_h : Nat) (now_windows : Int32) (now_washes : Int32) (now_damp : Int32) (now_heard : Int32) (now_lines : Int32) (now_hour : Int32) (now_strings : Int32) (wy_windows : Int32) (wy_links : Nat → Int32) (wy_prices : Nat → Int32) (wy_rest : Nat → Int32) (wy_goal : Int32) (wy_otherFrom : Int32) (wy_otherTo : Int32) (wy_least : Int32) (v1 : Int32) (v2 : Int32) (v3 : Int32) (r : Int32) (o_wy_rest : Nat → Int32) (hf : fX7_heardPast now_heard wy_windows wy_links wy_prices wy_rest v1 v2 v3 = some (r, o_wy_rest)) : WrI l yX7_heardPast (Cond.code yX7_heardPast cX7_heardPast 4 (some .boolean)) { frames := 3, cells := 0, slots := 0, locals := 80 } G [.ref t_h, .int v1, .int v2, .int v3] [oX7 t_h t_a rd_h now_h sp_h wy_h gp_h ch_h sb_h, oX1 now_h now_a now_windows now_washes now_damp now_heard now_lines now_hour now_strings, oX6 wy_h wy_a wy_windows wy_goal wy_otherFrom wy_otherTo wy_least, arI G (wy_a 1) 12 wy_links, arI G (wy_a 2) 144 wy_prices, arI G (wy_a 3) 12 wy_rest] [oX7 t_h t_a rd_h now_h sp_h wy_h gp_h ch_h sb_h, oX1 now_h now_a now_windows now_washes now_damp now_heard now_lines now_hour now_strings, oX6 wy_h wy_a wy_windows wy_goal wy_otherFrom wy_otherTo wy_least, arI G (wy_a 1) 12 wy_links, arI G (wy_a 2) 144 wy_prices, arI G (wy_a 3) 12 o_wy_rest] r := by
  intro sz
  refine Met.ofW (cc := cX7_heardPast) (maxL := 4) (ret := (some .boolean)) (by decide) rfl ?_
  intro p e s m args below meth c s₁ B hml hv
  obtain ⟨hargs, hsz, hP, hD0, hK⟩ := hv
  subst hsz
  obtain ⟨hx, hb, hr, hw, hown, hlk⟩ := fwB B
  refine fw_enter hargs (Nat.le_of_ble_eq_true rfl) (fun ls hl => ?_)
  have hl : lv_has ls 4 [(0, .ref t_h), (1, .int v1), (2, .int v2), (3, .int v3)] := hl
  refine fw_Q (P := fun Q => ∃ A : Nat → Prop, va_D A [oX7 t_h t_a rd_h now_h sp_h wy_h gp_h ch_h sb_h, oX1 now_h now_a now_windows now_washes now_damp now_heard now_lines now_hour now_strings, oX6 wy_h wy_a wy_windows wy_goal wy_otherFrom wy_otherTo wy_least, arI G (wy_a 1) 12 wy_links, arI G (wy_a 2) 144 wy_prices, arI G (wy_a 3) 12 wy_rest] ∧ va_S A s.heap s.heap [] ∧ (∀ q, s.heap.size ≤ q → A q) ∧ ∀ (v : Int32) (n_wy_rest : Nat → Int32) (H : Heap) (locs : List Loc) (pc : Nat) (ls : Array Slot), some (v, n_wy_rest) = some (r, o_wy_rest) → va_P G.1 vwCl [oX7 t_h t_a rd_h now_h sp_h wy_h gp_h ch_h sb_h, oX1 now_h now_a now_windows now_washes now_damp now_heard now_lines now_hour now_strings, oX6 wy_h wy_a wy_windows wy_goal wy_otherFrom wy_otherTo wy_least, arI G (wy_a 1) 12 wy_links, arI G (wy_a 2) 144 wy_prices, arI G (wy_a 3) 12 n_wy_rest] H → va_S A s.heap H locs → narrow .boolean (.int v) = .int v → decode cX7_heardPast pc = .ok (.ireturn, 1) → W p l e ({ frames := 3, cells := 0, slots := 0, locals := 80 } : Room) s m args below meth c H locs 0 0 Q (F0 m pc ls [.int v])) ⟨va_A [oX7 t_h t_a rd_h now_h sp_h wy_h gp_h ch_h sb_h, oX1 now_h now_a now_windows now_washes now_damp now_heard now_lines now_hour now_strings, oX6 wy_h wy_a wy_windows wy_goal wy_otherFrom wy_otherTo wy_least, arI G (wy_a 1) 12 wy_links, arI G (wy_a 2) 144 wy_prices, arI G (wy_a 3) 12 wy_rest] s.heap.size, hD0.self (sz := s.heap.size), va_S.rf, fun q h => Or.inr h, ?_⟩ ?_
  · intro v n_wy_rest H locs pc ls h hP hS hn hd
    cases h
    exact retWZ hx hb hr hlk hS hP hn rfl hd
  rintro Q ⟨A, hD, hS, hA, hRet⟩
  change W p l e ({ frames := 3, cells := 0, slots := 0, locals := 80 } : Room) s m args below meth c _ _ 0 0 Q _
  unfold fX7_heardPast at hf
  refine lv_aload_n hx hb dX7_heardPast_0 rfl (lv_at hl 0 rfl) ?_
  refine va_get (D := G.1) (ci := 7) (v := .ref wy_h) (C := RX7) (T := TX7) (N := 10) hx hb hw inW7 hown hK.1 hP 0 rfl rfl 3 (by decide) (hw _ kw_2_1) (fun _ h9 => h9) rfl dX7_heardPast_1 ?_
  refine lv_iload_n hx hb dX7_heardPast_4 rfl (lv_at hl 2 rfl) ?_
  refine lv_iload_n hx hb dX7_heardPast_5 rfl (lv_at hl 3 rfl) ?_
  obtain ⟨wy_rest_1, hc_2, hf⟩ := bd1_in hf
  refine wcV (w1 := [oX6 wy_h wy_a wy_windows wy_goal wy_otherFrom wy_otherTo wy_least, arI G (wy_a 1) 12 wy_links, arI G (wy_a 2) 144 wy_prices, arI G (wy_a 3) 12 wy_rest_1]) (va_runV (As := [.int v2, .int v3]) (rest := []) ⟨hx, hb, hml, hown, hw⟩ ((ctX6_measure l G wy_h wy_a wy_windows wy_links wy_prices wy_rest wy_goal wy_otherFrom wy_otherTo wy_least v2 v3 _ hc_2) _) (kV hw calX6_measure kw_28_1 rfl rfl ⟨Nat.le_of_ble_eq_true rfl, Nat.le_of_ble_eq_true rfl⟩) (wpV (hP.sub (ws' := [oX6 wy_h wy_a wy_windows wy_goal wy_otherFrom wy_otherTo wy_least, arI G (wy_a 1) 12 wy_links, arI G (wy_a 2) 144 wy_prices, arI G (wy_a 3) 12 wy_rest]) [2, 3, 4, 5] rfl) (hD.sub (ws' := [oX6 wy_h wy_a wy_windows wy_goal wy_otherFrom wy_otherTo wy_least, arI G (wy_a 1) 12 wy_links, arI G (wy_a 2) 144 wy_prices, arI G (wy_a 3) 12 wy_rest]) [2, 3, 4, 5] (by decide) rfl) hK (ci := 6) (q0 := 0) rfl rfl) rfl rfl hl.1 rfl (lv_room (Nat.le_of_ble_eq_true rfl)) dX7_heardPast_6 ⟨Nat.zero_le _, Nat.zero_le _⟩) hS hA hP hD [2, 3, 4, 5] rfl rfl (fun H locs hP hD hS => ?_)
  have hP : va_P G.1 vwCl [oX7 t_h t_a rd_h now_h sp_h wy_h gp_h ch_h sb_h, oX1 now_h now_a now_windows now_washes now_damp now_heard now_lines now_hour now_strings, oX6 wy_h wy_a wy_windows wy_goal wy_otherFrom wy_otherTo wy_least, arI G (wy_a 1) 12 wy_links, arI G (wy_a 2) 144 wy_prices, arI G (wy_a 3) 12 wy_rest_1] H := hP
  have hD : va_D A [oX7 t_h t_a rd_h now_h sp_h wy_h gp_h ch_h sb_h, oX1 now_h now_a now_windows now_washes now_damp now_heard now_lines now_hour now_strings, oX6 wy_h wy_a wy_windows wy_goal wy_otherFrom wy_otherTo wy_least, arI G (wy_a 1) 12 wy_links, arI G (wy_a 2) 144 wy_prices, arI G (wy_a 3) 12 wy_rest_1] := hD
  refine lv_aload_n hx hb dX7_heardPast_9 rfl (lv_at hl 0 rfl) ?_
  refine va_get (D := G.1) (ci := 7) (v := .ref wy_h) (C := RX7) (T := TX7) (N := 10) hx hb hw inW7 hown hK.1 hP 0 rfl rfl 3 (by decide) (hw _ kw_2_1) (fun _ h9 => h9) rfl dX7_heardPast_10 ?_
  refine lv_iload_n hx hb dX7_heardPast_13 rfl (lv_at hl 1 rfl) ?_
  refine lv_aload_n hx hb dX7_heardPast_14 rfl (lv_at hl 0 rfl) ?_
  refine va_get (D := G.1) (ci := 7) (v := .ref now_h) (C := RX7) (T := TX7) (N := 10) hx hb hw inW7 hown hK.1 hP 0 rfl rfl 1 (by decide) (hw _ kw_1_20) (fun _ h9 => h9) rfl dX7_heardPast_15 ?_
  refine va_getN (D := G.1) (ci := 1) (v := .int now_heard) (C := RX1) (T := TX1) (N := 12) hx hb hw inW1 hown hK.1 hP 1 rfl rfl 3 (by decide) ((nf_13 hK.2).use rfl) (fun _ h9 => h9) rfl dX7_heardPast_18 ?_
  obtain ⟨r_3, hc_4, hf⟩ := bd1_in hf
  refine rcI (va_runV (As := [.int v1, .int now_heard]) (rest := []) ⟨hx, hb, hml, hown, hw⟩ ((ctX6_isHeardFrom l G wy_h wy_a wy_windows wy_rest_1 wy_goal wy_otherFrom wy_otherTo wy_least v1 now_heard _ hc_4) _) (kV hw calX6_isHeardFrom kw_30_16 rfl rfl ⟨Nat.le_of_ble_eq_true rfl, Nat.le_of_ble_eq_true rfl⟩) (rpV (hP.sub (ws' := [oX6 wy_h wy_a wy_windows wy_goal wy_otherFrom wy_otherTo wy_least, arI G (wy_a 3) 12 wy_rest_1]) [2, 5] rfl) hK (ci := 6) (q0 := 0) rfl rfl) rfl rfl hl.1 rfl (lv_room (Nat.le_of_ble_eq_true rfl)) dX7_heardPast_21 ⟨Nat.zero_le _, Nat.zero_le _⟩) hS hA hP (fun H locs hP hS => ?_)
  obtain ⟨hzn, hf⟩ := bzI_in hf
  exact hRet _ _ _ _ _ _ hf hP hS hzn dX7_heardPast_24
theorem calX7_needs : CalV yX7_needs cX7_needs 4 (some .int) 2 := ⟨⟨kw_31_12, kw_1_2, by decide +kernel⟩, kw_31_10, kw_31_11⟩
set_option maxHeartbeats 8000000 in
set_option maxRecDepth 100000 in
theorem ctX7_needs (l : Launch) (G : GT) (t_h : Nat) (t_a : Nat → Nat) (now_h : Nat) (now_a : Nat → Nat) (wy_h : Nat) (wy_a : Nat → Nat) (rd_h : Nat) (sp_h : Nat) (gp_h : Nat) (ch_h : Nat) (sb_h : Nat) (now_windows : Int32) (now_washes : Int32) (now_damp : Int32) (now_heard : Int32) (now_lines : Int32) (now_hour : Int32) (now_strings : Int32) (now_washPairs : Nat → Int32) (now_washHours : Nat → Int32) (now_pairs : Nat → Int32) (now_knots : Nat → Int32) (wy_windows : Int32) (wy_links : Nat → Int32) (wy_prices : Nat → Int32) (wy_rest : Nat → Int32) (wy_goal : Int32) (wy_otherFrom : Int32) (wy_otherTo : Int32) (wy_least : Int32) (v1 : Int32) (v2 : Int32) (r : Int32) (o_wy_windows : Int32) (o_wy_links : Nat → Int32) (o_wy_prices : Nat → Int32) (o_wy_rest : Nat → Int32) (hf : fX7_needs now_windows now_washes now_damp now_heard now_hour now_strings now_washPairs now_washHours now_pairs now_knots wy_windows wy_links wy_prices wy_rest v1 v2 = some (r, o_wy_windows, o_wy_links, o_wy_prices, o_wy_rest)) : WrI l yX7_needs (Cond.code yX7_needs cX7_needs 4 (some .int)) { frames := 5, cells := 0, slots := 0, locals := 108 } G [.ref t_h, .int v1, .int v2] [oX7 t_h t_a rd_h now_h sp_h wy_h gp_h ch_h sb_h, oX1 now_h now_a now_windows now_washes now_damp now_heard now_lines now_hour now_strings, arI G (now_a 8) 8 now_washPairs, arI G (now_a 9) 8 now_washHours, arI G (now_a 10) 21 now_pairs, arI G (now_a 11) 21 now_knots, oX6 wy_h wy_a wy_windows wy_goal wy_otherFrom wy_otherTo wy_least, arI G (wy_a 1) 12 wy_links, arI G (wy_a 2) 144 wy_prices, arI G (wy_a 3) 12 wy_rest] [oX7 t_h t_a rd_h now_h sp_h wy_h gp_h ch_h sb_h, oX1 now_h now_a now_windows now_washes now_damp now_heard now_lines now_hour now_strings, arI G (now_a 8) 8 now_washPairs, arI G (now_a 9) 8 now_washHours, arI G (now_a 10) 21 now_pairs, arI G (now_a 11) 21 now_knots, oX6 wy_h wy_a o_wy_windows wy_goal wy_otherFrom wy_otherTo wy_least, arI G (wy_a 1) 12 o_wy_links, arI G (wy_a 2) 144 o_wy_prices, arI G (wy_a 3) 12 o_wy_rest] r := by
  intro sz
  refine Met.ofW (cc := cX7_needs) (maxL := 4) (ret := (some .int)) (by decide) rfl ?_
  intro p e s m args below meth c s₁ B hml hv
  obtain ⟨hargs, hsz, hP, hD0, hK⟩ := hv
  subst hsz
  obtain ⟨hx, hb, hr, hw, hown, hlk⟩ := fwB B
  refine fw_enter hargs (Nat.le_of_ble_eq_true rfl) (fun ls hl => ?_)
  have hl : lv_has ls 4 [(0, .ref t_h), (1, .int v1), (2, .int v2)] := hl
  refine fw_Q (P := fun Q => ∃ A : Nat → Prop, va_D A [oX7 t_h t_a rd_h now_h sp_h wy_h gp_h ch_h sb_h, oX1 now_h now_a now_windows now_washes now_damp now_heard now_lines now_hour now_strings, arI G (now_a 8) 8 now_washPairs, arI G (now_a 9) 8 now_washHours, arI G (now_a 10) 21 now_pairs, arI G (now_a 11) 21 now_knots, oX6 wy_h wy_a wy_windows wy_goal wy_otherFrom wy_otherTo wy_least, arI G (wy_a 1) 12 wy_links, arI G (wy_a 2) 144 wy_prices, arI G (wy_a 3) 12 wy_rest] ∧ va_S A s.heap s.heap [] ∧ (∀ q, s.heap.size ≤ q → A q) ∧ ∀ (v : Int32) (n_wy_windows : Int32) (n_wy_links : Nat → Int32) (n_wy_prices : Nat → Int32) (n_wy_rest : Nat → Int32) (H : Heap) (locs : List Loc) (pc : Nat) (ls : Array Slot), some (v, n_wy_windows, n_wy_links, n_wy_prices, n_wy_rest) = some (r, o_wy_windows, o_wy_links, o_wy_prices, o_wy_rest) → va_P G.1 vwCl [oX7 t_h t_a rd_h now_h sp_h wy_h gp_h ch_h sb_h, oX1 now_h now_a now_windows now_washes now_damp now_heard now_lines now_hour now_strings, arI G (now_a 8) 8 now_washPairs, arI G (now_a 9) 8 now_washHours, arI G (now_a 10) 21 now_pairs, arI G (now_a 11) 21 now_knots, oX6 wy_h wy_a n_wy_windows wy_goal wy_otherFrom wy_otherTo wy_least, arI G (wy_a 1) 12 n_wy_links, arI G (wy_a 2) 144 n_wy_prices, arI G (wy_a 3) 12 n_wy_rest] H → va_S A s.heap H locs → decode cX7_needs pc = .ok (.ireturn, 1) → W p l e ({ frames := 5, cells := 0, slots := 0, locals := 108 } : Room) s m args below meth c H locs 0 0 Q (F0 m pc ls [.int v])) ⟨va_A [oX7 t_h t_a rd_h now_h sp_h wy_h gp_h ch_h sb_h, oX1 now_h now_a now_windows now_washes now_damp now_heard now_lines now_hour now_strings, arI G (now_a 8) 8 now_washPairs, arI G (now_a 9) 8 now_washHours, arI G (now_a 10) 21 now_pairs, arI G (now_a 11) 21 now_knots, oX6 wy_h wy_a wy_windows wy_goal wy_otherFrom wy_otherTo wy_least, arI G (wy_a 1) 12 wy_links, arI G (wy_a 2) 144 wy_prices, arI G (wy_a 3) 12 wy_rest] s.heap.size, hD0.self (sz := s.heap.size), va_S.rf, fun q h => Or.inr h, ?_⟩ ?_
  · intro v n_wy_windows n_wy_links n_wy_prices n_wy_rest H locs pc ls h hP hS hd
    cases h
    exact retWI hx hb hr hlk hS hP rfl hd
  rintro Q ⟨A, hD, hS, hA, hRet⟩
  change W p l e ({ frames := 5, cells := 0, slots := 0, locals := 108 } : Room) s m args below meth c _ _ 0 0 Q _
  have L44 : ∀ (wy_windows : Int32) (wy_links : Nat → Int32) (wy_prices : Nat → Int32) (K : (Nat → Int32) → Option (Int32 × Int32 × (Nat → Int32) × (Nat → Int32) × (Nat → Int32))) (n : Nat) (l3 : Int32) (wy_rest : Nat → Int32) (H : Heap) (locs : List Loc) (ls : Array Slot), va_P G.1 vwCl [oX7 t_h t_a rd_h now_h sp_h wy_h gp_h ch_h sb_h, oX1 now_h now_a now_windows now_washes now_damp now_heard now_lines now_hour now_strings, arI G (now_a 8) 8 now_washPairs, arI G (now_a 9) 8 now_washHours, arI G (now_a 10) 21 now_pairs, arI G (now_a 11) 21 now_knots, oX6 wy_h wy_a wy_windows wy_goal wy_otherFrom wy_otherTo wy_least, arI G (wy_a 1) 12 wy_links, arI G (wy_a 2) 144 wy_prices, arI G (wy_a 3) 12 wy_rest] H → va_D A [oX7 t_h t_a rd_h now_h sp_h wy_h gp_h ch_h sb_h, oX1 now_h now_a now_windows now_washes now_damp now_heard now_lines now_hour now_strings, arI G (now_a 8) 8 now_washPairs, arI G (now_a 9) 8 now_washHours, arI G (now_a 10) 21 now_pairs, arI G (now_a 11) 21 now_knots, oX6 wy_h wy_a wy_windows wy_goal wy_otherFrom wy_otherTo wy_least, arI G (wy_a 1) 12 wy_links, arI G (wy_a 2) 144 wy_prices, arI G (wy_a 3) 12 wy_rest] → va_S A s.heap H locs → lv_has ls 4 [(0, .ref t_h), (1, .int v1), (2, .int v2), (3, .int l3)] → fX7_needs_44 v1 v2 now_windows now_heard wy_windows wy_links wy_prices K n l3 wy_rest = some (r, o_wy_windows, o_wy_links, o_wy_prices, o_wy_rest) → (∀ (kwy_rest : Nat → Int32) (H : Heap) (locs : List Loc) (ls : Array Slot), va_P G.1 vwCl [oX7 t_h t_a rd_h now_h sp_h wy_h gp_h ch_h sb_h, oX1 now_h now_a now_windows now_washes now_damp now_heard now_lines now_hour now_strings, arI G (now_a 8) 8 now_washPairs, arI G (now_a 9) 8 now_washHours, arI G (now_a 10) 21 now_pairs, arI G (now_a 11) 21 now_knots, oX6 wy_h wy_a wy_windows wy_goal wy_otherFrom wy_otherTo wy_least, arI G (wy_a 1) 12 wy_links, arI G (wy_a 2) 144 wy_prices, arI G (wy_a 3) 12 kwy_rest] H → va_D A [oX7 t_h t_a rd_h now_h sp_h wy_h gp_h ch_h sb_h, oX1 now_h now_a now_windows now_washes now_damp now_heard now_lines now_hour now_strings, arI G (now_a 8) 8 now_washPairs, arI G (now_a 9) 8 now_washHours, arI G (now_a 10) 21 now_pairs, arI G (now_a 11) 21 now_knots, oX6 wy_h wy_a wy_windows wy_goal wy_otherFrom wy_otherTo wy_least, arI G (wy_a 1) 12 wy_links, arI G (wy_a 2) 144 wy_prices, arI G (wy_a 3) 12 kwy_rest] → va_S A s.heap H locs → lv_has ls 4 [] → K kwy_rest = some (r, o_wy_windows, o_wy_links, o_wy_prices, o_wy_rest) → W p l e ({ frames := 5, cells := 0, slots := 0, locals := 108 } : Room) s m args below meth c H locs 0 0 Q (F0 m 85 ls [])) → W p l e ({ frames := 5, cells := 0, slots := 0, locals := 108 } : Room) s m args below meth c H locs 0 0 Q (F0 m 44 ls []) := by
    intro wy_windows wy_links wy_prices K n
    induction n with
    | zero => intro l3 wy_rest H locs ls hP hD hS hl hf; rw [fX7_needs_44] at hf; cases hf
    | succ n ih =>
      intro l3 wy_rest H locs ls hP hD hS hl hf hX
      rw [fX7_needs_44] at hf
      refine lv_iload_n hx hb dX7_needs_44 rfl (lv_at hl 3 rfl) ?_
      refine lv_aload_n hx hb dX7_needs_45 rfl (lv_at hl 0 rfl) ?_
      refine va_get (D := G.1) (ci := 7) (v := .ref now_h) (C := RX7) (T := TX7) (N := 10) hx hb hw inW7 hown hK.1 hP 0 rfl rfl 1 (by decide) (hw _ kw_1_20) (fun _ h9 => h9) rfl dX7_needs_46 ?_
      refine va_getN (D := G.1) (ci := 1) (v := .int now_windows) (C := RX1) (T := TX1) (N := 12) hx hb hw inW1 hown hK.1 hP 1 rfl rfl 0 (by decide) ((nf_6 hK.2).use rfl) (fun _ h9 => h9) rfl dX7_needs_49 ?_
      refine lv_icmp_ge (tgt := 85) hx hb dX7_needs_52 (by decide) (fun c_12 => ?_) (fun c_12 => ?_)
      · have hf := ip c_12 hf
        exact hX _ _ _ _ hP hD hS (lv_sub hl [] rfl) hf
      · have hf := iq c_12 hf
        refine lv_iload_n hx hb dX7_needs_55 rfl (lv_at hl 3 rfl) ?_
        refine lv_iload_n hx hb dX7_needs_56 rfl (lv_at hl 1 rfl) ?_
        refine lv_icmp_eq (tgt := 79) hx hb dX7_needs_57 (by decide) (fun c_13 => ?_) (fun c_13 => ?_)
        · have hf := ip c_13 hf
          refine lv_iinc (v := (l3 + 1)) (lv' := [(3, .int (l3 + 1)), (0, .ref t_h), (1, .int v1), (2, .int v2)]) hx hb dX7_needs_79 hl (k := 3) rfl (by rfl) (by decide) rfl (fun ls hl => ?_)
          refine lv_goto (tgt := 44) hx hb dX7_needs_82 (by decide) ?_
          exact ih _ _ _ _ _ hP hD hS (lv_sub hl [1, 2, 3, 0] rfl) hf hX
        · have hf := iq c_13 hf
          refine lv_iload_n hx hb dX7_needs_60 rfl (lv_at hl 3 rfl) ?_
          refine lv_iload_n hx hb dX7_needs_61 rfl (lv_at hl 2 rfl) ?_
          refine lv_icmp_eq (tgt := 79) hx hb dX7_needs_62 (by decide) (fun c_14 => ?_) (fun c_14 => ?_)
          · have hf := ip c_14 hf
            refine lv_iinc (v := (l3 + 1)) (lv' := [(3, .int (l3 + 1)), (0, .ref t_h), (1, .int v1), (2, .int v2)]) hx hb dX7_needs_79 hl (k := 3) rfl (by rfl) (by decide) rfl (fun ls hl => ?_)
            refine lv_goto (tgt := 44) hx hb dX7_needs_82 (by decide) ?_
            exact ih _ _ _ _ _ hP hD hS (lv_sub hl [1, 2, 3, 0] rfl) hf hX
          · have hf := iq c_14 hf
            refine lv_aload_n hx hb dX7_needs_65 rfl (lv_at hl 0 rfl) ?_
            refine lv_iload_n hx hb dX7_needs_66 rfl (lv_at hl 1 rfl) ?_
            refine lv_iload_n hx hb dX7_needs_67 rfl (lv_at hl 2 rfl) ?_
            refine lv_iconst (v := 1) hx hb dX7_needs_68 (by decide) ?_
            refine lv_iload_n hx hb dX7_needs_69 rfl (lv_at hl 3 rfl) ?_
            refine lv_ishl hx hb dX7_needs_70 ?_
            obtain ⟨r_16, wy_rest_15, hc_17, hf⟩ := bd2_in hf
            refine wcI (w1 := [oX7 t_h t_a rd_h now_h sp_h wy_h gp_h ch_h sb_h, oX1 now_h now_a now_windows now_washes now_damp now_heard now_lines now_hour now_strings, oX6 wy_h wy_a wy_windows wy_goal wy_otherFrom wy_otherTo wy_least, arI G (wy_a 1) 12 wy_links, arI G (wy_a 2) 144 wy_prices, arI G (wy_a 3) 12 wy_rest_15]) (va_runV (As := [.int v1, .int v2, .int ((1 : Int32) <<< (l3 &&& 31))]) (rest := []) ⟨hx, hb, hml, hown, hw⟩ ((ctX7_heardPast l G t_h t_a now_h now_a wy_h wy_a rd_h sp_h gp_h ch_h sb_h now_windows now_washes now_damp now_heard now_lines now_hour now_strings wy_windows wy_links wy_prices wy_rest wy_goal wy_otherFrom wy_otherTo wy_least v1 v2 ((1 : Int32) <<< (l3 &&& 31)) _ _ hc_17) _) (kV hw calX7_heardPast kw_31_13 rfl rfl ⟨Nat.le_of_ble_eq_true rfl, Nat.le_of_ble_eq_true rfl⟩) (wpV (hP.sub (ws' := [oX7 t_h t_a rd_h now_h sp_h wy_h gp_h ch_h sb_h, oX1 now_h now_a now_windows now_washes now_damp now_heard now_lines now_hour now_strings, oX6 wy_h wy_a wy_windows wy_goal wy_otherFrom wy_otherTo wy_least, arI G (wy_a 1) 12 wy_links, arI G (wy_a 2) 144 wy_prices, arI G (wy_a 3) 12 wy_rest]) [0, 1, 6, 7, 8, 9] rfl) (hD.sub (ws' := [oX7 t_h t_a rd_h now_h sp_h wy_h gp_h ch_h sb_h, oX1 now_h now_a now_windows now_washes now_damp now_heard now_lines now_hour now_strings, oX6 wy_h wy_a wy_windows wy_goal wy_otherFrom wy_otherTo wy_least, arI G (wy_a 1) 12 wy_links, arI G (wy_a 2) 144 wy_prices, arI G (wy_a 3) 12 wy_rest]) [0, 1, 6, 7, 8, 9] (by decide) rfl) hK (ci := 7) (q0 := 0) rfl rfl) rfl rfl hl.1 rfl (lv_room (Nat.le_of_ble_eq_true rfl)) dX7_needs_71 ⟨Nat.zero_le _, Nat.zero_le _⟩) hS hA hP hD [0, 1, 6, 7, 8, 9] rfl rfl (fun H locs hP hD hS => ?_)
            have hP : va_P G.1 vwCl [oX7 t_h t_a rd_h now_h sp_h wy_h gp_h ch_h sb_h, oX1 now_h now_a now_windows now_washes now_damp now_heard now_lines now_hour now_strings, arI G (now_a 8) 8 now_washPairs, arI G (now_a 9) 8 now_washHours, arI G (now_a 10) 21 now_pairs, arI G (now_a 11) 21 now_knots, oX6 wy_h wy_a wy_windows wy_goal wy_otherFrom wy_otherTo wy_least, arI G (wy_a 1) 12 wy_links, arI G (wy_a 2) 144 wy_prices, arI G (wy_a 3) 12 wy_rest_15] H := hP
            have hD : va_D A [oX7 t_h t_a rd_h now_h sp_h wy_h gp_h ch_h sb_h, oX1 now_h now_a now_windows now_washes now_damp now_heard now_lines now_hour now_strings, arI G (now_a 8) 8 now_washPairs, arI G (now_a 9) 8 now_washHours, arI G (now_a 10) 21 now_pairs, arI G (now_a 11) 21 now_knots, oX6 wy_h wy_a wy_windows wy_goal wy_otherFrom wy_otherTo wy_least, arI G (wy_a 1) 12 wy_links, arI G (wy_a 2) 144 wy_prices, arI G (wy_a 3) 12 wy_rest_15] := hD
            refine lv_if_ne (tgt := 79) hx hb dX7_needs_74 (by decide) (fun c_18 => ?_) (fun c_18 => ?_)
            · have hf := iq c_18 hf
              refine lv_iinc (v := (l3 + 1)) (lv' := [(3, .int (l3 + 1)), (0, .ref t_h), (1, .int v1), (2, .int v2)]) hx hb dX7_needs_79 hl (k := 3) rfl (by rfl) (by decide) rfl (fun ls hl => ?_)
              refine lv_goto (tgt := 44) hx hb dX7_needs_82 (by decide) ?_
              exact ih _ _ _ _ _ hP hD hS (lv_sub hl [1, 2, 3, 0] rfl) hf hX
            · have hf := ip c_18 hf
              refine lv_iload_n hx hb dX7_needs_77 rfl (lv_at hl 3 rfl) ?_
              exact hRet _ _ _ _ _ _ _ _ _ hf hP hS dX7_needs_78
  unfold fX7_needs at hf
  refine lv_aload_n hx hb dX7_needs_0 rfl (lv_at hl 0 rfl) ?_
  refine lv_iload_n hx hb dX7_needs_1 rfl (lv_at hl 1 rfl) ?_
  refine lv_iload_n hx hb dX7_needs_2 rfl (lv_at hl 2 rfl) ?_
  obtain ⟨r_1, hc_2, hf⟩ := bd1_in hf
  refine rcI (va_runV (As := [.int v1, .int v2]) (rest := []) ⟨hx, hb, hml, hown, hw⟩ ((ctX7_areTwoWindows l G t_h t_a now_h now_a rd_h sp_h wy_h gp_h ch_h sb_h now_windows now_washes now_damp now_heard now_lines now_hour now_strings v1 v2 _ hc_2) _) (kV hw calX7_areTwoWindows kw_27_17 rfl rfl ⟨Nat.le_of_ble_eq_true rfl, Nat.le_of_ble_eq_true rfl⟩) (rpV (hP.sub (ws' := [oX7 t_h t_a rd_h now_h sp_h wy_h gp_h ch_h sb_h, oX1 now_h now_a now_windows now_washes now_damp now_heard now_lines now_hour now_strings]) [0, 1] rfl) hK (ci := 7) (q0 := 0) rfl rfl) rfl rfl hl.1 rfl (lv_room (Nat.le_of_ble_eq_true rfl)) dX7_needs_3 ⟨Nat.zero_le _, Nat.zero_le _⟩) hS hA hP (fun H locs hP hS => ?_)
  refine lv_if_ne (tgt := 12) hx hb dX7_needs_6 (by decide) (fun c_3 => ?_) (fun c_3 => ?_)
  · have hf := iq c_3 hf
    refine lv_aload_n hx hb dX7_needs_12 rfl (lv_at hl 0 rfl) ?_
    refine va_get (D := G.1) (ci := 7) (v := .ref wy_h) (C := RX7) (T := TX7) (N := 10) hx hb hw inW7 hown hK.1 hP 0 rfl rfl 3 (by decide) (hw _ kw_2_1) (fun _ h9 => h9) rfl dX7_needs_13 ?_
    refine lv_aload_n hx hb dX7_needs_16 rfl (lv_at hl 0 rfl) ?_
    refine va_get (D := G.1) (ci := 7) (v := .ref now_h) (C := RX7) (T := TX7) (N := 10) hx hb hw inW7 hown hK.1 hP 0 rfl rfl 1 (by decide) (hw _ kw_1_20) (fun _ h9 => h9) rfl dX7_needs_17 ?_
    refine lv_aload_n hx hb dX7_needs_20 rfl (lv_at hl 0 rfl) ?_
    refine va_get (D := G.1) (ci := 7) (v := .ref now_h) (C := RX7) (T := TX7) (N := 10) hx hb hw inW7 hown hK.1 hP 0 rfl rfl 1 (by decide) (hw _ kw_1_20) (fun _ h9 => h9) rfl dX7_needs_21 ?_
    refine va_getN (D := G.1) (ci := 1) (v := .int now_hour) (C := RX1) (T := TX1) (N := 12) hx hb hw inW1 hown hK.1 hP 1 rfl rfl 5 (by decide) ((nf_16 hK.2).use rfl) (fun _ h9 => h9) rfl dX7_needs_24 ?_
    obtain ⟨wy_windows_4, wy_links_5, wy_prices_6, hc_7, hf⟩ := bd3_in hf
    refine wcV (w1 := [oX6 wy_h wy_a wy_windows_4 wy_goal wy_otherFrom wy_otherTo wy_least, arI G (wy_a 1) 12 wy_links_5, arI G (wy_a 2) 144 wy_prices_6, oX1 now_h now_a now_windows now_washes now_damp now_heard now_lines now_hour now_strings, arI G (now_a 8) 8 now_washPairs, arI G (now_a 9) 8 now_washHours, arI G (now_a 10) 21 now_pairs, arI G (now_a 11) 21 now_knots]) (va_runV (As := [.ref now_h, .int now_hour]) (rest := []) ⟨hx, hb, hml, hown, hw⟩ ((ctX6_takeStrings l G wy_h wy_a now_h now_a wy_windows wy_links wy_prices wy_goal wy_otherFrom wy_otherTo wy_least now_windows now_washes now_damp now_heard now_lines now_hour now_strings now_washPairs now_washHours now_pairs now_knots now_hour _ _ _ hc_7) _) (kV hw calX6_takeStrings kw_18_10 rfl rfl ⟨Nat.le_of_ble_eq_true rfl, Nat.le_of_ble_eq_true rfl⟩) (wpV (hP.sub (ws' := [oX6 wy_h wy_a wy_windows wy_goal wy_otherFrom wy_otherTo wy_least, arI G (wy_a 1) 12 wy_links, arI G (wy_a 2) 144 wy_prices, oX1 now_h now_a now_windows now_washes now_damp now_heard now_lines now_hour now_strings, arI G (now_a 8) 8 now_washPairs, arI G (now_a 9) 8 now_washHours, arI G (now_a 10) 21 now_pairs, arI G (now_a 11) 21 now_knots]) [6, 7, 8, 1, 2, 3, 4, 5] rfl) (hD.sub (ws' := [oX6 wy_h wy_a wy_windows wy_goal wy_otherFrom wy_otherTo wy_least, arI G (wy_a 1) 12 wy_links, arI G (wy_a 2) 144 wy_prices, oX1 now_h now_a now_windows now_washes now_damp now_heard now_lines now_hour now_strings, arI G (now_a 8) 8 now_washPairs, arI G (now_a 9) 8 now_washHours, arI G (now_a 10) 21 now_pairs, arI G (now_a 11) 21 now_knots]) [6, 7, 8, 1, 2, 3, 4, 5] (by decide) rfl) hK (ci := 6) (q0 := 0) rfl rfl) rfl rfl hl.1 rfl (lv_room (Nat.le_of_ble_eq_true rfl)) dX7_needs_27 ⟨Nat.zero_le _, Nat.zero_le _⟩) hS hA hP hD [6, 7, 8, 1, 2, 3, 4, 5] rfl rfl (fun H locs hP hD hS => ?_)
    have hP : va_P G.1 vwCl [oX7 t_h t_a rd_h now_h sp_h wy_h gp_h ch_h sb_h, oX1 now_h now_a now_windows now_washes now_damp now_heard now_lines now_hour now_strings, arI G (now_a 8) 8 now_washPairs, arI G (now_a 9) 8 now_washHours, arI G (now_a 10) 21 now_pairs, arI G (now_a 11) 21 now_knots, oX6 wy_h wy_a wy_windows_4 wy_goal wy_otherFrom wy_otherTo wy_least, arI G (wy_a 1) 12 wy_links_5, arI G (wy_a 2) 144 wy_prices_6, arI G (wy_a 3) 12 wy_rest] H := hP
    have hD : va_D A [oX7 t_h t_a rd_h now_h sp_h wy_h gp_h ch_h sb_h, oX1 now_h now_a now_windows now_washes now_damp now_heard now_lines now_hour now_strings, arI G (now_a 8) 8 now_washPairs, arI G (now_a 9) 8 now_washHours, arI G (now_a 10) 21 now_pairs, arI G (now_a 11) 21 now_knots, oX6 wy_h wy_a wy_windows_4 wy_goal wy_otherFrom wy_otherTo wy_least, arI G (wy_a 1) 12 wy_links_5, arI G (wy_a 2) 144 wy_prices_6, arI G (wy_a 3) 12 wy_rest] := hD
    refine lv_aload_n hx hb dX7_needs_30 rfl (lv_at hl 0 rfl) ?_
    refine lv_iload_n hx hb dX7_needs_31 rfl (lv_at hl 1 rfl) ?_
    refine lv_iload_n hx hb dX7_needs_32 rfl (lv_at hl 2 rfl) ?_
    refine lv_iconst (v := 0) hx hb dX7_needs_33 (by decide) ?_
    obtain ⟨r_9, wy_rest_8, hc_10, hf⟩ := bd2_in hf
    refine wcI (w1 := [oX7 t_h t_a rd_h now_h sp_h wy_h gp_h ch_h sb_h, oX1 now_h now_a now_windows now_washes now_damp now_heard now_lines now_hour now_strings, oX6 wy_h wy_a wy_windows_4 wy_goal wy_otherFrom wy_otherTo wy_least, arI G (wy_a 1) 12 wy_links_5, arI G (wy_a 2) 144 wy_prices_6, arI G (wy_a 3) 12 wy_rest_8]) (va_runV (As := [.int v1, .int v2, .int 0]) (rest := []) ⟨hx, hb, hml, hown, hw⟩ ((ctX7_heardPast l G t_h t_a now_h now_a wy_h wy_a rd_h sp_h gp_h ch_h sb_h now_windows now_washes now_damp now_heard now_lines now_hour now_strings wy_windows_4 wy_links_5 wy_prices_6 wy_rest wy_goal wy_otherFrom wy_otherTo wy_least v1 v2 0 _ _ hc_10) _) (kV hw calX7_heardPast kw_31_13 rfl rfl ⟨Nat.le_of_ble_eq_true rfl, Nat.le_of_ble_eq_true rfl⟩) (wpV (hP.sub (ws' := [oX7 t_h t_a rd_h now_h sp_h wy_h gp_h ch_h sb_h, oX1 now_h now_a now_windows now_washes now_damp now_heard now_lines now_hour now_strings, oX6 wy_h wy_a wy_windows_4 wy_goal wy_otherFrom wy_otherTo wy_least, arI G (wy_a 1) 12 wy_links_5, arI G (wy_a 2) 144 wy_prices_6, arI G (wy_a 3) 12 wy_rest]) [0, 1, 6, 7, 8, 9] rfl) (hD.sub (ws' := [oX7 t_h t_a rd_h now_h sp_h wy_h gp_h ch_h sb_h, oX1 now_h now_a now_windows now_washes now_damp now_heard now_lines now_hour now_strings, oX6 wy_h wy_a wy_windows_4 wy_goal wy_otherFrom wy_otherTo wy_least, arI G (wy_a 1) 12 wy_links_5, arI G (wy_a 2) 144 wy_prices_6, arI G (wy_a 3) 12 wy_rest]) [0, 1, 6, 7, 8, 9] (by decide) rfl) hK (ci := 7) (q0 := 0) rfl rfl) rfl rfl hl.1 rfl (lv_room (Nat.le_of_ble_eq_true rfl)) dX7_needs_34 ⟨Nat.zero_le _, Nat.zero_le _⟩) hS hA hP hD [0, 1, 6, 7, 8, 9] rfl rfl (fun H locs hP hD hS => ?_)
    have hP : va_P G.1 vwCl [oX7 t_h t_a rd_h now_h sp_h wy_h gp_h ch_h sb_h, oX1 now_h now_a now_windows now_washes now_damp now_heard now_lines now_hour now_strings, arI G (now_a 8) 8 now_washPairs, arI G (now_a 9) 8 now_washHours, arI G (now_a 10) 21 now_pairs, arI G (now_a 11) 21 now_knots, oX6 wy_h wy_a wy_windows_4 wy_goal wy_otherFrom wy_otherTo wy_least, arI G (wy_a 1) 12 wy_links_5, arI G (wy_a 2) 144 wy_prices_6, arI G (wy_a 3) 12 wy_rest_8] H := hP
    have hD : va_D A [oX7 t_h t_a rd_h now_h sp_h wy_h gp_h ch_h sb_h, oX1 now_h now_a now_windows now_washes now_damp now_heard now_lines now_hour now_strings, arI G (now_a 8) 8 now_washPairs, arI G (now_a 9) 8 now_washHours, arI G (now_a 10) 21 now_pairs, arI G (now_a 11) 21 now_knots, oX6 wy_h wy_a wy_windows_4 wy_goal wy_otherFrom wy_otherTo wy_least, arI G (wy_a 1) 12 wy_links_5, arI G (wy_a 2) 144 wy_prices_6, arI G (wy_a 3) 12 wy_rest_8] := hD
    refine lv_if_ne (tgt := 42) hx hb dX7_needs_37 (by decide) (fun c_11 => ?_) (fun c_11 => ?_)
    · have hf := iq c_11 hf
      refine lv_iconst (v := 0) hx hb dX7_needs_42 (by decide) ?_
      refine lv_istore_n (lv' := [(3, .int 0), (0, .ref t_h), (1, .int v1), (2, .int v2)]) hx hb dX7_needs_43 rfl hl (by decide) rfl (fun ls hl => ?_)
      refine L44 _ _ _ _ _ _ _ _ _ _ hP hD hS (lv_sub hl [1, 2, 3, 0] rfl) hf (fun wy_rest_19 H locs ls hP hD hS hl hf => ?_)
      refine lv_iconst (v := (-1)) hx hb dX7_needs_85 (by decide) ?_
      exact hRet _ _ _ _ _ _ _ _ _ hf hP hS dX7_needs_86
    · have hf := ip c_11 hf
      refine lv_iconst (v := (-1)) hx hb dX7_needs_40 (by decide) ?_
      exact hRet _ _ _ _ _ _ _ _ _ hf hP hS dX7_needs_41
  · have hf := ip c_3 hf
    refine lv_bipush (v := (-2)) hx hb dX7_needs_9 (by decide) ?_
    exact hRet _ _ _ _ _ _ _ _ _ hf hP hS dX7_needs_11
theorem calX7_openHours : CalV yX7_openHours cX7_openHours 4 (some .int) 1 := ⟨⟨kw_32_4, kw_1_2, by decide +kernel⟩, kw_32_2, kw_32_3⟩
set_option maxHeartbeats 8000000 in
set_option maxRecDepth 100000 in
theorem ctX7_openHours (l : Launch) (G : GT) (t_h : Nat) (t_a : Nat → Nat) (now_h : Nat) (now_a : Nat → Nat) (wy_h : Nat) (wy_a : Nat → Nat) (rd_h : Nat) (sp_h : Nat) (gp_h : Nat) (ch_h : Nat) (sb_h : Nat) (now_windows : Int32) (now_washes : Int32) (now_damp : Int32) (now_heard : Int32) (now_lines : Int32) (now_hour : Int32) (now_strings : Int32) (now_washPairs : Nat → Int32) (now_washHours : Nat → Int32) (now_pairs : Nat → Int32) (now_knots : Nat → Int32) (wy_windows : Int32) (wy_links : Nat → Int32) (wy_prices : Nat → Int32) (wy_rest : Nat → Int32) (wy_goal : Int32) (wy_otherFrom : Int32) (wy_otherTo : Int32) (wy_least : Int32) (v1 : Int32) (r : Int32) (o_wy_windows : Int32) (o_wy_links : Nat → Int32) (o_wy_prices : Nat → Int32) (o_wy_rest : Nat → Int32) (hf : fX7_openHours now_windows now_washes now_damp now_heard now_strings now_washPairs now_washHours now_pairs now_knots wy_windows wy_links wy_prices wy_rest v1 = some (r, o_wy_windows, o_wy_links, o_wy_prices, o_wy_rest)) : WrI l yX7_openHours (Cond.code yX7_openHours cX7_openHours 4 (some .int)) { frames := 5, cells := 0, slots := 0, locals := 108 } G [.ref t_h, .int v1] [oX7 t_h t_a rd_h now_h sp_h wy_h gp_h ch_h sb_h, oX1 now_h now_a now_windows now_washes now_damp now_heard now_lines now_hour now_strings, arI G (now_a 8) 8 now_washPairs, arI G (now_a 9) 8 now_washHours, arI G (now_a 10) 21 now_pairs, arI G (now_a 11) 21 now_knots, oX6 wy_h wy_a wy_windows wy_goal wy_otherFrom wy_otherTo wy_least, arI G (wy_a 1) 12 wy_links, arI G (wy_a 2) 144 wy_prices, arI G (wy_a 3) 12 wy_rest] [oX7 t_h t_a rd_h now_h sp_h wy_h gp_h ch_h sb_h, oX1 now_h now_a now_windows now_washes now_damp now_heard now_lines now_hour now_strings, arI G (now_a 8) 8 now_washPairs, arI G (now_a 9) 8 now_washHours, arI G (now_a 10) 21 now_pairs, arI G (now_a 11) 21 now_knots, oX6 wy_h wy_a o_wy_windows wy_goal wy_otherFrom wy_otherTo wy_least, arI G (wy_a 1) 12 o_wy_links, arI G (wy_a 2) 144 o_wy_prices, arI G (wy_a 3) 12 o_wy_rest] r := by
  intro sz
  refine Met.ofW (cc := cX7_openHours) (maxL := 4) (ret := (some .int)) (by decide) rfl ?_
  intro p e s m args below meth c s₁ B hml hv
  obtain ⟨hargs, hsz, hP, hD0, hK⟩ := hv
  subst hsz
  obtain ⟨hx, hb, hr, hw, hown, hlk⟩ := fwB B
  refine fw_enter hargs (Nat.le_of_ble_eq_true rfl) (fun ls hl => ?_)
  have hl : lv_has ls 4 [(0, .ref t_h), (1, .int v1)] := hl
  refine fw_Q (P := fun Q => ∃ A : Nat → Prop, va_D A [oX7 t_h t_a rd_h now_h sp_h wy_h gp_h ch_h sb_h, oX1 now_h now_a now_windows now_washes now_damp now_heard now_lines now_hour now_strings, arI G (now_a 8) 8 now_washPairs, arI G (now_a 9) 8 now_washHours, arI G (now_a 10) 21 now_pairs, arI G (now_a 11) 21 now_knots, oX6 wy_h wy_a wy_windows wy_goal wy_otherFrom wy_otherTo wy_least, arI G (wy_a 1) 12 wy_links, arI G (wy_a 2) 144 wy_prices, arI G (wy_a 3) 12 wy_rest] ∧ va_S A s.heap s.heap [] ∧ (∀ q, s.heap.size ≤ q → A q) ∧ ∀ (v : Int32) (n_wy_windows : Int32) (n_wy_links : Nat → Int32) (n_wy_prices : Nat → Int32) (n_wy_rest : Nat → Int32) (H : Heap) (locs : List Loc) (pc : Nat) (ls : Array Slot), some (v, n_wy_windows, n_wy_links, n_wy_prices, n_wy_rest) = some (r, o_wy_windows, o_wy_links, o_wy_prices, o_wy_rest) → va_P G.1 vwCl [oX7 t_h t_a rd_h now_h sp_h wy_h gp_h ch_h sb_h, oX1 now_h now_a now_windows now_washes now_damp now_heard now_lines now_hour now_strings, arI G (now_a 8) 8 now_washPairs, arI G (now_a 9) 8 now_washHours, arI G (now_a 10) 21 now_pairs, arI G (now_a 11) 21 now_knots, oX6 wy_h wy_a n_wy_windows wy_goal wy_otherFrom wy_otherTo wy_least, arI G (wy_a 1) 12 n_wy_links, arI G (wy_a 2) 144 n_wy_prices, arI G (wy_a 3) 12 n_wy_rest] H → va_S A s.heap H locs → decode cX7_openHours pc = .ok (.ireturn, 1) → W p l e ({ frames := 5, cells := 0, slots := 0, locals := 108 } : Room) s m args below meth c H locs 0 0 Q (F0 m pc ls [.int v])) ⟨va_A [oX7 t_h t_a rd_h now_h sp_h wy_h gp_h ch_h sb_h, oX1 now_h now_a now_windows now_washes now_damp now_heard now_lines now_hour now_strings, arI G (now_a 8) 8 now_washPairs, arI G (now_a 9) 8 now_washHours, arI G (now_a 10) 21 now_pairs, arI G (now_a 11) 21 now_knots, oX6 wy_h wy_a wy_windows wy_goal wy_otherFrom wy_otherTo wy_least, arI G (wy_a 1) 12 wy_links, arI G (wy_a 2) 144 wy_prices, arI G (wy_a 3) 12 wy_rest] s.heap.size, hD0.self (sz := s.heap.size), va_S.rf, fun q h => Or.inr h, ?_⟩ ?_
  · intro v n_wy_windows n_wy_links n_wy_prices n_wy_rest H locs pc ls h hP hS hd
    cases h
    exact retWI hx hb hr hlk hS hP rfl hd
  rintro Q ⟨A, hD, hS, hA, hRet⟩
  change W p l e ({ frames := 5, cells := 0, slots := 0, locals := 108 } : Room) s m args below meth c _ _ 0 0 Q _
  have L19 : ∀  (K : Int32 → Int32 → (Nat → Int32) → (Nat → Int32) → (Nat → Int32) → Option (Int32 × Int32 × (Nat → Int32) × (Nat → Int32) × (Nat → Int32))) (n : Nat) (l2 : Int32) (l3 : Int32) (wy_windows : Int32) (wy_links : Nat → Int32) (wy_prices : Nat → Int32) (wy_rest : Nat → Int32) (H : Heap) (locs : List Loc) (ls : Array Slot), va_P G.1 vwCl [oX7 t_h t_a rd_h now_h sp_h wy_h gp_h ch_h sb_h, oX1 now_h now_a now_windows now_washes now_damp now_heard now_lines now_hour now_strings, arI G (now_a 8) 8 now_washPairs, arI G (now_a 9) 8 now_washHours, arI G (now_a 10) 21 now_pairs, arI G (now_a 11) 21 now_knots, oX6 wy_h wy_a wy_windows wy_goal wy_otherFrom wy_otherTo wy_least, arI G (wy_a 1) 12 wy_links, arI G (wy_a 2) 144 wy_prices, arI G (wy_a 3) 12 wy_rest] H → va_D A [oX7 t_h t_a rd_h now_h sp_h wy_h gp_h ch_h sb_h, oX1 now_h now_a now_windows now_washes now_damp now_heard now_lines now_hour now_strings, arI G (now_a 8) 8 now_washPairs, arI G (now_a 9) 8 now_washHours, arI G (now_a 10) 21 now_pairs, arI G (now_a 11) 21 now_knots, oX6 wy_h wy_a wy_windows wy_goal wy_otherFrom wy_otherTo wy_least, arI G (wy_a 1) 12 wy_links, arI G (wy_a 2) 144 wy_prices, arI G (wy_a 3) 12 wy_rest] → va_S A s.heap H locs → lv_has ls 4 [(0, .ref t_h), (1, .int v1), (2, .int l2), (3, .int l3)] → fX7_openHours_19 v1 now_windows now_washes now_damp now_heard now_strings now_washPairs now_washHours now_pairs now_knots K n l2 l3 wy_windows wy_links wy_prices wy_rest = some (r, o_wy_windows, o_wy_links, o_wy_prices, o_wy_rest) → (∀ (k2 : Int32) (kwy_windows : Int32) (kwy_links : Nat → Int32) (kwy_prices : Nat → Int32) (kwy_rest : Nat → Int32) (H : Heap) (locs : List Loc) (ls : Array Slot), va_P G.1 vwCl [oX7 t_h t_a rd_h now_h sp_h wy_h gp_h ch_h sb_h, oX1 now_h now_a now_windows now_washes now_damp now_heard now_lines now_hour now_strings, arI G (now_a 8) 8 now_washPairs, arI G (now_a 9) 8 now_washHours, arI G (now_a 10) 21 now_pairs, arI G (now_a 11) 21 now_knots, oX6 wy_h wy_a kwy_windows wy_goal wy_otherFrom wy_otherTo wy_least, arI G (wy_a 1) 12 kwy_links, arI G (wy_a 2) 144 kwy_prices, arI G (wy_a 3) 12 kwy_rest] H → va_D A [oX7 t_h t_a rd_h now_h sp_h wy_h gp_h ch_h sb_h, oX1 now_h now_a now_windows now_washes now_damp now_heard now_lines now_hour now_strings, arI G (now_a 8) 8 now_washPairs, arI G (now_a 9) 8 now_washHours, arI G (now_a 10) 21 now_pairs, arI G (now_a 11) 21 now_knots, oX6 wy_h wy_a kwy_windows wy_goal wy_otherFrom wy_otherTo wy_least, arI G (wy_a 1) 12 kwy_links, arI G (wy_a 2) 144 kwy_prices, arI G (wy_a 3) 12 kwy_rest] → va_S A s.heap H locs → lv_has ls 4 [(2, .int k2)] → K k2 kwy_windows kwy_links kwy_prices kwy_rest = some (r, o_wy_windows, o_wy_links, o_wy_prices, o_wy_rest) → W p l e ({ frames := 5, cells := 0, slots := 0, locals := 108 } : Room) s m args below meth c H locs 0 0 Q (F0 m 65 ls [])) → W p l e ({ frames := 5, cells := 0, slots := 0, locals := 108 } : Room) s m args below meth c H locs 0 0 Q (F0 m 19 ls []) := by
    intro  K n
    induction n with
    | zero => intro l2 l3 wy_windows wy_links wy_prices wy_rest H locs ls hP hD hS hl hf; rw [fX7_openHours_19] at hf; cases hf
    | succ n ih =>
      intro l2 l3 wy_windows wy_links wy_prices wy_rest H locs ls hP hD hS hl hf hX
      rw [fX7_openHours_19] at hf
      refine lv_iload_n hx hb dX7_openHours_19 rfl (lv_at hl 3 rfl) ?_
      refine lv_bipush (v := 12) hx hb dX7_openHours_20 (by decide) ?_
      refine lv_icmp_ge (tgt := 65) hx hb dX7_openHours_22 (by decide) (fun c_4 => ?_) (fun c_4 => ?_)
      · have hf := ip c_4 hf
        exact hX _ _ _ _ _ _ _ _ hP hD hS (lv_sub hl [2] rfl) hf
      · have hf := iq c_4 hf
        refine lv_aload_n hx hb dX7_openHours_25 rfl (lv_at hl 0 rfl) ?_
        refine va_get (D := G.1) (ci := 7) (v := .ref wy_h) (C := RX7) (T := TX7) (N := 10) hx hb hw inW7 hown hK.1 hP 0 rfl rfl 3 (by decide) (hw _ kw_2_1) (fun _ h9 => h9) rfl dX7_openHours_26 ?_
        refine lv_aload_n hx hb dX7_openHours_29 rfl (lv_at hl 0 rfl) ?_
        refine va_get (D := G.1) (ci := 7) (v := .ref now_h) (C := RX7) (T := TX7) (N := 10) hx hb hw inW7 hown hK.1 hP 0 rfl rfl 1 (by decide) (hw _ kw_1_20) (fun _ h9 => h9) rfl dX7_openHours_30 ?_
        refine lv_iload_n hx hb dX7_openHours_33 rfl (lv_at hl 3 rfl) ?_
        obtain ⟨wy_windows_5, wy_links_6, wy_prices_7, hc_8, hf⟩ := bd3_in hf
        refine wcV (w1 := [oX6 wy_h wy_a wy_windows_5 wy_goal wy_otherFrom wy_otherTo wy_least, arI G (wy_a 1) 12 wy_links_6, arI G (wy_a 2) 144 wy_prices_7, oX1 now_h now_a now_windows now_washes now_damp now_heard now_lines now_hour now_strings, arI G (now_a 8) 8 now_washPairs, arI G (now_a 9) 8 now_washHours, arI G (now_a 10) 21 now_pairs, arI G (now_a 11) 21 now_knots]) (va_runV (As := [.ref now_h, .int l3]) (rest := []) ⟨hx, hb, hml, hown, hw⟩ ((ctX6_takeStrings l G wy_h wy_a now_h now_a wy_windows wy_links wy_prices wy_goal wy_otherFrom wy_otherTo wy_least now_windows now_washes now_damp now_heard now_lines now_hour now_strings now_washPairs now_washHours now_pairs now_knots l3 _ _ _ hc_8) _) (kV hw calX6_takeStrings kw_18_10 rfl rfl ⟨Nat.le_of_ble_eq_true rfl, Nat.le_of_ble_eq_true rfl⟩) (wpV (hP.sub (ws' := [oX6 wy_h wy_a wy_windows wy_goal wy_otherFrom wy_otherTo wy_least, arI G (wy_a 1) 12 wy_links, arI G (wy_a 2) 144 wy_prices, oX1 now_h now_a now_windows now_washes now_damp now_heard now_lines now_hour now_strings, arI G (now_a 8) 8 now_washPairs, arI G (now_a 9) 8 now_washHours, arI G (now_a 10) 21 now_pairs, arI G (now_a 11) 21 now_knots]) [6, 7, 8, 1, 2, 3, 4, 5] rfl) (hD.sub (ws' := [oX6 wy_h wy_a wy_windows wy_goal wy_otherFrom wy_otherTo wy_least, arI G (wy_a 1) 12 wy_links, arI G (wy_a 2) 144 wy_prices, oX1 now_h now_a now_windows now_washes now_damp now_heard now_lines now_hour now_strings, arI G (now_a 8) 8 now_washPairs, arI G (now_a 9) 8 now_washHours, arI G (now_a 10) 21 now_pairs, arI G (now_a 11) 21 now_knots]) [6, 7, 8, 1, 2, 3, 4, 5] (by decide) rfl) hK (ci := 6) (q0 := 0) rfl rfl) rfl rfl hl.1 rfl (lv_room (Nat.le_of_ble_eq_true rfl)) dX7_openHours_34 ⟨Nat.zero_le _, Nat.zero_le _⟩) hS hA hP hD [6, 7, 8, 1, 2, 3, 4, 5] rfl rfl (fun H locs hP hD hS => ?_)
        have hP : va_P G.1 vwCl [oX7 t_h t_a rd_h now_h sp_h wy_h gp_h ch_h sb_h, oX1 now_h now_a now_windows now_washes now_damp now_heard now_lines now_hour now_strings, arI G (now_a 8) 8 now_washPairs, arI G (now_a 9) 8 now_washHours, arI G (now_a 10) 21 now_pairs, arI G (now_a 11) 21 now_knots, oX6 wy_h wy_a wy_windows_5 wy_goal wy_otherFrom wy_otherTo wy_least, arI G (wy_a 1) 12 wy_links_6, arI G (wy_a 2) 144 wy_prices_7, arI G (wy_a 3) 12 wy_rest] H := hP
        have hD : va_D A [oX7 t_h t_a rd_h now_h sp_h wy_h gp_h ch_h sb_h, oX1 now_h now_a now_windows now_washes now_damp now_heard now_lines now_hour now_strings, arI G (now_a 8) 8 now_washPairs, arI G (now_a 9) 8 now_washHours, arI G (now_a 10) 21 now_pairs, arI G (now_a 11) 21 now_knots, oX6 wy_h wy_a wy_windows_5 wy_goal wy_otherFrom wy_otherTo wy_least, arI G (wy_a 1) 12 wy_links_6, arI G (wy_a 2) 144 wy_prices_7, arI G (wy_a 3) 12 wy_rest] := hD
        refine lv_aload_n hx hb dX7_openHours_37 rfl (lv_at hl 0 rfl) ?_
        refine lv_iload_n hx hb dX7_openHours_38 rfl (lv_at hl 1 rfl) ?_
        obtain ⟨r_9, hc_10, hf⟩ := bd1_in hf
        refine rcI (va_runS (As := [.int v1]) (rest := [.ref t_h]) ⟨hx, hb, hml, hown, hw⟩ ((ctX7_lesser l G v1 _ hc_10) _) (kS hw calX7_lesser kw_13_10 rfl rfl ⟨Nat.le_of_ble_eq_true rfl, Nat.le_of_ble_eq_true rfl⟩) (rpS (hP.sub (ws' := []) [] rfl) hK) rfl rfl hl.1 rfl (lv_room (Nat.le_of_ble_eq_true rfl)) dX7_openHours_39 ⟨Nat.zero_le _, Nat.zero_le _⟩) hS hA hP (fun H locs hP hS => ?_)
        refine lv_iload_n hx hb dX7_openHours_42 rfl (lv_at hl 1 rfl) ?_
        obtain ⟨r_11, hc_12, hf⟩ := bd1_in hf
        refine rcI (va_runS (As := [.int v1]) (rest := [.int r_9, .ref t_h]) ⟨hx, hb, hml, hown, hw⟩ ((ctX7_greater l G v1 _ hc_12) _) (kS hw calX7_greater kw_13_11 rfl rfl ⟨Nat.le_of_ble_eq_true rfl, Nat.le_of_ble_eq_true rfl⟩) (rpS (hP.sub (ws' := []) [] rfl) hK) rfl rfl hl.1 rfl (lv_room (Nat.le_of_ble_eq_true rfl)) dX7_openHours_43 ⟨Nat.zero_le _, Nat.zero_le _⟩) hS hA hP (fun H locs hP hS => ?_)
        refine lv_iconst (v := 0) hx hb dX7_openHours_46 (by decide) ?_
        obtain ⟨r_14, wy_rest_13, hc_15, hf⟩ := bd2_in hf
        refine wcI (w1 := [oX7 t_h t_a rd_h now_h sp_h wy_h gp_h ch_h sb_h, oX1 now_h now_a now_windows now_washes now_damp now_heard now_lines now_hour now_strings, oX6 wy_h wy_a wy_windows_5 wy_goal wy_otherFrom wy_otherTo wy_least, arI G (wy_a 1) 12 wy_links_6, arI G (wy_a 2) 144 wy_prices_7, arI G (wy_a 3) 12 wy_rest_13]) (va_runV (As := [.int r_9, .int r_11, .int 0]) (rest := []) ⟨hx, hb, hml, hown, hw⟩ ((ctX7_heardPast l G t_h t_a now_h now_a wy_h wy_a rd_h sp_h gp_h ch_h sb_h now_windows now_washes now_damp now_heard now_lines now_hour now_strings wy_windows_5 wy_links_6 wy_prices_7 wy_rest wy_goal wy_otherFrom wy_otherTo wy_least r_9 r_11 0 _ _ hc_15) _) (kV hw calX7_heardPast kw_31_13 rfl rfl ⟨Nat.le_of_ble_eq_true rfl, Nat.le_of_ble_eq_true rfl⟩) (wpV (hP.sub (ws' := [oX7 t_h t_a rd_h now_h sp_h wy_h gp_h ch_h sb_h, oX1 now_h now_a now_windows now_washes now_damp now_heard now_lines now_hour now_strings, oX6 wy_h wy_a wy_windows_5 wy_goal wy_otherFrom wy_otherTo wy_least, arI G (wy_a 1) 12 wy_links_6, arI G (wy_a 2) 144 wy_prices_7, arI G (wy_a 3) 12 wy_rest]) [0, 1, 6, 7, 8, 9] rfl) (hD.sub (ws' := [oX7 t_h t_a rd_h now_h sp_h wy_h gp_h ch_h sb_h, oX1 now_h now_a now_windows now_washes now_damp now_heard now_lines now_hour now_strings, oX6 wy_h wy_a wy_windows_5 wy_goal wy_otherFrom wy_otherTo wy_least, arI G (wy_a 1) 12 wy_links_6, arI G (wy_a 2) 144 wy_prices_7, arI G (wy_a 3) 12 wy_rest]) [0, 1, 6, 7, 8, 9] (by decide) rfl) hK (ci := 7) (q0 := 0) rfl rfl) rfl rfl hl.1 rfl (lv_room (Nat.le_of_ble_eq_true rfl)) dX7_openHours_47 ⟨Nat.zero_le _, Nat.zero_le _⟩) hS hA hP hD [0, 1, 6, 7, 8, 9] rfl rfl (fun H locs hP hD hS => ?_)
        have hP : va_P G.1 vwCl [oX7 t_h t_a rd_h now_h sp_h wy_h gp_h ch_h sb_h, oX1 now_h now_a now_windows now_washes now_damp now_heard now_lines now_hour now_strings, arI G (now_a 8) 8 now_washPairs, arI G (now_a 9) 8 now_washHours, arI G (now_a 10) 21 now_pairs, arI G (now_a 11) 21 now_knots, oX6 wy_h wy_a wy_windows_5 wy_goal wy_otherFrom wy_otherTo wy_least, arI G (wy_a 1) 12 wy_links_6, arI G (wy_a 2) 144 wy_prices_7, arI G (wy_a 3) 12 wy_rest_13] H := hP
        have hD : va_D A [oX7 t_h t_a rd_h now_h sp_h wy_h gp_h ch_h sb_h, oX1 now_h now_a now_windows now_washes now_damp now_heard now_lines now_hour now_strings, arI G (now_a 8) 8 now_washPairs, arI G (now_a 9) 8 now_washHours, arI G (now_a 10) 21 now_pairs, arI G (now_a 11) 21 now_knots, oX6 wy_h wy_a wy_windows_5 wy_goal wy_otherFrom wy_otherTo wy_least, arI G (wy_a 1) 12 wy_links_6, arI G (wy_a 2) 144 wy_prices_7, arI G (wy_a 3) 12 wy_rest_13] := hD
        refine lv_if_eq (tgt := 59) hx hb dX7_openHours_50 (by decide) (fun c_16 => ?_) (fun c_16 => ?_)
        · have hf := ip c_16 hf
          refine lv_iinc (v := (l3 + 1)) (lv' := [(3, .int (l3 + 1)), (0, .ref t_h), (1, .int v1), (2, .int l2)]) hx hb dX7_openHours_59 hl (k := 3) rfl (by rfl) (by decide) rfl (fun ls hl => ?_)
          refine lv_goto (tgt := 19) hx hb dX7_openHours_62 (by decide) ?_
          exact ih _ _ _ _ _ _ _ _ _ hP hD hS (lv_sub hl [1, 2, 3, 0] rfl) hf hX
        · have hf := iq c_16 hf
          refine lv_iload_n hx hb dX7_openHours_53 rfl (lv_at hl 2 rfl) ?_
          refine lv_iconst (v := 1) hx hb dX7_openHours_54 (by decide) ?_
          refine lv_iload_n hx hb dX7_openHours_55 rfl (lv_at hl 3 rfl) ?_
          refine lv_ishl hx hb dX7_openHours_56 ?_
          refine lv_ior hx hb dX7_openHours_57 ?_
          refine lv_topi (fun y_17 ey_17 => ?_)
          have hf := bnd_all hf y_17 ey_17
          refine lv_istore_n (lv' := [(2, .int y_17), (0, .ref t_h), (1, .int v1), (3, .int l3)]) hx hb dX7_openHours_58 rfl hl (by decide) rfl (fun ls hl => ?_)
          refine lv_iinc (v := (l3 + 1)) (lv' := [(3, .int (l3 + 1)), (2, .int y_17), (0, .ref t_h), (1, .int v1)]) hx hb dX7_openHours_59 hl (k := 3) rfl (by rfl) (by decide) rfl (fun ls hl => ?_)
          refine lv_goto (tgt := 19) hx hb dX7_openHours_62 (by decide) ?_
          exact ih _ _ _ _ _ _ _ _ _ hP hD hS (lv_sub hl [2, 3, 1, 0] rfl) hf hX
  unfold fX7_openHours at hf
  refine lv_aload_n hx hb dX7_openHours_0 rfl (lv_at hl 0 rfl) ?_
  refine va_get (D := G.1) (ci := 7) (v := .ref now_h) (C := RX7) (T := TX7) (N := 10) hx hb hw inW7 hown hK.1 hP 0 rfl rfl 1 (by decide) (hw _ kw_1_20) (fun _ h9 => h9) rfl dX7_openHours_1 ?_
  refine lv_iload_n hx hb dX7_openHours_4 rfl (lv_at hl 1 rfl) ?_
  refine lv_i2l hx hb dX7_openHours_5 rfl ?_
  obtain ⟨r_1, hc_2, hf⟩ := bd1_in hf
  refine rcI (va_runV (As := [.long (Int32.toInt64 v1)]) (rest := []) ⟨hx, hb, hml, hown, hw⟩ ((ctX1_hasPair l G now_h now_a now_windows now_washes now_damp now_heard now_lines now_hour now_strings (Int32.toInt64 v1) _ hc_2) _) (kV hw calX1_hasPair kw_21_7 rfl rfl ⟨Nat.le_of_ble_eq_true rfl, Nat.le_of_ble_eq_true rfl⟩) (rpV (hP.sub (ws' := [oX1 now_h now_a now_windows now_washes now_damp now_heard now_lines now_hour now_strings]) [1] rfl) hK (ci := 1) (q0 := 0) rfl rfl) rfl rfl hl.1 rfl (lv_room (Nat.le_of_ble_eq_true rfl)) dX7_openHours_6 ⟨Nat.zero_le _, Nat.zero_le _⟩) hS hA hP (fun H locs hP hS => ?_)
  refine lv_if_ne (tgt := 15) hx hb dX7_openHours_9 (by decide) (fun c_3 => ?_) (fun c_3 => ?_)
  · have hf := iq c_3 hf
    refine lv_iconst (v := 0) hx hb dX7_openHours_15 (by decide) ?_
    refine lv_istore_n (lv' := [(2, .int 0), (0, .ref t_h), (1, .int v1)]) hx hb dX7_openHours_16 rfl hl (by decide) rfl (fun ls hl => ?_)
    refine lv_iconst (v := 0) hx hb dX7_openHours_17 (by decide) ?_
    refine lv_istore_n (lv' := [(3, .int 0), (2, .int 0), (0, .ref t_h), (1, .int v1)]) hx hb dX7_openHours_18 rfl hl (by decide) rfl (fun ls hl => ?_)
    refine L19  _ _ _ _ _ _ _ _ _ _ _ hP hD hS (lv_sub hl [2, 3, 1, 0] rfl) hf (fun w_18 wy_windows_19 wy_links_20 wy_prices_21 wy_rest_22 H locs ls hP hD hS hl hf => ?_)
    refine lv_iload_n hx hb dX7_openHours_65 rfl (lv_at hl 0 rfl) ?_
    exact hRet _ _ _ _ _ _ _ _ _ hf hP hS dX7_openHours_66
  · have hf := ip c_3 hf
    refine lv_bipush (v := (-2)) hx hb dX7_openHours_12 (by decide) ?_
    exact hRet _ _ _ _ _ _ _ _ _ hf hP hS dX7_openHours_14
theorem calX7_part : CalV yX7_part cX7_part 2 (some .int) 1 := ⟨⟨kw_32_12, kw_1_2, by decide +kernel⟩, kw_32_10, kw_32_11⟩
set_option maxHeartbeats 8000000 in
set_option maxRecDepth 100000 in
theorem ctX7_part (l : Launch) (G : GT) (t_h : Nat) (t_a : Nat → Nat) (now_h : Nat) (now_a : Nat → Nat) (wy_h : Nat) (wy_a : Nat → Nat) (rd_h : Nat) (sp_h : Nat) (gp_h : Nat) (ch_h : Nat) (sb_h : Nat) (now_windows : Int32) (now_washes : Int32) (now_damp : Int32) (now_heard : Int32) (now_lines : Int32) (now_hour : Int32) (now_strings : Int32) (now_washPairs : Nat → Int32) (now_washHours : Nat → Int32) (now_pairs : Nat → Int32) (now_knots : Nat → Int32) (wy_windows : Int32) (wy_links : Nat → Int32) (wy_prices : Nat → Int32) (wy_goal : Int32) (wy_otherFrom : Int32) (wy_otherTo : Int32) (wy_least : Int32) (v1 : Int32) (r : Int32) (o_wy_windows : Int32) (o_wy_links : Nat → Int32) (o_wy_prices : Nat → Int32) (hf : fX7_part now_windows now_washes now_damp now_hour now_strings now_washPairs now_washHours now_pairs now_knots wy_windows wy_links wy_prices v1 = some (r, o_wy_windows, o_wy_links, o_wy_prices)) : WrI l yX7_part (Cond.code yX7_part cX7_part 2 (some .int)) { frames := 5, cells := 0, slots := 0, locals := 108 } G [.ref t_h, .int v1] [oX7 t_h t_a rd_h now_h sp_h wy_h gp_h ch_h sb_h, oX1 now_h now_a now_windows now_washes now_damp now_heard now_lines now_hour now_strings, arI G (now_a 8) 8 now_washPairs, arI G (now_a 9) 8 now_washHours, arI G (now_a 10) 21 now_pairs, arI G (now_a 11) 21 now_knots, oX6 wy_h wy_a wy_windows wy_goal wy_otherFrom wy_otherTo wy_least, arI G (wy_a 1) 12 wy_links, arI G (wy_a 2) 144 wy_prices] [oX7 t_h t_a rd_h now_h sp_h wy_h gp_h ch_h sb_h, oX1 now_h now_a now_windows now_washes now_damp now_heard now_lines now_hour now_strings, arI G (now_a 8) 8 now_washPairs, arI G (now_a 9) 8 now_washHours, arI G (now_a 10) 21 now_pairs, arI G (now_a 11) 21 now_knots, oX6 wy_h wy_a o_wy_windows wy_goal wy_otherFrom wy_otherTo wy_least, arI G (wy_a 1) 12 o_wy_links, arI G (wy_a 2) 144 o_wy_prices] r := by
  intro sz
  refine Met.ofW (cc := cX7_part) (maxL := 2) (ret := (some .int)) (by decide) rfl ?_
  intro p e s m args below meth c s₁ B hml hv
  obtain ⟨hargs, hsz, hP, hD0, hK⟩ := hv
  subst hsz
  obtain ⟨hx, hb, hr, hw, hown, hlk⟩ := fwB B
  refine fw_enter hargs (Nat.le_of_ble_eq_true rfl) (fun ls hl => ?_)
  have hl : lv_has ls 2 [(0, .ref t_h), (1, .int v1)] := hl
  refine fw_Q (P := fun Q => ∃ A : Nat → Prop, va_D A [oX7 t_h t_a rd_h now_h sp_h wy_h gp_h ch_h sb_h, oX1 now_h now_a now_windows now_washes now_damp now_heard now_lines now_hour now_strings, arI G (now_a 8) 8 now_washPairs, arI G (now_a 9) 8 now_washHours, arI G (now_a 10) 21 now_pairs, arI G (now_a 11) 21 now_knots, oX6 wy_h wy_a wy_windows wy_goal wy_otherFrom wy_otherTo wy_least, arI G (wy_a 1) 12 wy_links, arI G (wy_a 2) 144 wy_prices] ∧ va_S A s.heap s.heap [] ∧ (∀ q, s.heap.size ≤ q → A q) ∧ ∀ (v : Int32) (n_wy_windows : Int32) (n_wy_links : Nat → Int32) (n_wy_prices : Nat → Int32) (H : Heap) (locs : List Loc) (pc : Nat) (ls : Array Slot), some (v, n_wy_windows, n_wy_links, n_wy_prices) = some (r, o_wy_windows, o_wy_links, o_wy_prices) → va_P G.1 vwCl [oX7 t_h t_a rd_h now_h sp_h wy_h gp_h ch_h sb_h, oX1 now_h now_a now_windows now_washes now_damp now_heard now_lines now_hour now_strings, arI G (now_a 8) 8 now_washPairs, arI G (now_a 9) 8 now_washHours, arI G (now_a 10) 21 now_pairs, arI G (now_a 11) 21 now_knots, oX6 wy_h wy_a n_wy_windows wy_goal wy_otherFrom wy_otherTo wy_least, arI G (wy_a 1) 12 n_wy_links, arI G (wy_a 2) 144 n_wy_prices] H → va_S A s.heap H locs → decode cX7_part pc = .ok (.ireturn, 1) → W p l e ({ frames := 5, cells := 0, slots := 0, locals := 108 } : Room) s m args below meth c H locs 0 0 Q (F0 m pc ls [.int v])) ⟨va_A [oX7 t_h t_a rd_h now_h sp_h wy_h gp_h ch_h sb_h, oX1 now_h now_a now_windows now_washes now_damp now_heard now_lines now_hour now_strings, arI G (now_a 8) 8 now_washPairs, arI G (now_a 9) 8 now_washHours, arI G (now_a 10) 21 now_pairs, arI G (now_a 11) 21 now_knots, oX6 wy_h wy_a wy_windows wy_goal wy_otherFrom wy_otherTo wy_least, arI G (wy_a 1) 12 wy_links, arI G (wy_a 2) 144 wy_prices] s.heap.size, hD0.self (sz := s.heap.size), va_S.rf, fun q h => Or.inr h, ?_⟩ ?_
  · intro v n_wy_windows n_wy_links n_wy_prices H locs pc ls h hP hS hd
    cases h
    exact retWI hx hb hr hlk hS hP rfl hd
  rintro Q ⟨A, hD, hS, hA, hRet⟩
  change W p l e ({ frames := 5, cells := 0, slots := 0, locals := 108 } : Room) s m args below meth c _ _ 0 0 Q _
  unfold fX7_part at hf
  refine lv_aload_n hx hb dX7_part_0 rfl (lv_at hl 0 rfl) ?_
  refine va_get (D := G.1) (ci := 7) (v := .ref now_h) (C := RX7) (T := TX7) (N := 10) hx hb hw inW7 hown hK.1 hP 0 rfl rfl 1 (by decide) (hw _ kw_1_20) (fun _ h9 => h9) rfl dX7_part_1 ?_
  refine lv_iload_n hx hb dX7_part_4 rfl (lv_at hl 1 rfl) ?_
  obtain ⟨r_1, hc_2, hf⟩ := bd1_in hf
  refine rcI (va_runV (As := [.int v1]) (rest := []) ⟨hx, hb, hml, hown, hw⟩ ((ctX1_hasWindow l G now_h now_a now_windows now_washes now_damp now_heard now_lines now_hour now_strings v1 _ hc_2) _) (kV hw calX1_hasWindow kw_18_1 rfl rfl ⟨Nat.le_of_ble_eq_true rfl, Nat.le_of_ble_eq_true rfl⟩) (rpV (hP.sub (ws' := [oX1 now_h now_a now_windows now_washes now_damp now_heard now_lines now_hour now_strings]) [1] rfl) hK (ci := 1) (q0 := 0) rfl rfl) rfl rfl hl.1 rfl (lv_room (Nat.le_of_ble_eq_true rfl)) dX7_part_5 ⟨Nat.zero_le _, Nat.zero_le _⟩) hS hA hP (fun H locs hP hS => ?_)
  refine lv_if_ne (tgt := 14) hx hb dX7_part_8 (by decide) (fun c_3 => ?_) (fun c_3 => ?_)
  · have hf := iq c_3 hf
    refine lv_aload_n hx hb dX7_part_14 rfl (lv_at hl 0 rfl) ?_
    refine va_get (D := G.1) (ci := 7) (v := .ref wy_h) (C := RX7) (T := TX7) (N := 10) hx hb hw inW7 hown hK.1 hP 0 rfl rfl 3 (by decide) (hw _ kw_2_1) (fun _ h9 => h9) rfl dX7_part_15 ?_
    refine lv_aload_n hx hb dX7_part_18 rfl (lv_at hl 0 rfl) ?_
    refine va_get (D := G.1) (ci := 7) (v := .ref now_h) (C := RX7) (T := TX7) (N := 10) hx hb hw inW7 hown hK.1 hP 0 rfl rfl 1 (by decide) (hw _ kw_1_20) (fun _ h9 => h9) rfl dX7_part_19 ?_
    refine lv_aload_n hx hb dX7_part_22 rfl (lv_at hl 0 rfl) ?_
    refine va_get (D := G.1) (ci := 7) (v := .ref now_h) (C := RX7) (T := TX7) (N := 10) hx hb hw inW7 hown hK.1 hP 0 rfl rfl 1 (by decide) (hw _ kw_1_20) (fun _ h9 => h9) rfl dX7_part_23 ?_
    refine va_getN (D := G.1) (ci := 1) (v := .int now_hour) (C := RX1) (T := TX1) (N := 12) hx hb hw inW1 hown hK.1 hP 1 rfl rfl 5 (by decide) ((nf_16 hK.2).use rfl) (fun _ h9 => h9) rfl dX7_part_26 ?_
    obtain ⟨wy_windows_4, wy_links_5, wy_prices_6, hc_7, hf⟩ := bd3_in hf
    refine wcV (w1 := [oX6 wy_h wy_a wy_windows_4 wy_goal wy_otherFrom wy_otherTo wy_least, arI G (wy_a 1) 12 wy_links_5, arI G (wy_a 2) 144 wy_prices_6, oX1 now_h now_a now_windows now_washes now_damp now_heard now_lines now_hour now_strings, arI G (now_a 8) 8 now_washPairs, arI G (now_a 9) 8 now_washHours, arI G (now_a 10) 21 now_pairs, arI G (now_a 11) 21 now_knots]) (va_runV (As := [.ref now_h, .int now_hour]) (rest := []) ⟨hx, hb, hml, hown, hw⟩ ((ctX6_takeStrings l G wy_h wy_a now_h now_a wy_windows wy_links wy_prices wy_goal wy_otherFrom wy_otherTo wy_least now_windows now_washes now_damp now_heard now_lines now_hour now_strings now_washPairs now_washHours now_pairs now_knots now_hour _ _ _ hc_7) _) (kV hw calX6_takeStrings kw_18_10 rfl rfl ⟨Nat.le_of_ble_eq_true rfl, Nat.le_of_ble_eq_true rfl⟩) (wpV (hP.sub (ws' := [oX6 wy_h wy_a wy_windows wy_goal wy_otherFrom wy_otherTo wy_least, arI G (wy_a 1) 12 wy_links, arI G (wy_a 2) 144 wy_prices, oX1 now_h now_a now_windows now_washes now_damp now_heard now_lines now_hour now_strings, arI G (now_a 8) 8 now_washPairs, arI G (now_a 9) 8 now_washHours, arI G (now_a 10) 21 now_pairs, arI G (now_a 11) 21 now_knots]) [6, 7, 8, 1, 2, 3, 4, 5] rfl) (hD.sub (ws' := [oX6 wy_h wy_a wy_windows wy_goal wy_otherFrom wy_otherTo wy_least, arI G (wy_a 1) 12 wy_links, arI G (wy_a 2) 144 wy_prices, oX1 now_h now_a now_windows now_washes now_damp now_heard now_lines now_hour now_strings, arI G (now_a 8) 8 now_washPairs, arI G (now_a 9) 8 now_washHours, arI G (now_a 10) 21 now_pairs, arI G (now_a 11) 21 now_knots]) [6, 7, 8, 1, 2, 3, 4, 5] (by decide) rfl) hK (ci := 6) (q0 := 0) rfl rfl) rfl rfl hl.1 rfl (lv_room (Nat.le_of_ble_eq_true rfl)) dX7_part_29 ⟨Nat.zero_le _, Nat.zero_le _⟩) hS hA hP hD [6, 7, 8, 1, 2, 3, 4, 5] rfl rfl (fun H locs hP hD hS => ?_)
    have hP : va_P G.1 vwCl [oX7 t_h t_a rd_h now_h sp_h wy_h gp_h ch_h sb_h, oX1 now_h now_a now_windows now_washes now_damp now_heard now_lines now_hour now_strings, arI G (now_a 8) 8 now_washPairs, arI G (now_a 9) 8 now_washHours, arI G (now_a 10) 21 now_pairs, arI G (now_a 11) 21 now_knots, oX6 wy_h wy_a wy_windows_4 wy_goal wy_otherFrom wy_otherTo wy_least, arI G (wy_a 1) 12 wy_links_5, arI G (wy_a 2) 144 wy_prices_6] H := hP
    have hD : va_D A [oX7 t_h t_a rd_h now_h sp_h wy_h gp_h ch_h sb_h, oX1 now_h now_a now_windows now_washes now_damp now_heard now_lines now_hour now_strings, arI G (now_a 8) 8 now_washPairs, arI G (now_a 9) 8 now_washHours, arI G (now_a 10) 21 now_pairs, arI G (now_a 11) 21 now_knots, oX6 wy_h wy_a wy_windows_4 wy_goal wy_otherFrom wy_otherTo wy_least, arI G (wy_a 1) 12 wy_links_5, arI G (wy_a 2) 144 wy_prices_6] := hD
    refine lv_aload_n hx hb dX7_part_32 rfl (lv_at hl 0 rfl) ?_
    refine va_get (D := G.1) (ci := 7) (v := .ref wy_h) (C := RX7) (T := TX7) (N := 10) hx hb hw inW7 hown hK.1 hP 0 rfl rfl 3 (by decide) (hw _ kw_2_1) (fun _ h9 => h9) rfl dX7_part_33 ?_
    refine lv_iload_n hx hb dX7_part_36 rfl (lv_at hl 1 rfl) ?_
    obtain ⟨r_8, hc_9, hf⟩ := bd1_in hf
    refine rcI (va_runV (As := [.int v1]) (rest := []) ⟨hx, hb, hml, hown, hw⟩ ((ctX6_reachOf l G wy_h wy_a wy_windows_4 wy_links_5 wy_goal wy_otherFrom wy_otherTo wy_least v1 _ hc_9) _) (kV hw calX6_reachOf kw_32_13 rfl rfl ⟨Nat.le_of_ble_eq_true rfl, Nat.le_of_ble_eq_true rfl⟩) (rpV (hP.sub (ws' := [oX6 wy_h wy_a wy_windows_4 wy_goal wy_otherFrom wy_otherTo wy_least, arI G (wy_a 1) 12 wy_links_5]) [6, 7] rfl) hK (ci := 6) (q0 := 0) rfl rfl) rfl rfl hl.1 rfl (lv_room (Nat.le_of_ble_eq_true rfl)) dX7_part_37 ⟨Nat.zero_le _, Nat.zero_le _⟩) hS hA hP (fun H locs hP hS => ?_)
    exact hRet _ _ _ _ _ _ _ _ hf hP hS dX7_part_40
  · have hf := ip c_3 hf
    refine lv_bipush (v := (-2)) hx hb dX7_part_11 (by decide) ?_
    exact hRet _ _ _ _ _ _ _ _ hf hP hS dX7_part_13
theorem calX7_parts : CalV yX7_parts cX7_parts 4 (some .int) 0 := ⟨⟨kw_33_8, kw_1_2, by decide +kernel⟩, kw_33_6, kw_33_7⟩
set_option maxHeartbeats 8000000 in
set_option maxRecDepth 100000 in
theorem ctX7_parts (l : Launch) (G : GT) (t_h : Nat) (t_a : Nat → Nat) (now_h : Nat) (now_a : Nat → Nat) (wy_h : Nat) (wy_a : Nat → Nat) (rd_h : Nat) (sp_h : Nat) (gp_h : Nat) (ch_h : Nat) (sb_h : Nat) (now_windows : Int32) (now_washes : Int32) (now_damp : Int32) (now_heard : Int32) (now_lines : Int32) (now_hour : Int32) (now_strings : Int32) (now_washPairs : Nat → Int32) (now_washHours : Nat → Int32) (now_pairs : Nat → Int32) (now_knots : Nat → Int32) (wy_windows : Int32) (wy_links : Nat → Int32) (wy_prices : Nat → Int32) (wy_goal : Int32) (wy_otherFrom : Int32) (wy_otherTo : Int32) (wy_least : Int32) (r : Int32) (o_wy_windows : Int32) (o_wy_links : Nat → Int32) (o_wy_prices : Nat → Int32) (hf : fX7_parts now_windows now_washes now_damp now_hour now_strings now_washPairs now_washHours now_pairs now_knots wy_windows wy_links wy_prices = some (r, o_wy_windows, o_wy_links, o_wy_prices)) : WrI l yX7_parts (Cond.code yX7_parts cX7_parts 4 (some .int)) { frames := 5, cells := 0, slots := 0, locals := 108 } G [.ref t_h] [oX7 t_h t_a rd_h now_h sp_h wy_h gp_h ch_h sb_h, oX1 now_h now_a now_windows now_washes now_damp now_heard now_lines now_hour now_strings, arI G (now_a 8) 8 now_washPairs, arI G (now_a 9) 8 now_washHours, arI G (now_a 10) 21 now_pairs, arI G (now_a 11) 21 now_knots, oX6 wy_h wy_a wy_windows wy_goal wy_otherFrom wy_otherTo wy_least, arI G (wy_a 1) 12 wy_links, arI G (wy_a 2) 144 wy_prices] [oX7 t_h t_a rd_h now_h sp_h wy_h gp_h ch_h sb_h, oX1 now_h now_a now_windows now_washes now_damp now_heard now_lines now_hour now_strings, arI G (now_a 8) 8 now_washPairs, arI G (now_a 9) 8 now_washHours, arI G (now_a 10) 21 now_pairs, arI G (now_a 11) 21 now_knots, oX6 wy_h wy_a o_wy_windows wy_goal wy_otherFrom wy_otherTo wy_least, arI G (wy_a 1) 12 o_wy_links, arI G (wy_a 2) 144 o_wy_prices] r := by
  intro sz
  refine Met.ofW (cc := cX7_parts) (maxL := 4) (ret := (some .int)) (by decide) rfl ?_
  intro p e s m args below meth c s₁ B hml hv
  obtain ⟨hargs, hsz, hP, hD0, hK⟩ := hv
  subst hsz
  obtain ⟨hx, hb, hr, hw, hown, hlk⟩ := fwB B
  refine fw_enter hargs (Nat.le_of_ble_eq_true rfl) (fun ls hl => ?_)
  have hl : lv_has ls 4 [(0, .ref t_h)] := hl
  refine fw_Q (P := fun Q => ∃ A : Nat → Prop, va_D A [oX7 t_h t_a rd_h now_h sp_h wy_h gp_h ch_h sb_h, oX1 now_h now_a now_windows now_washes now_damp now_heard now_lines now_hour now_strings, arI G (now_a 8) 8 now_washPairs, arI G (now_a 9) 8 now_washHours, arI G (now_a 10) 21 now_pairs, arI G (now_a 11) 21 now_knots, oX6 wy_h wy_a wy_windows wy_goal wy_otherFrom wy_otherTo wy_least, arI G (wy_a 1) 12 wy_links, arI G (wy_a 2) 144 wy_prices] ∧ va_S A s.heap s.heap [] ∧ (∀ q, s.heap.size ≤ q → A q) ∧ ∀ (v : Int32) (n_wy_windows : Int32) (n_wy_links : Nat → Int32) (n_wy_prices : Nat → Int32) (H : Heap) (locs : List Loc) (pc : Nat) (ls : Array Slot), some (v, n_wy_windows, n_wy_links, n_wy_prices) = some (r, o_wy_windows, o_wy_links, o_wy_prices) → va_P G.1 vwCl [oX7 t_h t_a rd_h now_h sp_h wy_h gp_h ch_h sb_h, oX1 now_h now_a now_windows now_washes now_damp now_heard now_lines now_hour now_strings, arI G (now_a 8) 8 now_washPairs, arI G (now_a 9) 8 now_washHours, arI G (now_a 10) 21 now_pairs, arI G (now_a 11) 21 now_knots, oX6 wy_h wy_a n_wy_windows wy_goal wy_otherFrom wy_otherTo wy_least, arI G (wy_a 1) 12 n_wy_links, arI G (wy_a 2) 144 n_wy_prices] H → va_S A s.heap H locs → decode cX7_parts pc = .ok (.ireturn, 1) → W p l e ({ frames := 5, cells := 0, slots := 0, locals := 108 } : Room) s m args below meth c H locs 0 0 Q (F0 m pc ls [.int v])) ⟨va_A [oX7 t_h t_a rd_h now_h sp_h wy_h gp_h ch_h sb_h, oX1 now_h now_a now_windows now_washes now_damp now_heard now_lines now_hour now_strings, arI G (now_a 8) 8 now_washPairs, arI G (now_a 9) 8 now_washHours, arI G (now_a 10) 21 now_pairs, arI G (now_a 11) 21 now_knots, oX6 wy_h wy_a wy_windows wy_goal wy_otherFrom wy_otherTo wy_least, arI G (wy_a 1) 12 wy_links, arI G (wy_a 2) 144 wy_prices] s.heap.size, hD0.self (sz := s.heap.size), va_S.rf, fun q h => Or.inr h, ?_⟩ ?_
  · intro v n_wy_windows n_wy_links n_wy_prices H locs pc ls h hP hS hd
    cases h
    exact retWI hx hb hr hlk hS hP rfl hd
  rintro Q ⟨A, hD, hS, hA, hRet⟩
  change W p l e ({ frames := 5, cells := 0, slots := 0, locals := 108 } : Room) s m args below meth c _ _ 0 0 Q _
  have L24 : ∀ (wy_windows : Int32) (wy_links : Nat → Int32) (wy_prices : Nat → Int32) (K : Int32 → Option (Int32 × Int32 × (Nat → Int32) × (Nat → Int32))) (n : Nat) (l1 : Int32) (l2 : Int32) (l3 : Int32) (H : Heap) (locs : List Loc) (ls : Array Slot), va_P G.1 vwCl [oX7 t_h t_a rd_h now_h sp_h wy_h gp_h ch_h sb_h, oX1 now_h now_a now_windows now_washes now_damp now_heard now_lines now_hour now_strings, arI G (now_a 8) 8 now_washPairs, arI G (now_a 9) 8 now_washHours, arI G (now_a 10) 21 now_pairs, arI G (now_a 11) 21 now_knots, oX6 wy_h wy_a wy_windows wy_goal wy_otherFrom wy_otherTo wy_least, arI G (wy_a 1) 12 wy_links, arI G (wy_a 2) 144 wy_prices] H → va_D A [oX7 t_h t_a rd_h now_h sp_h wy_h gp_h ch_h sb_h, oX1 now_h now_a now_windows now_washes now_damp now_heard now_lines now_hour now_strings, arI G (now_a 8) 8 now_washPairs, arI G (now_a 9) 8 now_washHours, arI G (now_a 10) 21 now_pairs, arI G (now_a 11) 21 now_knots, oX6 wy_h wy_a wy_windows wy_goal wy_otherFrom wy_otherTo wy_least, arI G (wy_a 1) 12 wy_links, arI G (wy_a 2) 144 wy_prices] → va_S A s.heap H locs → lv_has ls 4 [(0, .ref t_h), (1, .int l1), (2, .int l2), (3, .int l3)] → fX7_parts_24 now_windows wy_windows wy_links K n l1 l2 l3 = some (r, o_wy_windows, o_wy_links, o_wy_prices) → (∀ (k1 : Int32) (H : Heap) (locs : List Loc) (ls : Array Slot), va_P G.1 vwCl [oX7 t_h t_a rd_h now_h sp_h wy_h gp_h ch_h sb_h, oX1 now_h now_a now_windows now_washes now_damp now_heard now_lines now_hour now_strings, arI G (now_a 8) 8 now_washPairs, arI G (now_a 9) 8 now_washHours, arI G (now_a 10) 21 now_pairs, arI G (now_a 11) 21 now_knots, oX6 wy_h wy_a wy_windows wy_goal wy_otherFrom wy_otherTo wy_least, arI G (wy_a 1) 12 wy_links, arI G (wy_a 2) 144 wy_prices] H → va_D A [oX7 t_h t_a rd_h now_h sp_h wy_h gp_h ch_h sb_h, oX1 now_h now_a now_windows now_washes now_damp now_heard now_lines now_hour now_strings, arI G (now_a 8) 8 now_washPairs, arI G (now_a 9) 8 now_washHours, arI G (now_a 10) 21 now_pairs, arI G (now_a 11) 21 now_knots, oX6 wy_h wy_a wy_windows wy_goal wy_otherFrom wy_otherTo wy_least, arI G (wy_a 1) 12 wy_links, arI G (wy_a 2) 144 wy_prices] → va_S A s.heap H locs → lv_has ls 4 [(1, .int k1)] → K k1 = some (r, o_wy_windows, o_wy_links, o_wy_prices) → W p l e ({ frames := 5, cells := 0, slots := 0, locals := 108 } : Room) s m args below meth c H locs 0 0 Q (F0 m 63 ls [])) → W p l e ({ frames := 5, cells := 0, slots := 0, locals := 108 } : Room) s m args below meth c H locs 0 0 Q (F0 m 24 ls []) := by
    intro wy_windows wy_links wy_prices K n
    induction n with
    | zero => intro l1 l2 l3 H locs ls hP hD hS hl hf; rw [fX7_parts_24] at hf; cases hf
    | succ n ih =>
      intro l1 l2 l3 H locs ls hP hD hS hl hf hX
      rw [fX7_parts_24] at hf
      refine lv_iload_n hx hb dX7_parts_24 rfl (lv_at hl 3 rfl) ?_
      refine lv_aload_n hx hb dX7_parts_25 rfl (lv_at hl 0 rfl) ?_
      refine va_get (D := G.1) (ci := 7) (v := .ref now_h) (C := RX7) (T := TX7) (N := 10) hx hb hw inW7 hown hK.1 hP 0 rfl rfl 1 (by decide) (hw _ kw_1_20) (fun _ h9 => h9) rfl dX7_parts_26 ?_
      refine va_getN (D := G.1) (ci := 1) (v := .int now_windows) (C := RX1) (T := TX1) (N := 12) hx hb hw inW1 hown hK.1 hP 1 rfl rfl 0 (by decide) ((nf_6 hK.2).use rfl) (fun _ h9 => h9) rfl dX7_parts_29 ?_
      refine lv_icmp_ge (tgt := 63) hx hb dX7_parts_32 (by decide) (fun c_5 => ?_) (fun c_5 => ?_)
      · have hf := ip c_5 hf
        exact hX _ _ _ _ hP hD hS (lv_sub hl [1] rfl) hf
      · have hf := iq c_5 hf
        refine lv_iload_n hx hb dX7_parts_35 rfl (lv_at hl 2 rfl) ?_
        refine lv_iload_n hx hb dX7_parts_36 rfl (lv_at hl 3 rfl) ?_
        refine lv_ishr hx hb dX7_parts_37 ?_
        refine lv_iconst (v := 1) hx hb dX7_parts_38 (by decide) ?_
        refine lv_iand hx hb dX7_parts_39 ?_
        refine lv_if_ne (tgt := 57) hx hb dX7_parts_40 (by decide) (fun c_6 => ?_) (fun c_6 => ?_)
        · have hf := iq c_6 hf
          refine lv_iinc (v := (l3 + 1)) (lv' := [(3, .int (l3 + 1)), (0, .ref t_h), (1, .int l1), (2, .int l2)]) hx hb dX7_parts_57 hl (k := 3) rfl (by rfl) (by decide) rfl (fun ls hl => ?_)
          refine lv_goto (tgt := 24) hx hb dX7_parts_60 (by decide) ?_
          exact ih _ _ _ _ _ _ hP hD hS (lv_sub hl [1, 2, 3, 0] rfl) hf hX
        · have hf := ip c_6 hf
          refine lv_iload_n hx hb dX7_parts_43 rfl (lv_at hl 2 rfl) ?_
          refine lv_aload_n hx hb dX7_parts_44 rfl (lv_at hl 0 rfl) ?_
          refine va_get (D := G.1) (ci := 7) (v := .ref wy_h) (C := RX7) (T := TX7) (N := 10) hx hb hw inW7 hown hK.1 hP 0 rfl rfl 3 (by decide) (hw _ kw_2_1) (fun _ h9 => h9) rfl dX7_parts_45 ?_
          refine lv_iload_n hx hb dX7_parts_48 rfl (lv_at hl 3 rfl) ?_
          obtain ⟨r_7, hc_8, hf⟩ := bd1_in hf
          refine rcI (va_runV (As := [.int l3]) (rest := [.int l2]) ⟨hx, hb, hml, hown, hw⟩ ((ctX6_reachOf l G wy_h wy_a wy_windows wy_links wy_goal wy_otherFrom wy_otherTo wy_least l3 _ hc_8) _) (kV hw calX6_reachOf kw_32_13 rfl rfl ⟨Nat.le_of_ble_eq_true rfl, Nat.le_of_ble_eq_true rfl⟩) (rpV (hP.sub (ws' := [oX6 wy_h wy_a wy_windows wy_goal wy_otherFrom wy_otherTo wy_least, arI G (wy_a 1) 12 wy_links]) [6, 7] rfl) hK (ci := 6) (q0 := 0) rfl rfl) rfl rfl hl.1 rfl (lv_room (Nat.le_of_ble_eq_true rfl)) dX7_parts_49 ⟨Nat.zero_le _, Nat.zero_le _⟩) hS hA hP (fun H locs hP hS => ?_)
          refine lv_ior hx hb dX7_parts_52 ?_
          refine lv_topi (fun y_9 ey_9 => ?_)
          have hf := bnd_all hf y_9 ey_9
          refine lv_istore_n (lv' := [(2, .int y_9), (0, .ref t_h), (1, .int l1), (3, .int l3)]) hx hb dX7_parts_53 rfl hl (by decide) rfl (fun ls hl => ?_)
          refine lv_iinc (v := (l1 + 1)) (lv' := [(1, .int (l1 + 1)), (2, .int y_9), (0, .ref t_h), (3, .int l3)]) hx hb dX7_parts_54 hl (k := 2) rfl (by rfl) (by decide) rfl (fun ls hl => ?_)
          refine lv_iinc (v := (l3 + 1)) (lv' := [(3, .int (l3 + 1)), (1, .int (l1 + 1)), (2, .int y_9), (0, .ref t_h)]) hx hb dX7_parts_57 hl (k := 3) rfl (by rfl) (by decide) rfl (fun ls hl => ?_)
          refine lv_goto (tgt := 24) hx hb dX7_parts_60 (by decide) ?_
          exact ih _ _ _ _ _ _ hP hD hS (lv_sub hl [3, 1, 2, 0] rfl) hf hX
  unfold fX7_parts at hf
  refine lv_aload_n hx hb dX7_parts_0 rfl (lv_at hl 0 rfl) ?_
  refine va_get (D := G.1) (ci := 7) (v := .ref wy_h) (C := RX7) (T := TX7) (N := 10) hx hb hw inW7 hown hK.1 hP 0 rfl rfl 3 (by decide) (hw _ kw_2_1) (fun _ h9 => h9) rfl dX7_parts_1 ?_
  refine lv_aload_n hx hb dX7_parts_4 rfl (lv_at hl 0 rfl) ?_
  refine va_get (D := G.1) (ci := 7) (v := .ref now_h) (C := RX7) (T := TX7) (N := 10) hx hb hw inW7 hown hK.1 hP 0 rfl rfl 1 (by decide) (hw _ kw_1_20) (fun _ h9 => h9) rfl dX7_parts_5 ?_
  refine lv_aload_n hx hb dX7_parts_8 rfl (lv_at hl 0 rfl) ?_
  refine va_get (D := G.1) (ci := 7) (v := .ref now_h) (C := RX7) (T := TX7) (N := 10) hx hb hw inW7 hown hK.1 hP 0 rfl rfl 1 (by decide) (hw _ kw_1_20) (fun _ h9 => h9) rfl dX7_parts_9 ?_
  refine va_getN (D := G.1) (ci := 1) (v := .int now_hour) (C := RX1) (T := TX1) (N := 12) hx hb hw inW1 hown hK.1 hP 1 rfl rfl 5 (by decide) ((nf_16 hK.2).use rfl) (fun _ h9 => h9) rfl dX7_parts_12 ?_
  obtain ⟨wy_windows_1, wy_links_2, wy_prices_3, hc_4, hf⟩ := bd3_in hf
  refine wcV (w1 := [oX6 wy_h wy_a wy_windows_1 wy_goal wy_otherFrom wy_otherTo wy_least, arI G (wy_a 1) 12 wy_links_2, arI G (wy_a 2) 144 wy_prices_3, oX1 now_h now_a now_windows now_washes now_damp now_heard now_lines now_hour now_strings, arI G (now_a 8) 8 now_washPairs, arI G (now_a 9) 8 now_washHours, arI G (now_a 10) 21 now_pairs, arI G (now_a 11) 21 now_knots]) (va_runV (As := [.ref now_h, .int now_hour]) (rest := []) ⟨hx, hb, hml, hown, hw⟩ ((ctX6_takeStrings l G wy_h wy_a now_h now_a wy_windows wy_links wy_prices wy_goal wy_otherFrom wy_otherTo wy_least now_windows now_washes now_damp now_heard now_lines now_hour now_strings now_washPairs now_washHours now_pairs now_knots now_hour _ _ _ hc_4) _) (kV hw calX6_takeStrings kw_18_10 rfl rfl ⟨Nat.le_of_ble_eq_true rfl, Nat.le_of_ble_eq_true rfl⟩) (wpV (hP.sub (ws' := [oX6 wy_h wy_a wy_windows wy_goal wy_otherFrom wy_otherTo wy_least, arI G (wy_a 1) 12 wy_links, arI G (wy_a 2) 144 wy_prices, oX1 now_h now_a now_windows now_washes now_damp now_heard now_lines now_hour now_strings, arI G (now_a 8) 8 now_washPairs, arI G (now_a 9) 8 now_washHours, arI G (now_a 10) 21 now_pairs, arI G (now_a 11) 21 now_knots]) [6, 7, 8, 1, 2, 3, 4, 5] rfl) (hD.sub (ws' := [oX6 wy_h wy_a wy_windows wy_goal wy_otherFrom wy_otherTo wy_least, arI G (wy_a 1) 12 wy_links, arI G (wy_a 2) 144 wy_prices, oX1 now_h now_a now_windows now_washes now_damp now_heard now_lines now_hour now_strings, arI G (now_a 8) 8 now_washPairs, arI G (now_a 9) 8 now_washHours, arI G (now_a 10) 21 now_pairs, arI G (now_a 11) 21 now_knots]) [6, 7, 8, 1, 2, 3, 4, 5] (by decide) rfl) hK (ci := 6) (q0 := 0) rfl rfl) rfl rfl hl.1 rfl (lv_room (Nat.le_of_ble_eq_true rfl)) dX7_parts_15 ⟨Nat.zero_le _, Nat.zero_le _⟩) hS hA hP hD [6, 7, 8, 1, 2, 3, 4, 5] rfl rfl (fun H locs hP hD hS => ?_)
  have hP : va_P G.1 vwCl [oX7 t_h t_a rd_h now_h sp_h wy_h gp_h ch_h sb_h, oX1 now_h now_a now_windows now_washes now_damp now_heard now_lines now_hour now_strings, arI G (now_a 8) 8 now_washPairs, arI G (now_a 9) 8 now_washHours, arI G (now_a 10) 21 now_pairs, arI G (now_a 11) 21 now_knots, oX6 wy_h wy_a wy_windows_1 wy_goal wy_otherFrom wy_otherTo wy_least, arI G (wy_a 1) 12 wy_links_2, arI G (wy_a 2) 144 wy_prices_3] H := hP
  have hD : va_D A [oX7 t_h t_a rd_h now_h sp_h wy_h gp_h ch_h sb_h, oX1 now_h now_a now_windows now_washes now_damp now_heard now_lines now_hour now_strings, arI G (now_a 8) 8 now_washPairs, arI G (now_a 9) 8 now_washHours, arI G (now_a 10) 21 now_pairs, arI G (now_a 11) 21 now_knots, oX6 wy_h wy_a wy_windows_1 wy_goal wy_otherFrom wy_otherTo wy_least, arI G (wy_a 1) 12 wy_links_2, arI G (wy_a 2) 144 wy_prices_3] := hD
  refine lv_iconst (v := 0) hx hb dX7_parts_18 (by decide) ?_
  refine lv_istore_n (lv' := [(1, .int 0), (0, .ref t_h)]) hx hb dX7_parts_19 rfl hl (by decide) rfl (fun ls hl => ?_)
  refine lv_iconst (v := 0) hx hb dX7_parts_20 (by decide) ?_
  refine lv_istore_n (lv' := [(2, .int 0), (1, .int 0), (0, .ref t_h)]) hx hb dX7_parts_21 rfl hl (by decide) rfl (fun ls hl => ?_)
  refine lv_iconst (v := 0) hx hb dX7_parts_22 (by decide) ?_
  refine lv_istore_n (lv' := [(3, .int 0), (2, .int 0), (1, .int 0), (0, .ref t_h)]) hx hb dX7_parts_23 rfl hl (by decide) rfl (fun ls hl => ?_)
  refine L24 _ _ _ _ _ _ _ _ _ _ _ hP hD hS (lv_sub hl [3, 2, 1, 0] rfl) hf (fun w_10 H locs ls hP hD hS hl hf => ?_)
  refine lv_iload_n hx hb dX7_parts_63 rfl (lv_at hl 0 rfl) ?_
  exact hRet _ _ _ _ _ _ _ _ hf hP hS dX7_parts_64
theorem calX7_stay : CalV yX7_stay cX7_stay 2 (some .int) 1 := ⟨⟨kw_33_20, kw_1_2, by decide +kernel⟩, kw_33_18, kw_33_19⟩
set_option maxHeartbeats 8000000 in
set_option maxRecDepth 100000 in
theorem ctX7_stay (l : Launch) (G : GT) (t_h : Nat) (t_a : Nat → Nat) (now_h : Nat) (now_a : Nat → Nat) (wy_h : Nat) (wy_a : Nat → Nat) (rd_h : Nat) (sp_h : Nat) (gp_h : Nat) (ch_h : Nat) (sb_h : Nat) (now_windows : Int32) (now_washes : Int32) (now_damp : Int32) (now_heard : Int32) (now_lines : Int32) (now_hour : Int32) (now_strings : Int32) (now_washPairs : Nat → Int32) (now_washHours : Nat → Int32) (now_pairs : Nat → Int32) (now_knots : Nat → Int32) (wy_windows : Int32) (wy_links : Nat → Int32) (wy_prices : Nat → Int32) (wy_goal : Int32) (wy_otherFrom : Int32) (wy_otherTo : Int32) (wy_least : Int32) (v1 : Int32) (r : Int32) (o_wy_windows : Int32) (o_wy_links : Nat → Int32) (o_wy_prices : Nat → Int32) (hf : fX7_stay now_windows now_washes now_damp now_hour now_strings now_washPairs now_washHours now_pairs now_knots wy_windows wy_links wy_prices v1 = some (r, o_wy_windows, o_wy_links, o_wy_prices)) : WrI l yX7_stay (Cond.code yX7_stay cX7_stay 2 (some .int)) { frames := 5, cells := 0, slots := 0, locals := 108 } G [.ref t_h, .int v1] [oX7 t_h t_a rd_h now_h sp_h wy_h gp_h ch_h sb_h, oX1 now_h now_a now_windows now_washes now_damp now_heard now_lines now_hour now_strings, arI G (now_a 8) 8 now_washPairs, arI G (now_a 9) 8 now_washHours, arI G (now_a 10) 21 now_pairs, arI G (now_a 11) 21 now_knots, oX6 wy_h wy_a wy_windows wy_goal wy_otherFrom wy_otherTo wy_least, arI G (wy_a 1) 12 wy_links, arI G (wy_a 2) 144 wy_prices] [oX7 t_h t_a rd_h now_h sp_h wy_h gp_h ch_h sb_h, oX1 now_h now_a now_windows now_washes now_damp now_heard now_lines now_hour now_strings, arI G (now_a 8) 8 now_washPairs, arI G (now_a 9) 8 now_washHours, arI G (now_a 10) 21 now_pairs, arI G (now_a 11) 21 now_knots, oX6 wy_h wy_a o_wy_windows wy_goal wy_otherFrom wy_otherTo wy_least, arI G (wy_a 1) 12 o_wy_links, arI G (wy_a 2) 144 o_wy_prices] r := by
  intro sz
  refine Met.ofW (cc := cX7_stay) (maxL := 2) (ret := (some .int)) (by decide) rfl ?_
  intro p e s m args below meth c s₁ B hml hv
  obtain ⟨hargs, hsz, hP, hD0, hK⟩ := hv
  subst hsz
  obtain ⟨hx, hb, hr, hw, hown, hlk⟩ := fwB B
  refine fw_enter hargs (Nat.le_of_ble_eq_true rfl) (fun ls hl => ?_)
  have hl : lv_has ls 2 [(0, .ref t_h), (1, .int v1)] := hl
  refine fw_Q (P := fun Q => ∃ A : Nat → Prop, va_D A [oX7 t_h t_a rd_h now_h sp_h wy_h gp_h ch_h sb_h, oX1 now_h now_a now_windows now_washes now_damp now_heard now_lines now_hour now_strings, arI G (now_a 8) 8 now_washPairs, arI G (now_a 9) 8 now_washHours, arI G (now_a 10) 21 now_pairs, arI G (now_a 11) 21 now_knots, oX6 wy_h wy_a wy_windows wy_goal wy_otherFrom wy_otherTo wy_least, arI G (wy_a 1) 12 wy_links, arI G (wy_a 2) 144 wy_prices] ∧ va_S A s.heap s.heap [] ∧ (∀ q, s.heap.size ≤ q → A q) ∧ ∀ (v : Int32) (n_wy_windows : Int32) (n_wy_links : Nat → Int32) (n_wy_prices : Nat → Int32) (H : Heap) (locs : List Loc) (pc : Nat) (ls : Array Slot), some (v, n_wy_windows, n_wy_links, n_wy_prices) = some (r, o_wy_windows, o_wy_links, o_wy_prices) → va_P G.1 vwCl [oX7 t_h t_a rd_h now_h sp_h wy_h gp_h ch_h sb_h, oX1 now_h now_a now_windows now_washes now_damp now_heard now_lines now_hour now_strings, arI G (now_a 8) 8 now_washPairs, arI G (now_a 9) 8 now_washHours, arI G (now_a 10) 21 now_pairs, arI G (now_a 11) 21 now_knots, oX6 wy_h wy_a n_wy_windows wy_goal wy_otherFrom wy_otherTo wy_least, arI G (wy_a 1) 12 n_wy_links, arI G (wy_a 2) 144 n_wy_prices] H → va_S A s.heap H locs → decode cX7_stay pc = .ok (.ireturn, 1) → W p l e ({ frames := 5, cells := 0, slots := 0, locals := 108 } : Room) s m args below meth c H locs 0 0 Q (F0 m pc ls [.int v])) ⟨va_A [oX7 t_h t_a rd_h now_h sp_h wy_h gp_h ch_h sb_h, oX1 now_h now_a now_windows now_washes now_damp now_heard now_lines now_hour now_strings, arI G (now_a 8) 8 now_washPairs, arI G (now_a 9) 8 now_washHours, arI G (now_a 10) 21 now_pairs, arI G (now_a 11) 21 now_knots, oX6 wy_h wy_a wy_windows wy_goal wy_otherFrom wy_otherTo wy_least, arI G (wy_a 1) 12 wy_links, arI G (wy_a 2) 144 wy_prices] s.heap.size, hD0.self (sz := s.heap.size), va_S.rf, fun q h => Or.inr h, ?_⟩ ?_
  · intro v n_wy_windows n_wy_links n_wy_prices H locs pc ls h hP hS hd
    cases h
    exact retWI hx hb hr hlk hS hP rfl hd
  rintro Q ⟨A, hD, hS, hA, hRet⟩
  change W p l e ({ frames := 5, cells := 0, slots := 0, locals := 108 } : Room) s m args below meth c _ _ 0 0 Q _
  unfold fX7_stay at hf
  refine lv_aload_n hx hb dX7_stay_0 rfl (lv_at hl 0 rfl) ?_
  refine va_get (D := G.1) (ci := 7) (v := .ref wy_h) (C := RX7) (T := TX7) (N := 10) hx hb hw inW7 hown hK.1 hP 0 rfl rfl 3 (by decide) (hw _ kw_2_1) (fun _ h9 => h9) rfl dX7_stay_1 ?_
  refine lv_aload_n hx hb dX7_stay_4 rfl (lv_at hl 0 rfl) ?_
  refine va_get (D := G.1) (ci := 7) (v := .ref now_h) (C := RX7) (T := TX7) (N := 10) hx hb hw inW7 hown hK.1 hP 0 rfl rfl 1 (by decide) (hw _ kw_1_20) (fun _ h9 => h9) rfl dX7_stay_5 ?_
  refine lv_aload_n hx hb dX7_stay_8 rfl (lv_at hl 0 rfl) ?_
  refine va_get (D := G.1) (ci := 7) (v := .ref now_h) (C := RX7) (T := TX7) (N := 10) hx hb hw inW7 hown hK.1 hP 0 rfl rfl 1 (by decide) (hw _ kw_1_20) (fun _ h9 => h9) rfl dX7_stay_9 ?_
  refine va_getN (D := G.1) (ci := 1) (v := .int now_hour) (C := RX1) (T := TX1) (N := 12) hx hb hw inW1 hown hK.1 hP 1 rfl rfl 5 (by decide) ((nf_16 hK.2).use rfl) (fun _ h9 => h9) rfl dX7_stay_12 ?_
  obtain ⟨wy_windows_1, wy_links_2, wy_prices_3, hc_4, hf⟩ := bd3_in hf
  refine wcV (w1 := [oX6 wy_h wy_a wy_windows_1 wy_goal wy_otherFrom wy_otherTo wy_least, arI G (wy_a 1) 12 wy_links_2, arI G (wy_a 2) 144 wy_prices_3, oX1 now_h now_a now_windows now_washes now_damp now_heard now_lines now_hour now_strings, arI G (now_a 8) 8 now_washPairs, arI G (now_a 9) 8 now_washHours, arI G (now_a 10) 21 now_pairs, arI G (now_a 11) 21 now_knots]) (va_runV (As := [.ref now_h, .int now_hour]) (rest := []) ⟨hx, hb, hml, hown, hw⟩ ((ctX6_takeStrings l G wy_h wy_a now_h now_a wy_windows wy_links wy_prices wy_goal wy_otherFrom wy_otherTo wy_least now_windows now_washes now_damp now_heard now_lines now_hour now_strings now_washPairs now_washHours now_pairs now_knots now_hour _ _ _ hc_4) _) (kV hw calX6_takeStrings kw_18_10 rfl rfl ⟨Nat.le_of_ble_eq_true rfl, Nat.le_of_ble_eq_true rfl⟩) (wpV (hP.sub (ws' := [oX6 wy_h wy_a wy_windows wy_goal wy_otherFrom wy_otherTo wy_least, arI G (wy_a 1) 12 wy_links, arI G (wy_a 2) 144 wy_prices, oX1 now_h now_a now_windows now_washes now_damp now_heard now_lines now_hour now_strings, arI G (now_a 8) 8 now_washPairs, arI G (now_a 9) 8 now_washHours, arI G (now_a 10) 21 now_pairs, arI G (now_a 11) 21 now_knots]) [6, 7, 8, 1, 2, 3, 4, 5] rfl) (hD.sub (ws' := [oX6 wy_h wy_a wy_windows wy_goal wy_otherFrom wy_otherTo wy_least, arI G (wy_a 1) 12 wy_links, arI G (wy_a 2) 144 wy_prices, oX1 now_h now_a now_windows now_washes now_damp now_heard now_lines now_hour now_strings, arI G (now_a 8) 8 now_washPairs, arI G (now_a 9) 8 now_washHours, arI G (now_a 10) 21 now_pairs, arI G (now_a 11) 21 now_knots]) [6, 7, 8, 1, 2, 3, 4, 5] (by decide) rfl) hK (ci := 6) (q0 := 0) rfl rfl) rfl rfl hl.1 rfl (lv_room (Nat.le_of_ble_eq_true rfl)) dX7_stay_15 ⟨Nat.zero_le _, Nat.zero_le _⟩) hS hA hP hD [6, 7, 8, 1, 2, 3, 4, 5] rfl rfl (fun H locs hP hD hS => ?_)
  have hP : va_P G.1 vwCl [oX7 t_h t_a rd_h now_h sp_h wy_h gp_h ch_h sb_h, oX1 now_h now_a now_windows now_washes now_damp now_heard now_lines now_hour now_strings, arI G (now_a 8) 8 now_washPairs, arI G (now_a 9) 8 now_washHours, arI G (now_a 10) 21 now_pairs, arI G (now_a 11) 21 now_knots, oX6 wy_h wy_a wy_windows_1 wy_goal wy_otherFrom wy_otherTo wy_least, arI G (wy_a 1) 12 wy_links_2, arI G (wy_a 2) 144 wy_prices_3] H := hP
  have hD : va_D A [oX7 t_h t_a rd_h now_h sp_h wy_h gp_h ch_h sb_h, oX1 now_h now_a now_windows now_washes now_damp now_heard now_lines now_hour now_strings, arI G (now_a 8) 8 now_washPairs, arI G (now_a 9) 8 now_washHours, arI G (now_a 10) 21 now_pairs, arI G (now_a 11) 21 now_knots, oX6 wy_h wy_a wy_windows_1 wy_goal wy_otherFrom wy_otherTo wy_least, arI G (wy_a 1) 12 wy_links_2, arI G (wy_a 2) 144 wy_prices_3] := hD
  refine lv_iload_n hx hb dX7_stay_18 rfl (lv_at hl 1 rfl) ?_
  refine lv_iconst (v := (-1)) hx hb dX7_stay_19 (by decide) ?_
  refine lv_icmp_ne (tgt := 33) hx hb dX7_stay_20 (by decide) (fun c_5 => ?_) (fun c_5 => ?_)
  · have hf := iq c_5 hf
    refine lv_aload_n hx hb dX7_stay_33 rfl (lv_at hl 0 rfl) ?_
    refine va_get (D := G.1) (ci := 7) (v := .ref wy_h) (C := RX7) (T := TX7) (N := 10) hx hb hw inW7 hown hK.1 hP 0 rfl rfl 3 (by decide) (hw _ kw_2_1) (fun _ h9 => h9) rfl dX7_stay_34 ?_
    refine lv_iload_n hx hb dX7_stay_37 rfl (lv_at hl 1 rfl) ?_
    obtain ⟨r_7, wy_links_6, hc_8, hf⟩ := bd2_in hf
    refine wcI (w1 := [oX6 wy_h wy_a wy_windows_1 wy_goal wy_otherFrom wy_otherTo wy_least, arI G (wy_a 1) 12 wy_links_6]) (va_runV (As := [.int v1]) (rest := []) ⟨hx, hb, hml, hown, hw⟩ ((ctX6_stayAt l G wy_h wy_a wy_windows_1 wy_links_2 wy_goal wy_otherFrom wy_otherTo wy_least v1 _ _ hc_8) _) (kV hw calX6_stayAt kw_34_10 rfl rfl ⟨Nat.le_of_ble_eq_true rfl, Nat.le_of_ble_eq_true rfl⟩) (wpV (hP.sub (ws' := [oX6 wy_h wy_a wy_windows_1 wy_goal wy_otherFrom wy_otherTo wy_least, arI G (wy_a 1) 12 wy_links_2]) [6, 7] rfl) (hD.sub (ws' := [oX6 wy_h wy_a wy_windows_1 wy_goal wy_otherFrom wy_otherTo wy_least, arI G (wy_a 1) 12 wy_links_2]) [6, 7] (by decide) rfl) hK (ci := 6) (q0 := 0) rfl rfl) rfl rfl hl.1 rfl (lv_room (Nat.le_of_ble_eq_true rfl)) dX7_stay_38 ⟨Nat.zero_le _, Nat.zero_le _⟩) hS hA hP hD [6, 7] rfl rfl (fun H locs hP hD hS => ?_)
    have hP : va_P G.1 vwCl [oX7 t_h t_a rd_h now_h sp_h wy_h gp_h ch_h sb_h, oX1 now_h now_a now_windows now_washes now_damp now_heard now_lines now_hour now_strings, arI G (now_a 8) 8 now_washPairs, arI G (now_a 9) 8 now_washHours, arI G (now_a 10) 21 now_pairs, arI G (now_a 11) 21 now_knots, oX6 wy_h wy_a wy_windows_1 wy_goal wy_otherFrom wy_otherTo wy_least, arI G (wy_a 1) 12 wy_links_6, arI G (wy_a 2) 144 wy_prices_3] H := hP
    have hD : va_D A [oX7 t_h t_a rd_h now_h sp_h wy_h gp_h ch_h sb_h, oX1 now_h now_a now_windows now_washes now_damp now_heard now_lines now_hour now_strings, arI G (now_a 8) 8 now_washPairs, arI G (now_a 9) 8 now_washHours, arI G (now_a 10) 21 now_pairs, arI G (now_a 11) 21 now_knots, oX6 wy_h wy_a wy_windows_1 wy_goal wy_otherFrom wy_otherTo wy_least, arI G (wy_a 1) 12 wy_links_6, arI G (wy_a 2) 144 wy_prices_3] := hD
    exact hRet _ _ _ _ _ _ _ _ hf hP hS dX7_stay_41
  · have hf := ip c_5 hf
    refine lv_aload_n hx hb dX7_stay_23 rfl (lv_at hl 0 rfl) ?_
    refine va_get (D := G.1) (ci := 7) (v := .ref wy_h) (C := RX7) (T := TX7) (N := 10) hx hb hw inW7 hown hK.1 hP 0 rfl rfl 3 (by decide) (hw _ kw_2_1) (fun _ h9 => h9) rfl dX7_stay_24 ?_
    obtain ⟨r_10, wy_links_9, hc_11, hf⟩ := bd2_in hf
    refine wcI (w1 := [oX6 wy_h wy_a wy_windows_1 wy_goal wy_otherFrom wy_otherTo wy_least, arI G (wy_a 1) 12 wy_links_9]) (va_runV (As := []) (rest := []) ⟨hx, hb, hml, hown, hw⟩ ((ctX6_stays l G wy_h wy_a wy_windows_1 wy_links_2 wy_goal wy_otherFrom wy_otherTo wy_least _ _ hc_11) _) (kV hw calX6_stays kw_33_21 rfl rfl ⟨Nat.le_of_ble_eq_true rfl, Nat.le_of_ble_eq_true rfl⟩) (wpV (hP.sub (ws' := [oX6 wy_h wy_a wy_windows_1 wy_goal wy_otherFrom wy_otherTo wy_least, arI G (wy_a 1) 12 wy_links_2]) [6, 7] rfl) (hD.sub (ws' := [oX6 wy_h wy_a wy_windows_1 wy_goal wy_otherFrom wy_otherTo wy_least, arI G (wy_a 1) 12 wy_links_2]) [6, 7] (by decide) rfl) hK (ci := 6) (q0 := 0) rfl rfl) rfl rfl hl.1 rfl (lv_room (Nat.le_of_ble_eq_true rfl)) dX7_stay_27 ⟨Nat.zero_le _, Nat.zero_le _⟩) hS hA hP hD [6, 7] rfl rfl (fun H locs hP hD hS => ?_)
    have hP : va_P G.1 vwCl [oX7 t_h t_a rd_h now_h sp_h wy_h gp_h ch_h sb_h, oX1 now_h now_a now_windows now_washes now_damp now_heard now_lines now_hour now_strings, arI G (now_a 8) 8 now_washPairs, arI G (now_a 9) 8 now_washHours, arI G (now_a 10) 21 now_pairs, arI G (now_a 11) 21 now_knots, oX6 wy_h wy_a wy_windows_1 wy_goal wy_otherFrom wy_otherTo wy_least, arI G (wy_a 1) 12 wy_links_9, arI G (wy_a 2) 144 wy_prices_3] H := hP
    have hD : va_D A [oX7 t_h t_a rd_h now_h sp_h wy_h gp_h ch_h sb_h, oX1 now_h now_a now_windows now_washes now_damp now_heard now_lines now_hour now_strings, arI G (now_a 8) 8 now_washPairs, arI G (now_a 9) 8 now_washHours, arI G (now_a 10) 21 now_pairs, arI G (now_a 11) 21 now_knots, oX6 wy_h wy_a wy_windows_1 wy_goal wy_otherFrom wy_otherTo wy_least, arI G (wy_a 1) 12 wy_links_9, arI G (wy_a 2) 144 wy_prices_3] := hD
    refine lv_goto (tgt := 41) hx hb dX7_stay_30 (by decide) ?_
    exact hRet _ _ _ _ _ _ _ _ hf hP hS dX7_stay_41
theorem calX7_staysWith : CalV yX7_staysWith cX7_staysWith 4 (some .int) 2 := ⟨⟨kw_35_11, kw_1_2, by decide +kernel⟩, kw_35_9, kw_35_10⟩
set_option maxHeartbeats 8000000 in
set_option maxRecDepth 100000 in
theorem ctX7_staysWith (l : Launch) (G : GT) (t_h : Nat) (t_a : Nat → Nat) (wy_h : Nat) (wy_a : Nat → Nat) (rd_h : Nat) (now_h : Nat) (sp_h : Nat) (gp_h : Nat) (ch_h : Nat) (sb_h : Nat) (wy_windows : Int32) (wy_links : Nat → Int32) (wy_goal : Int32) (wy_otherFrom : Int32) (wy_otherTo : Int32) (wy_least : Int32) (v1 : Int32) (v2 : Int32) (r : Int32) (o_wy_links : Nat → Int32) (hf : fX7_staysWith wy_windows wy_links v1 v2 = some (r, o_wy_links)) : WrI l yX7_staysWith (Cond.code yX7_staysWith cX7_staysWith 4 (some .int)) { frames := 4, cells := 0, slots := 0, locals := 93 } G [.ref t_h, .int v1, .int v2] [oX7 t_h t_a rd_h now_h sp_h wy_h gp_h ch_h sb_h, oX6 wy_h wy_a wy_windows wy_goal wy_otherFrom wy_otherTo wy_least, arI G (wy_a 1) 12 wy_links] [oX7 t_h t_a rd_h now_h sp_h wy_h gp_h ch_h sb_h, oX6 wy_h wy_a wy_windows wy_goal wy_otherFrom wy_otherTo wy_least, arI G (wy_a 1) 12 o_wy_links] r := by
  intro sz
  refine Met.ofW (cc := cX7_staysWith) (maxL := 4) (ret := (some .int)) (by decide) rfl ?_
  intro p e s m args below meth c s₁ B hml hv
  obtain ⟨hargs, hsz, hP, hD0, hK⟩ := hv
  subst hsz
  obtain ⟨hx, hb, hr, hw, hown, hlk⟩ := fwB B
  refine fw_enter hargs (Nat.le_of_ble_eq_true rfl) (fun ls hl => ?_)
  have hl : lv_has ls 4 [(0, .ref t_h), (1, .int v1), (2, .int v2)] := hl
  refine fw_Q (P := fun Q => ∃ A : Nat → Prop, va_D A [oX7 t_h t_a rd_h now_h sp_h wy_h gp_h ch_h sb_h, oX6 wy_h wy_a wy_windows wy_goal wy_otherFrom wy_otherTo wy_least, arI G (wy_a 1) 12 wy_links] ∧ va_S A s.heap s.heap [] ∧ (∀ q, s.heap.size ≤ q → A q) ∧ ∀ (v : Int32) (n_wy_links : Nat → Int32) (H : Heap) (locs : List Loc) (pc : Nat) (ls : Array Slot), some (v, n_wy_links) = some (r, o_wy_links) → va_P G.1 vwCl [oX7 t_h t_a rd_h now_h sp_h wy_h gp_h ch_h sb_h, oX6 wy_h wy_a wy_windows wy_goal wy_otherFrom wy_otherTo wy_least, arI G (wy_a 1) 12 n_wy_links] H → va_S A s.heap H locs → decode cX7_staysWith pc = .ok (.ireturn, 1) → W p l e ({ frames := 4, cells := 0, slots := 0, locals := 93 } : Room) s m args below meth c H locs 0 0 Q (F0 m pc ls [.int v])) ⟨va_A [oX7 t_h t_a rd_h now_h sp_h wy_h gp_h ch_h sb_h, oX6 wy_h wy_a wy_windows wy_goal wy_otherFrom wy_otherTo wy_least, arI G (wy_a 1) 12 wy_links] s.heap.size, hD0.self (sz := s.heap.size), va_S.rf, fun q h => Or.inr h, ?_⟩ ?_
  · intro v n_wy_links H locs pc ls h hP hS hd
    cases h
    exact retWI hx hb hr hlk hS hP rfl hd
  rintro Q ⟨A, hD, hS, hA, hRet⟩
  change W p l e ({ frames := 4, cells := 0, slots := 0, locals := 93 } : Room) s m args below meth c _ _ 0 0 Q _
  unfold fX7_staysWith at hf
  refine lv_aload_n hx hb dX7_staysWith_0 rfl (lv_at hl 0 rfl) ?_
  refine va_get (D := G.1) (ci := 7) (v := .ref wy_h) (C := RX7) (T := TX7) (N := 10) hx hb hw inW7 hown hK.1 hP 0 rfl rfl 3 (by decide) (hw _ kw_2_1) (fun _ h9 => h9) rfl dX7_staysWith_1 ?_
  refine lv_iload_n hx hb dX7_staysWith_4 rfl (lv_at hl 1 rfl) ?_
  refine lv_iload_n hx hb dX7_staysWith_5 rfl (lv_at hl 2 rfl) ?_
  obtain ⟨wy_links_1, hc_2, hf⟩ := bd1_in hf
  refine wcV (w1 := [oX6 wy_h wy_a wy_windows wy_goal wy_otherFrom wy_otherTo wy_least, arI G (wy_a 1) 12 wy_links_1]) (va_runV (As := [.int v1, .int v2]) (rest := []) ⟨hx, hb, hml, hown, hw⟩ ((ctX6_join l G wy_h wy_a wy_windows wy_links wy_goal wy_otherFrom wy_otherTo wy_least v1 v2 _ hc_2) _) (kV hw calX6_join kw_35_12 rfl rfl ⟨Nat.le_of_ble_eq_true rfl, Nat.le_of_ble_eq_true rfl⟩) (wpV (hP.sub (ws' := [oX6 wy_h wy_a wy_windows wy_goal wy_otherFrom wy_otherTo wy_least, arI G (wy_a 1) 12 wy_links]) [1, 2] rfl) (hD.sub (ws' := [oX6 wy_h wy_a wy_windows wy_goal wy_otherFrom wy_otherTo wy_least, arI G (wy_a 1) 12 wy_links]) [1, 2] (by decide) rfl) hK (ci := 6) (q0 := 0) rfl rfl) rfl rfl hl.1 rfl (lv_room (Nat.le_of_ble_eq_true rfl)) dX7_staysWith_6 ⟨Nat.zero_le _, Nat.zero_le _⟩) hS hA hP hD [1, 2] rfl rfl (fun H locs hP hD hS => ?_)
  have hP : va_P G.1 vwCl [oX7 t_h t_a rd_h now_h sp_h wy_h gp_h ch_h sb_h, oX6 wy_h wy_a wy_windows wy_goal wy_otherFrom wy_otherTo wy_least, arI G (wy_a 1) 12 wy_links_1] H := hP
  have hD : va_D A [oX7 t_h t_a rd_h now_h sp_h wy_h gp_h ch_h sb_h, oX6 wy_h wy_a wy_windows wy_goal wy_otherFrom wy_otherTo wy_least, arI G (wy_a 1) 12 wy_links_1] := hD
  refine lv_aload_n hx hb dX7_staysWith_9 rfl (lv_at hl 0 rfl) ?_
  refine va_get (D := G.1) (ci := 7) (v := .ref wy_h) (C := RX7) (T := TX7) (N := 10) hx hb hw inW7 hown hK.1 hP 0 rfl rfl 3 (by decide) (hw _ kw_2_1) (fun _ h9 => h9) rfl dX7_staysWith_10 ?_
  obtain ⟨r_4, wy_links_3, hc_5, hf⟩ := bd2_in hf
  refine wcI (w1 := [oX6 wy_h wy_a wy_windows wy_goal wy_otherFrom wy_otherTo wy_least, arI G (wy_a 1) 12 wy_links_3]) (va_runV (As := []) (rest := []) ⟨hx, hb, hml, hown, hw⟩ ((ctX6_stays l G wy_h wy_a wy_windows wy_links_1 wy_goal wy_otherFrom wy_otherTo wy_least _ _ hc_5) _) (kV hw calX6_stays kw_33_21 rfl rfl ⟨Nat.le_of_ble_eq_true rfl, Nat.le_of_ble_eq_true rfl⟩) (wpV (hP.sub (ws' := [oX6 wy_h wy_a wy_windows wy_goal wy_otherFrom wy_otherTo wy_least, arI G (wy_a 1) 12 wy_links_1]) [1, 2] rfl) (hD.sub (ws' := [oX6 wy_h wy_a wy_windows wy_goal wy_otherFrom wy_otherTo wy_least, arI G (wy_a 1) 12 wy_links_1]) [1, 2] (by decide) rfl) hK (ci := 6) (q0 := 0) rfl rfl) rfl rfl hl.1 rfl (lv_room (Nat.le_of_ble_eq_true rfl)) dX7_staysWith_13 ⟨Nat.zero_le _, Nat.zero_le _⟩) hS hA hP hD [1, 2] rfl rfl (fun H locs hP hD hS => ?_)
  have hP : va_P G.1 vwCl [oX7 t_h t_a rd_h now_h sp_h wy_h gp_h ch_h sb_h, oX6 wy_h wy_a wy_windows wy_goal wy_otherFrom wy_otherTo wy_least, arI G (wy_a 1) 12 wy_links_3] H := hP
  have hD : va_D A [oX7 t_h t_a rd_h now_h sp_h wy_h gp_h ch_h sb_h, oX6 wy_h wy_a wy_windows wy_goal wy_otherFrom wy_otherTo wy_least, arI G (wy_a 1) 12 wy_links_3] := hD
  refine lv_istore_n (lv' := [(3, .int r_4), (0, .ref t_h), (1, .int v1), (2, .int v2)]) hx hb dX7_staysWith_16 rfl hl (by decide) rfl (fun ls hl => ?_)
  refine lv_aload_n hx hb dX7_staysWith_17 rfl (lv_at hl 1 rfl) ?_
  refine va_get (D := G.1) (ci := 7) (v := .ref wy_h) (C := RX7) (T := TX7) (N := 10) hx hb hw inW7 hown hK.1 hP 0 rfl rfl 3 (by decide) (hw _ kw_2_1) (fun _ h9 => h9) rfl dX7_staysWith_18 ?_
  refine lv_iload_n hx hb dX7_staysWith_21 rfl (lv_at hl 2 rfl) ?_
  refine lv_iload_n hx hb dX7_staysWith_22 rfl (lv_at hl 3 rfl) ?_
  obtain ⟨wy_links_6, hc_7, hf⟩ := bd1_in hf
  refine wcV (w1 := [oX6 wy_h wy_a wy_windows wy_goal wy_otherFrom wy_otherTo wy_least, arI G (wy_a 1) 12 wy_links_6]) (va_runV (As := [.int v1, .int v2]) (rest := []) ⟨hx, hb, hml, hown, hw⟩ ((ctX6_sever l G wy_h wy_a wy_windows wy_links_3 wy_goal wy_otherFrom wy_otherTo wy_least v1 v2 _ hc_7) _) (kV hw calX6_sever kw_35_13 rfl rfl ⟨Nat.le_of_ble_eq_true rfl, Nat.le_of_ble_eq_true rfl⟩) (wpV (hP.sub (ws' := [oX6 wy_h wy_a wy_windows wy_goal wy_otherFrom wy_otherTo wy_least, arI G (wy_a 1) 12 wy_links_3]) [1, 2] rfl) (hD.sub (ws' := [oX6 wy_h wy_a wy_windows wy_goal wy_otherFrom wy_otherTo wy_least, arI G (wy_a 1) 12 wy_links_3]) [1, 2] (by decide) rfl) hK (ci := 6) (q0 := 0) rfl rfl) rfl rfl hl.1 rfl (lv_room (Nat.le_of_ble_eq_true rfl)) dX7_staysWith_23 ⟨Nat.zero_le _, Nat.zero_le _⟩) hS hA hP hD [1, 2] rfl rfl (fun H locs hP hD hS => ?_)
  have hP : va_P G.1 vwCl [oX7 t_h t_a rd_h now_h sp_h wy_h gp_h ch_h sb_h, oX6 wy_h wy_a wy_windows wy_goal wy_otherFrom wy_otherTo wy_least, arI G (wy_a 1) 12 wy_links_6] H := hP
  have hD : va_D A [oX7 t_h t_a rd_h now_h sp_h wy_h gp_h ch_h sb_h, oX6 wy_h wy_a wy_windows wy_goal wy_otherFrom wy_otherTo wy_least, arI G (wy_a 1) 12 wy_links_6] := hD
  refine lv_iload_n hx hb dX7_staysWith_26 rfl (lv_at hl 0 rfl) ?_
  exact hRet _ _ _ _ _ _ hf hP hS dX7_staysWith_27
theorem calX7_brace : CalV yX7_brace cX7_brace 8 (some .int) 0 := ⟨⟨kw_35_1, kw_1_2, by decide +kernel⟩, kw_34_23, kw_35_0⟩
set_option maxHeartbeats 8000000 in
set_option maxRecDepth 100000 in
theorem ctX7_brace (l : Launch) (G : GT) (t_h : Nat) (t_a : Nat → Nat) (now_h : Nat) (now_a : Nat → Nat) (wy_h : Nat) (wy_a : Nat → Nat) (rd_h : Nat) (sp_h : Nat) (gp_h : Nat) (ch_h : Nat) (sb_h : Nat) (now_windows : Int32) (now_washes : Int32) (now_damp : Int32) (now_heard : Int32) (now_lines : Int32) (now_hour : Int32) (now_strings : Int32) (now_cans : Nat → Int32) (now_washPairs : Nat → Int32) (now_washHours : Nat → Int32) (now_pairs : Nat → Int32) (now_knots : Nat → Int32) (wy_windows : Int32) (wy_links : Nat → Int32) (wy_prices : Nat → Int32) (wy_goal : Int32) (wy_otherFrom : Int32) (wy_otherTo : Int32) (wy_least : Int32) (r : Int32) (o_wy_windows : Int32) (o_wy_links : Nat → Int32) (o_wy_prices : Nat → Int32) (hf : fX7_brace now_windows now_washes now_damp now_hour now_strings now_cans now_washPairs now_washHours now_pairs now_knots wy_windows wy_links wy_prices = some (r, o_wy_windows, o_wy_links, o_wy_prices)) : WrI l yX7_brace (Cond.code yX7_brace cX7_brace 8 (some .int)) { frames := 5, cells := 0, slots := 0, locals := 116 } G [.ref t_h] [oX7 t_h t_a rd_h now_h sp_h wy_h gp_h ch_h sb_h, oX1 now_h now_a now_windows now_washes now_damp now_heard now_lines now_hour now_strings, arI G (now_a 7) 12 now_cans, arI G (now_a 8) 8 now_washPairs, arI G (now_a 9) 8 now_washHours, arI G (now_a 10) 21 now_pairs, arI G (now_a 11) 21 now_knots, oX6 wy_h wy_a wy_windows wy_goal wy_otherFrom wy_otherTo wy_least, arI G (wy_a 1) 12 wy_links, arI G (wy_a 2) 144 wy_prices] [oX7 t_h t_a rd_h now_h sp_h wy_h gp_h ch_h sb_h, oX1 now_h now_a now_windows now_washes now_damp now_heard now_lines now_hour now_strings, arI G (now_a 7) 12 now_cans, arI G (now_a 8) 8 now_washPairs, arI G (now_a 9) 8 now_washHours, arI G (now_a 10) 21 now_pairs, arI G (now_a 11) 21 now_knots, oX6 wy_h wy_a o_wy_windows wy_goal wy_otherFrom wy_otherTo wy_least, arI G (wy_a 1) 12 o_wy_links, arI G (wy_a 2) 144 o_wy_prices] r := by
  intro sz
  refine Met.ofW (cc := cX7_brace) (maxL := 8) (ret := (some .int)) (by decide) rfl ?_
  intro p e s m args below meth c s₁ B hml hv
  obtain ⟨hargs, hsz, hP, hD0, hK⟩ := hv
  subst hsz
  obtain ⟨hx, hb, hr, hw, hown, hlk⟩ := fwB B
  refine fw_enter hargs (Nat.le_of_ble_eq_true rfl) (fun ls hl => ?_)
  have hl : lv_has ls 8 [(0, .ref t_h)] := hl
  refine fw_Q (P := fun Q => ∃ A : Nat → Prop, va_D A [oX7 t_h t_a rd_h now_h sp_h wy_h gp_h ch_h sb_h, oX1 now_h now_a now_windows now_washes now_damp now_heard now_lines now_hour now_strings, arI G (now_a 7) 12 now_cans, arI G (now_a 8) 8 now_washPairs, arI G (now_a 9) 8 now_washHours, arI G (now_a 10) 21 now_pairs, arI G (now_a 11) 21 now_knots, oX6 wy_h wy_a wy_windows wy_goal wy_otherFrom wy_otherTo wy_least, arI G (wy_a 1) 12 wy_links, arI G (wy_a 2) 144 wy_prices] ∧ va_S A s.heap s.heap [] ∧ (∀ q, s.heap.size ≤ q → A q) ∧ ∀ (v : Int32) (n_wy_windows : Int32) (n_wy_links : Nat → Int32) (n_wy_prices : Nat → Int32) (H : Heap) (locs : List Loc) (pc : Nat) (ls : Array Slot), some (v, n_wy_windows, n_wy_links, n_wy_prices) = some (r, o_wy_windows, o_wy_links, o_wy_prices) → va_P G.1 vwCl [oX7 t_h t_a rd_h now_h sp_h wy_h gp_h ch_h sb_h, oX1 now_h now_a now_windows now_washes now_damp now_heard now_lines now_hour now_strings, arI G (now_a 7) 12 now_cans, arI G (now_a 8) 8 now_washPairs, arI G (now_a 9) 8 now_washHours, arI G (now_a 10) 21 now_pairs, arI G (now_a 11) 21 now_knots, oX6 wy_h wy_a n_wy_windows wy_goal wy_otherFrom wy_otherTo wy_least, arI G (wy_a 1) 12 n_wy_links, arI G (wy_a 2) 144 n_wy_prices] H → va_S A s.heap H locs → decode cX7_brace pc = .ok (.ireturn, 1) → W p l e ({ frames := 5, cells := 0, slots := 0, locals := 116 } : Room) s m args below meth c H locs 0 0 Q (F0 m pc ls [.int v])) ⟨va_A [oX7 t_h t_a rd_h now_h sp_h wy_h gp_h ch_h sb_h, oX1 now_h now_a now_windows now_washes now_damp now_heard now_lines now_hour now_strings, arI G (now_a 7) 12 now_cans, arI G (now_a 8) 8 now_washPairs, arI G (now_a 9) 8 now_washHours, arI G (now_a 10) 21 now_pairs, arI G (now_a 11) 21 now_knots, oX6 wy_h wy_a wy_windows wy_goal wy_otherFrom wy_otherTo wy_least, arI G (wy_a 1) 12 wy_links, arI G (wy_a 2) 144 wy_prices] s.heap.size, hD0.self (sz := s.heap.size), va_S.rf, fun q h => Or.inr h, ?_⟩ ?_
  · intro v n_wy_windows n_wy_links n_wy_prices H locs pc ls h hP hS hd
    cases h
    exact retWI hx hb hr hlk hS hP rfl hd
  rintro Q ⟨A, hD, hS, hA, hRet⟩
  change W p l e ({ frames := 5, cells := 0, slots := 0, locals := 116 } : Room) s m args below meth c _ _ 0 0 Q _
  have L40 : ∀ (l3 : Int32) (wy_windows : Int32) (wy_prices : Nat → Int32) (K : Int32 → Int32 → (Nat → Int32) → Option (Int32 × Int32 × (Nat → Int32) × (Nat → Int32))) (n : Nat) (l1 : Int32) (l2 : Int32) (l4 : Int32) (wy_links : Nat → Int32) (H : Heap) (locs : List Loc) (ls : Array Slot), va_P G.1 vwCl [oX7 t_h t_a rd_h now_h sp_h wy_h gp_h ch_h sb_h, oX1 now_h now_a now_windows now_washes now_damp now_heard now_lines now_hour now_strings, arI G (now_a 7) 12 now_cans, arI G (now_a 8) 8 now_washPairs, arI G (now_a 9) 8 now_washHours, arI G (now_a 10) 21 now_pairs, arI G (now_a 11) 21 now_knots, oX6 wy_h wy_a wy_windows wy_goal wy_otherFrom wy_otherTo wy_least, arI G (wy_a 1) 12 wy_links, arI G (wy_a 2) 144 wy_prices] H → va_D A [oX7 t_h t_a rd_h now_h sp_h wy_h gp_h ch_h sb_h, oX1 now_h now_a now_windows now_washes now_damp now_heard now_lines now_hour now_strings, arI G (now_a 7) 12 now_cans, arI G (now_a 8) 8 now_washPairs, arI G (now_a 9) 8 now_washHours, arI G (now_a 10) 21 now_pairs, arI G (now_a 11) 21 now_knots, oX6 wy_h wy_a wy_windows wy_goal wy_otherFrom wy_otherTo wy_least, arI G (wy_a 1) 12 wy_links, arI G (wy_a 2) 144 wy_prices] → va_S A s.heap H locs → lv_has ls 8 [(0, .ref t_h), (1, .int l1), (2, .int l2), (3, .int l3), (4, .int l4)] → fX7_brace_40 l3 now_windows now_washes now_hour now_strings now_cans now_washPairs now_washHours now_pairs wy_windows K n l1 l2 l4 wy_links = some (r, o_wy_windows, o_wy_links, o_wy_prices) → (∀ (k1 : Int32) (k2 : Int32) (kwy_links : Nat → Int32) (H : Heap) (locs : List Loc) (ls : Array Slot), va_P G.1 vwCl [oX7 t_h t_a rd_h now_h sp_h wy_h gp_h ch_h sb_h, oX1 now_h now_a now_windows now_washes now_damp now_heard now_lines now_hour now_strings, arI G (now_a 7) 12 now_cans, arI G (now_a 8) 8 now_washPairs, arI G (now_a 9) 8 now_washHours, arI G (now_a 10) 21 now_pairs, arI G (now_a 11) 21 now_knots, oX6 wy_h wy_a wy_windows wy_goal wy_otherFrom wy_otherTo wy_least, arI G (wy_a 1) 12 kwy_links, arI G (wy_a 2) 144 wy_prices] H → va_D A [oX7 t_h t_a rd_h now_h sp_h wy_h gp_h ch_h sb_h, oX1 now_h now_a now_windows now_washes now_damp now_heard now_lines now_hour now_strings, arI G (now_a 7) 12 now_cans, arI G (now_a 8) 8 now_washPairs, arI G (now_a 9) 8 now_washHours, arI G (now_a 10) 21 now_pairs, arI G (now_a 11) 21 now_knots, oX6 wy_h wy_a wy_windows wy_goal wy_otherFrom wy_otherTo wy_least, arI G (wy_a 1) 12 kwy_links, arI G (wy_a 2) 144 wy_prices] → va_S A s.heap H locs → lv_has ls 8 [(0, .ref t_h), (1, .int k1), (2, .int k2), (3, .int l3)] → K k1 k2 kwy_links = some (r, o_wy_windows, o_wy_links, o_wy_prices) → W p l e ({ frames := 5, cells := 0, slots := 0, locals := 116 } : Room) s m args below meth c H locs 0 0 Q (F0 m 145 ls [])) → W p l e ({ frames := 5, cells := 0, slots := 0, locals := 116 } : Room) s m args below meth c H locs 0 0 Q (F0 m 40 ls []) := by
    intro l3 wy_windows wy_prices K n
    induction n with
    | zero => intro l1 l2 l4 wy_links H locs ls hP hD hS hl hf; rw [fX7_brace_40] at hf; cases hf
    | succ n ih =>
      intro l1 l2 l4 wy_links H locs ls hP hD hS hl hf hX
      rw [fX7_brace_40] at hf
      refine lv_iload hx hb dX7_brace_40 (lv_at hl 4 rfl) ?_
      refine lv_aload_n hx hb dX7_brace_42 rfl (lv_at hl 0 rfl) ?_
      refine va_get (D := G.1) (ci := 7) (v := .ref now_h) (C := RX7) (T := TX7) (N := 10) hx hb hw inW7 hown hK.1 hP 0 rfl rfl 1 (by decide) (hw _ kw_1_20) (fun _ h9 => h9) rfl dX7_brace_43 ?_
      refine va_getN (D := G.1) (ci := 1) (v := .int now_windows) (C := RX1) (T := TX1) (N := 12) hx hb hw inW1 hown hK.1 hP 1 rfl rfl 0 (by decide) ((nf_6 hK.2).use rfl) (fun _ h9 => h9) rfl dX7_brace_46 ?_
      refine lv_icmp_ge (tgt := 145) hx hb dX7_brace_49 (by decide) (fun c_7 => ?_) (fun c_7 => ?_)
      · have hf := ip c_7 hf
        exact hX _ _ _ _ _ _ hP hD hS (lv_sub hl [0, 1, 2, 3] rfl) hf
      · have hf := iq c_7 hf
        refine lv_iload_n hx hb dX7_brace_52 rfl (lv_at hl 3 rfl) ?_
        refine lv_iload hx hb dX7_brace_53 (lv_at hl 4 rfl) ?_
        obtain ⟨r_8, hc_9, hf⟩ := bd1_in hf
        refine rcI (va_runS (As := [.int l3, .int l4]) (rest := []) ⟨hx, hb, hml, hown, hw⟩ ((ctX7_pairOf l G l3 l4 _ hc_9) _) (kS hw calX7_pairOf kw_27_1 rfl rfl ⟨Nat.le_of_ble_eq_true rfl, Nat.le_of_ble_eq_true rfl⟩) (rpS (hP.sub (ws' := []) [] rfl) hK) rfl rfl hl.1 rfl (lv_room (Nat.le_of_ble_eq_true rfl)) dX7_brace_55 ⟨Nat.zero_le _, Nat.zero_le _⟩) hS hA hP (fun H locs hP hS => ?_)
        refine lv_istore (lv' := [(5, .int r_8), (0, .ref t_h), (1, .int l1), (2, .int l2), (3, .int l3), (4, .int l4)]) hx hb dX7_brace_58 hl (by decide) rfl (fun ls hl => ?_)
        refine lv_aload_n hx hb dX7_brace_60 rfl (lv_at hl 1 rfl) ?_
        refine va_get (D := G.1) (ci := 7) (v := .ref now_h) (C := RX7) (T := TX7) (N := 10) hx hb hw inW7 hown hK.1 hP 0 rfl rfl 1 (by decide) (hw _ kw_1_20) (fun _ h9 => h9) rfl dX7_brace_61 ?_
        refine lv_iload hx hb dX7_brace_64 (lv_at hl 0 rfl) ?_
        obtain ⟨r_10, hc_11, hf⟩ := bd1_in hf
        refine rcI (va_runV (As := [.int r_8]) (rest := []) ⟨hx, hb, hml, hown, hw⟩ ((ctX1_mayBeTaut l G now_h now_a now_windows now_washes now_damp now_heard now_lines now_hour now_strings now_cans now_washPairs now_washHours now_pairs r_8 _ hc_11) _) (kV hw calX1_mayBeTaut kw_35_2 rfl rfl ⟨Nat.le_of_ble_eq_true rfl, Nat.le_of_ble_eq_true rfl⟩) (rpV (hP.sub (ws' := [oX1 now_h now_a now_windows now_washes now_damp now_heard now_lines now_hour now_strings, arI G (now_a 7) 12 now_cans, arI G (now_a 8) 8 now_washPairs, arI G (now_a 9) 8 now_washHours, arI G (now_a 10) 21 now_pairs]) [1, 2, 3, 4, 5] rfl) hK (ci := 1) (q0 := 0) rfl rfl) rfl rfl hl.1 rfl (lv_room (Nat.le_of_ble_eq_true rfl)) dX7_brace_66 ⟨Nat.zero_le _, Nat.zero_le _⟩) hS hA hP (fun H locs hP hS => ?_)
        refine lv_if_ne (tgt := 75) hx hb dX7_brace_69 (by decide) (fun c_12 => ?_) (fun c_12 => ?_)
        · have hf := iq c_12 hf
          refine lv_aload_n hx hb dX7_brace_75 rfl (lv_at hl 1 rfl) ?_
          refine lv_iload_n hx hb dX7_brace_76 rfl (lv_at hl 4 rfl) ?_
          refine lv_iload hx hb dX7_brace_77 (lv_at hl 5 rfl) ?_
          obtain ⟨r_14, wy_links_13, hc_15, hf⟩ := bd2_in hf
          refine wcI (w1 := [oX7 t_h t_a rd_h now_h sp_h wy_h gp_h ch_h sb_h, oX6 wy_h wy_a wy_windows wy_goal wy_otherFrom wy_otherTo wy_least, arI G (wy_a 1) 12 wy_links_13]) (va_runV (As := [.int l3, .int l4]) (rest := []) ⟨hx, hb, hml, hown, hw⟩ ((ctX7_staysWith l G t_h t_a wy_h wy_a rd_h now_h sp_h gp_h ch_h sb_h wy_windows wy_links wy_goal wy_otherFrom wy_otherTo wy_least l3 l4 _ _ hc_15) _) (kV hw calX7_staysWith kw_35_8 rfl rfl ⟨Nat.le_of_ble_eq_true rfl, Nat.le_of_ble_eq_true rfl⟩) (wpV (hP.sub (ws' := [oX7 t_h t_a rd_h now_h sp_h wy_h gp_h ch_h sb_h, oX6 wy_h wy_a wy_windows wy_goal wy_otherFrom wy_otherTo wy_least, arI G (wy_a 1) 12 wy_links]) [0, 7, 8] rfl) (hD.sub (ws' := [oX7 t_h t_a rd_h now_h sp_h wy_h gp_h ch_h sb_h, oX6 wy_h wy_a wy_windows wy_goal wy_otherFrom wy_otherTo wy_least, arI G (wy_a 1) 12 wy_links]) [0, 7, 8] (by decide) rfl) hK (ci := 7) (q0 := 0) rfl rfl) rfl rfl hl.1 rfl (lv_room (Nat.le_of_ble_eq_true rfl)) dX7_brace_79 ⟨Nat.zero_le _, Nat.zero_le _⟩) hS hA hP hD [0, 7, 8] rfl rfl (fun H locs hP hD hS => ?_)
          have hP : va_P G.1 vwCl [oX7 t_h t_a rd_h now_h sp_h wy_h gp_h ch_h sb_h, oX1 now_h now_a now_windows now_washes now_damp now_heard now_lines now_hour now_strings, arI G (now_a 7) 12 now_cans, arI G (now_a 8) 8 now_washPairs, arI G (now_a 9) 8 now_washHours, arI G (now_a 10) 21 now_pairs, arI G (now_a 11) 21 now_knots, oX6 wy_h wy_a wy_windows wy_goal wy_otherFrom wy_otherTo wy_least, arI G (wy_a 1) 12 wy_links_13, arI G (wy_a 2) 144 wy_prices] H := hP
          have hD : va_D A [oX7 t_h t_a rd_h now_h sp_h wy_h gp_h ch_h sb_h, oX1 now_h now_a now_windows now_washes now_damp now_heard now_lines now_hour now_strings, arI G (now_a 7) 12 now_cans, arI G (now_a 8) 8 now_washPairs, arI G (now_a 9) 8 now_washHours, arI G (now_a 10) 21 now_pairs, arI G (now_a 11) 21 now_knots, oX6 wy_h wy_a wy_windows wy_goal wy_otherFrom wy_otherTo wy_least, arI G (wy_a 1) 12 wy_links_13, arI G (wy_a 2) 144 wy_prices] := hD
          refine lv_istore (lv' := [(6, .int r_14), (5, .int r_8), (0, .ref t_h), (1, .int l1), (2, .int l2), (3, .int l3), (4, .int l4)]) hx hb dX7_brace_82 hl (by decide) rfl (fun ls hl => ?_)
          refine lv_iload_n hx hb dX7_brace_84 rfl (lv_at hl 3 rfl) ?_
          refine lv_iconst (v := (-1)) hx hb dX7_brace_85 (by decide) ?_
          refine jn_el hf (fun k_17 ek_17 hf => ?_)
          have J126 : ∀ (z_16 : Int32) (H : Heap) (locs : List Loc) (ls : Array Slot), va_P G.1 vwCl [oX7 t_h t_a rd_h now_h sp_h wy_h gp_h ch_h sb_h, oX1 now_h now_a now_windows now_washes now_damp now_heard now_lines now_hour now_strings, arI G (now_a 7) 12 now_cans, arI G (now_a 8) 8 now_washPairs, arI G (now_a 9) 8 now_washHours, arI G (now_a 10) 21 now_pairs, arI G (now_a 11) 21 now_knots, oX6 wy_h wy_a wy_windows wy_goal wy_otherFrom wy_otherTo wy_least, arI G (wy_a 1) 12 wy_links_13, arI G (wy_a 2) 144 wy_prices] H → va_D A [oX7 t_h t_a rd_h now_h sp_h wy_h gp_h ch_h sb_h, oX1 now_h now_a now_windows now_washes now_damp now_heard now_lines now_hour now_strings, arI G (now_a 7) 12 now_cans, arI G (now_a 8) 8 now_washPairs, arI G (now_a 9) 8 now_washHours, arI G (now_a 10) 21 now_pairs, arI G (now_a 11) 21 now_knots, oX6 wy_h wy_a wy_windows wy_goal wy_otherFrom wy_otherTo wy_least, arI G (wy_a 1) 12 wy_links_13, arI G (wy_a 2) 144 wy_prices] → va_S A s.heap H locs → lv_has ls 8 [(0, .ref t_h), (1, .int l1), (2, .int l2), (3, .int l3), (4, .int l4), (5, .int r_8), (6, .int r_14)] → k_17 z_16 = some (r, o_wy_windows, o_wy_links, o_wy_prices) → W p l e ({ frames := 5, cells := 0, slots := 0, locals := 116 } : Room) s m args below meth c H locs 0 0 Q (F0 m 126 ls [.int z_16]) := by
            intro z_16 H locs ls hP hD hS hl hf
            rw [ek_17] at hf
            refine lv_istore (lv' := [(7, .int z_16), (0, .ref t_h), (1, .int l1), (2, .int l2), (3, .int l3), (4, .int l4), (5, .int r_8), (6, .int r_14)]) hx hb dX7_brace_126 hl (by decide) rfl (fun ls hl => ?_)
            refine lv_iload hx hb dX7_brace_128 (lv_at hl 0 rfl) ?_
            refine lv_if_eq (tgt := 139) hx hb dX7_brace_130 (by decide) (fun c_18 => ?_) (fun c_18 => ?_)
            · have hf := ip c_18 hf
              refine lv_iinc (v := (l4 + 1)) (lv' := [(4, .int (l4 + 1)), (7, .int z_16), (0, .ref t_h), (1, .int l1), (2, .int l2), (3, .int l3), (5, .int r_8), (6, .int r_14)]) hx hb dX7_brace_139 hl (k := 5) rfl (by rfl) (by decide) rfl (fun ls hl => ?_)
              refine lv_goto (tgt := 40) hx hb dX7_brace_142 (by decide) ?_
              exact ih _ _ _ _ _ _ _ hP hD hS (lv_sub hl [2, 3, 4, 5, 0] rfl) hf hX
            · have hf := iq c_18 hf
              refine lv_iload hx hb dX7_brace_133 (lv_at hl 6 rfl) ?_
              refine lv_istore_n (lv' := [(1, .int r_8), (7, .int z_16), (0, .ref t_h), (2, .int l2), (3, .int l3), (4, .int l4), (5, .int r_8), (6, .int r_14)]) hx hb dX7_brace_135 rfl hl (by decide) rfl (fun ls hl => ?_)
              refine lv_iload hx hb dX7_brace_136 (lv_at hl 7 rfl) ?_
              refine lv_istore_n (lv' := [(2, .int r_14), (1, .int r_8), (7, .int z_16), (0, .ref t_h), (3, .int l3), (4, .int l4), (5, .int r_8), (6, .int r_14)]) hx hb dX7_brace_138 rfl hl (by decide) rfl (fun ls hl => ?_)
              refine lv_iinc (v := (l4 + 1)) (lv' := [(4, .int (l4 + 1)), (2, .int r_14), (1, .int r_8), (7, .int z_16), (0, .ref t_h), (3, .int l3), (5, .int r_8), (6, .int r_14)]) hx hb dX7_brace_139 hl (k := 5) rfl (by rfl) (by decide) rfl (fun ls hl => ?_)
              refine lv_goto (tgt := 40) hx hb dX7_brace_142 (by decide) ?_
              exact ih _ _ _ _ _ _ _ hP hD hS (lv_sub hl [4, 2, 1, 5, 0] rfl) hf hX
          refine lv_icmp_eq (tgt := 121) hx hb dX7_brace_86 (by decide) (fun c_19 => ?_) (fun c_19 => ?_)
          · have hf := ip c_19 hf
            refine lv_iconst (v := 1) hx hb dX7_brace_121 (by decide) ?_
            refine lv_goto (tgt := 126) hx hb dX7_brace_122 (by decide) ?_
            exact J126 _ _ _ _ hP hD hS (lv_sub hl [2, 3, 4, 5, 6, 1, 0] rfl) hf
          · have hf := iq c_19 hf
            refine lv_iload hx hb dX7_brace_89 (lv_at hl 0 rfl) ?_
            refine lv_iload_n hx hb dX7_brace_91 rfl (lv_at hl 4 rfl) ?_
            refine lv_icmp_lt (tgt := 121) hx hb dX7_brace_92 (by decide) (fun c_20 => ?_) (fun c_20 => ?_)
            · have hf := ip c_20 hf
              refine lv_iconst (v := 1) hx hb dX7_brace_121 (by decide) ?_
              refine lv_goto (tgt := 126) hx hb dX7_brace_122 (by decide) ?_
              exact J126 _ _ _ _ hP hD hS (lv_sub hl [2, 3, 4, 5, 6, 1, 0] rfl) hf
            · have hf := iq c_20 hf
              refine lv_iload hx hb dX7_brace_95 (lv_at hl 0 rfl) ?_
              refine lv_iload_n hx hb dX7_brace_97 rfl (lv_at hl 4 rfl) ?_
              refine lv_icmp_ne (tgt := 125) hx hb dX7_brace_98 (by decide) (fun c_21 => ?_) (fun c_21 => ?_)
              · have hf := iq c_21 hf
                refine lv_iconst (v := 0) hx hb dX7_brace_125 (by decide) ?_
                exact J126 _ _ _ _ hP hD hS (lv_sub hl [2, 3, 4, 5, 6, 1, 0] rfl) hf
              · have hf := ip c_21 hf
                refine lv_aload_n hx hb dX7_brace_101 rfl (lv_at hl 2 rfl) ?_
                refine va_get (D := G.1) (ci := 7) (v := .ref now_h) (C := RX7) (T := TX7) (N := 10) hx hb hw inW7 hown hK.1 hP 0 rfl rfl 1 (by decide) (hw _ kw_1_20) (fun _ h9 => h9) rfl dX7_brace_102 ?_
                refine lv_iload hx hb dX7_brace_105 (lv_at hl 1 rfl) ?_
                obtain ⟨r_22, hc_23, hf⟩ := bd1_in hf
                refine rcI (va_runV (As := [.int r_8]) (rest := []) ⟨hx, hb, hml, hown, hw⟩ ((ctX1_lengthOf l G now_h now_a now_windows now_washes now_damp now_heard now_lines now_hour now_strings r_8 _ hc_23) _) (kV hw calX1_lengthOf kw_21_23 rfl rfl ⟨Nat.le_of_ble_eq_true rfl, Nat.le_of_ble_eq_true rfl⟩) (rpV (hP.sub (ws' := [oX1 now_h now_a now_windows now_washes now_damp now_heard now_lines now_hour now_strings]) [1] rfl) hK (ci := 1) (q0 := 0) rfl rfl) rfl rfl hl.1 rfl (lv_room (Nat.le_of_ble_eq_true rfl)) dX7_brace_107 ⟨Nat.zero_le _, Nat.zero_le _⟩) hS hA hP (fun H locs hP hS => ?_)
                refine lv_aload_n hx hb dX7_brace_110 rfl (lv_at hl 2 rfl) ?_
                refine va_get (D := G.1) (ci := 7) (v := .ref now_h) (C := RX7) (T := TX7) (N := 10) hx hb hw inW7 hown hK.1 hP 0 rfl rfl 1 (by decide) (hw _ kw_1_20) (fun _ h9 => h9) rfl dX7_brace_111 ?_
                refine lv_iload_n hx hb dX7_brace_114 rfl (lv_at hl 3 rfl) ?_
                obtain ⟨r_24, hc_25, hf⟩ := bd1_in hf
                refine rcI (va_runV (As := [.int l1]) (rest := [.int r_22]) ⟨hx, hb, hml, hown, hw⟩ ((ctX1_lengthOf l G now_h now_a now_windows now_washes now_damp now_heard now_lines now_hour now_strings l1 _ hc_25) _) (kV hw calX1_lengthOf kw_21_23 rfl rfl ⟨Nat.le_of_ble_eq_true rfl, Nat.le_of_ble_eq_true rfl⟩) (rpV (hP.sub (ws' := [oX1 now_h now_a now_windows now_washes now_damp now_heard now_lines now_hour now_strings]) [1] rfl) hK (ci := 1) (q0 := 0) rfl rfl) rfl rfl hl.1 rfl (lv_room (Nat.le_of_ble_eq_true rfl)) dX7_brace_115 ⟨Nat.zero_le _, Nat.zero_le _⟩) hS hA hP (fun H locs hP hS => ?_)
                refine lv_icmp_ge (tgt := 125) hx hb dX7_brace_118 (by decide) (fun c_26 => ?_) (fun c_26 => ?_)
                · have hf := ip c_26 hf
                  refine lv_iconst (v := 0) hx hb dX7_brace_125 (by decide) ?_
                  exact J126 _ _ _ _ hP hD hS (lv_sub hl [2, 3, 4, 5, 6, 1, 0] rfl) hf
                · have hf := iq c_26 hf
                  refine lv_iconst (v := 1) hx hb dX7_brace_121 (by decide) ?_
                  refine lv_goto (tgt := 126) hx hb dX7_brace_122 (by decide) ?_
                  exact J126 _ _ _ _ hP hD hS (lv_sub hl [2, 3, 4, 5, 6, 1, 0] rfl) hf
        · have hf := ip c_12 hf
          refine lv_goto (tgt := 139) hx hb dX7_brace_72 (by decide) ?_
          refine lv_iinc (v := (l4 + 1)) (lv' := [(4, .int (l4 + 1)), (5, .int r_8), (0, .ref t_h), (1, .int l1), (2, .int l2), (3, .int l3)]) hx hb dX7_brace_139 hl (k := 5) rfl (by rfl) (by decide) rfl (fun ls hl => ?_)
          refine lv_goto (tgt := 40) hx hb dX7_brace_142 (by decide) ?_
          exact ih _ _ _ _ _ _ _ hP hD hS (lv_sub hl [2, 3, 4, 5, 0] rfl) hf hX
  have L24 : ∀ (wy_windows : Int32) (wy_prices : Nat → Int32) (K : Int32 → (Nat → Int32) → Option (Int32 × Int32 × (Nat → Int32) × (Nat → Int32))) (n : Nat) (l1 : Int32) (l2 : Int32) (l3 : Int32) (wy_links : Nat → Int32) (H : Heap) (locs : List Loc) (ls : Array Slot), va_P G.1 vwCl [oX7 t_h t_a rd_h now_h sp_h wy_h gp_h ch_h sb_h, oX1 now_h now_a now_windows now_washes now_damp now_heard now_lines now_hour now_strings, arI G (now_a 7) 12 now_cans, arI G (now_a 8) 8 now_washPairs, arI G (now_a 9) 8 now_washHours, arI G (now_a 10) 21 now_pairs, arI G (now_a 11) 21 now_knots, oX6 wy_h wy_a wy_windows wy_goal wy_otherFrom wy_otherTo wy_least, arI G (wy_a 1) 12 wy_links, arI G (wy_a 2) 144 wy_prices] H → va_D A [oX7 t_h t_a rd_h now_h sp_h wy_h gp_h ch_h sb_h, oX1 now_h now_a now_windows now_washes now_damp now_heard now_lines now_hour now_strings, arI G (now_a 7) 12 now_cans, arI G (now_a 8) 8 now_washPairs, arI G (now_a 9) 8 now_washHours, arI G (now_a 10) 21 now_pairs, arI G (now_a 11) 21 now_knots, oX6 wy_h wy_a wy_windows wy_goal wy_otherFrom wy_otherTo wy_least, arI G (wy_a 1) 12 wy_links, arI G (wy_a 2) 144 wy_prices] → va_S A s.heap H locs → lv_has ls 8 [(0, .ref t_h), (1, .int l1), (2, .int l2), (3, .int l3)] → fX7_brace_24 now_windows now_washes now_hour now_strings now_cans now_washPairs now_washHours now_pairs wy_windows K n l1 l2 l3 wy_links = some (r, o_wy_windows, o_wy_links, o_wy_prices) → (∀ (k1 : Int32) (kwy_links : Nat → Int32) (H : Heap) (locs : List Loc) (ls : Array Slot), va_P G.1 vwCl [oX7 t_h t_a rd_h now_h sp_h wy_h gp_h ch_h sb_h, oX1 now_h now_a now_windows now_washes now_damp now_heard now_lines now_hour now_strings, arI G (now_a 7) 12 now_cans, arI G (now_a 8) 8 now_washPairs, arI G (now_a 9) 8 now_washHours, arI G (now_a 10) 21 now_pairs, arI G (now_a 11) 21 now_knots, oX6 wy_h wy_a wy_windows wy_goal wy_otherFrom wy_otherTo wy_least, arI G (wy_a 1) 12 kwy_links, arI G (wy_a 2) 144 wy_prices] H → va_D A [oX7 t_h t_a rd_h now_h sp_h wy_h gp_h ch_h sb_h, oX1 now_h now_a now_windows now_washes now_damp now_heard now_lines now_hour now_strings, arI G (now_a 7) 12 now_cans, arI G (now_a 8) 8 now_washPairs, arI G (now_a 9) 8 now_washHours, arI G (now_a 10) 21 now_pairs, arI G (now_a 11) 21 now_knots, oX6 wy_h wy_a wy_windows wy_goal wy_otherFrom wy_otherTo wy_least, arI G (wy_a 1) 12 kwy_links, arI G (wy_a 2) 144 wy_prices] → va_S A s.heap H locs → lv_has ls 8 [(1, .int k1)] → K k1 kwy_links = some (r, o_wy_windows, o_wy_links, o_wy_prices) → W p l e ({ frames := 5, cells := 0, slots := 0, locals := 116 } : Room) s m args below meth c H locs 0 0 Q (F0 m 151 ls [])) → W p l e ({ frames := 5, cells := 0, slots := 0, locals := 116 } : Room) s m args below meth c H locs 0 0 Q (F0 m 24 ls []) := by
    intro wy_windows wy_prices K n
    induction n with
    | zero => intro l1 l2 l3 wy_links H locs ls hP hD hS hl hf; rw [fX7_brace_24] at hf; cases hf
    | succ n ih =>
      intro l1 l2 l3 wy_links H locs ls hP hD hS hl hf hX
      rw [fX7_brace_24] at hf
      refine lv_iload_n hx hb dX7_brace_24 rfl (lv_at hl 3 rfl) ?_
      refine lv_aload_n hx hb dX7_brace_25 rfl (lv_at hl 0 rfl) ?_
      refine va_get (D := G.1) (ci := 7) (v := .ref now_h) (C := RX7) (T := TX7) (N := 10) hx hb hw inW7 hown hK.1 hP 0 rfl rfl 1 (by decide) (hw _ kw_1_20) (fun _ h9 => h9) rfl dX7_brace_26 ?_
      refine va_getN (D := G.1) (ci := 1) (v := .int now_windows) (C := RX1) (T := TX1) (N := 12) hx hb hw inW1 hown hK.1 hP 1 rfl rfl 0 (by decide) ((nf_6 hK.2).use rfl) (fun _ h9 => h9) rfl dX7_brace_29 ?_
      refine lv_icmp_ge (tgt := 151) hx hb dX7_brace_32 (by decide) (fun c_5 => ?_) (fun c_5 => ?_)
      · have hf := ip c_5 hf
        exact hX _ _ _ _ _ hP hD hS (lv_sub hl [1] rfl) hf
      · have hf := iq c_5 hf
        refine lv_iload_n hx hb dX7_brace_35 rfl (lv_at hl 3 rfl) ?_
        refine lv_iconst (v := 1) hx hb dX7_brace_36 (by decide) ?_
        refine lv_iadd hx hb dX7_brace_37 ?_
        refine lv_topi (fun y_6 ey_6 => ?_)
        have hf := bnd_all hf y_6 ey_6
        refine lv_istore (lv' := [(4, .int y_6), (0, .ref t_h), (1, .int l1), (2, .int l2), (3, .int l3)]) hx hb dX7_brace_38 hl (by decide) rfl (fun ls hl => ?_)
        refine L40 _ _ _ _ _ _ _ _ _ _ _ _ hP hD hS (lv_sub hl [1, 2, 3, 4, 0] rfl) hf (fun w_27 w_28 wy_links_29 H locs ls hP hD hS hl hf => ?_)
        refine lv_iinc (v := (l3 + 1)) (lv' := [(3, .int (l3 + 1)), (0, .ref t_h), (1, .int w_27), (2, .int w_28)]) hx hb dX7_brace_145 hl (k := 3) rfl (by rfl) (by decide) rfl (fun ls hl => ?_)
        refine lv_goto (tgt := 24) hx hb dX7_brace_148 (by decide) ?_
        exact ih _ _ _ _ _ _ _ hP hD hS (lv_sub hl [1, 2, 3, 0] rfl) hf hX
  unfold fX7_brace at hf
  refine lv_aload_n hx hb dX7_brace_0 rfl (lv_at hl 0 rfl) ?_
  refine va_get (D := G.1) (ci := 7) (v := .ref wy_h) (C := RX7) (T := TX7) (N := 10) hx hb hw inW7 hown hK.1 hP 0 rfl rfl 3 (by decide) (hw _ kw_2_1) (fun _ h9 => h9) rfl dX7_brace_1 ?_
  refine lv_aload_n hx hb dX7_brace_4 rfl (lv_at hl 0 rfl) ?_
  refine va_get (D := G.1) (ci := 7) (v := .ref now_h) (C := RX7) (T := TX7) (N := 10) hx hb hw inW7 hown hK.1 hP 0 rfl rfl 1 (by decide) (hw _ kw_1_20) (fun _ h9 => h9) rfl dX7_brace_5 ?_
  refine lv_aload_n hx hb dX7_brace_8 rfl (lv_at hl 0 rfl) ?_
  refine va_get (D := G.1) (ci := 7) (v := .ref now_h) (C := RX7) (T := TX7) (N := 10) hx hb hw inW7 hown hK.1 hP 0 rfl rfl 1 (by decide) (hw _ kw_1_20) (fun _ h9 => h9) rfl dX7_brace_9 ?_
  refine va_getN (D := G.1) (ci := 1) (v := .int now_hour) (C := RX1) (T := TX1) (N := 12) hx hb hw inW1 hown hK.1 hP 1 rfl rfl 5 (by decide) ((nf_16 hK.2).use rfl) (fun _ h9 => h9) rfl dX7_brace_12 ?_
  obtain ⟨wy_windows_1, wy_links_2, wy_prices_3, hc_4, hf⟩ := bd3_in hf
  refine wcV (w1 := [oX6 wy_h wy_a wy_windows_1 wy_goal wy_otherFrom wy_otherTo wy_least, arI G (wy_a 1) 12 wy_links_2, arI G (wy_a 2) 144 wy_prices_3, oX1 now_h now_a now_windows now_washes now_damp now_heard now_lines now_hour now_strings, arI G (now_a 8) 8 now_washPairs, arI G (now_a 9) 8 now_washHours, arI G (now_a 10) 21 now_pairs, arI G (now_a 11) 21 now_knots]) (va_runV (As := [.ref now_h, .int now_hour]) (rest := []) ⟨hx, hb, hml, hown, hw⟩ ((ctX6_takeStrings l G wy_h wy_a now_h now_a wy_windows wy_links wy_prices wy_goal wy_otherFrom wy_otherTo wy_least now_windows now_washes now_damp now_heard now_lines now_hour now_strings now_washPairs now_washHours now_pairs now_knots now_hour _ _ _ hc_4) _) (kV hw calX6_takeStrings kw_18_10 rfl rfl ⟨Nat.le_of_ble_eq_true rfl, Nat.le_of_ble_eq_true rfl⟩) (wpV (hP.sub (ws' := [oX6 wy_h wy_a wy_windows wy_goal wy_otherFrom wy_otherTo wy_least, arI G (wy_a 1) 12 wy_links, arI G (wy_a 2) 144 wy_prices, oX1 now_h now_a now_windows now_washes now_damp now_heard now_lines now_hour now_strings, arI G (now_a 8) 8 now_washPairs, arI G (now_a 9) 8 now_washHours, arI G (now_a 10) 21 now_pairs, arI G (now_a 11) 21 now_knots]) [7, 8, 9, 1, 3, 4, 5, 6] rfl) (hD.sub (ws' := [oX6 wy_h wy_a wy_windows wy_goal wy_otherFrom wy_otherTo wy_least, arI G (wy_a 1) 12 wy_links, arI G (wy_a 2) 144 wy_prices, oX1 now_h now_a now_windows now_washes now_damp now_heard now_lines now_hour now_strings, arI G (now_a 8) 8 now_washPairs, arI G (now_a 9) 8 now_washHours, arI G (now_a 10) 21 now_pairs, arI G (now_a 11) 21 now_knots]) [7, 8, 9, 1, 3, 4, 5, 6] (by decide) rfl) hK (ci := 6) (q0 := 0) rfl rfl) rfl rfl hl.1 rfl (lv_room (Nat.le_of_ble_eq_true rfl)) dX7_brace_15 ⟨Nat.zero_le _, Nat.zero_le _⟩) hS hA hP hD [7, 8, 9, 1, 3, 4, 5, 6] rfl rfl (fun H locs hP hD hS => ?_)
  have hP : va_P G.1 vwCl [oX7 t_h t_a rd_h now_h sp_h wy_h gp_h ch_h sb_h, oX1 now_h now_a now_windows now_washes now_damp now_heard now_lines now_hour now_strings, arI G (now_a 7) 12 now_cans, arI G (now_a 8) 8 now_washPairs, arI G (now_a 9) 8 now_washHours, arI G (now_a 10) 21 now_pairs, arI G (now_a 11) 21 now_knots, oX6 wy_h wy_a wy_windows_1 wy_goal wy_otherFrom wy_otherTo wy_least, arI G (wy_a 1) 12 wy_links_2, arI G (wy_a 2) 144 wy_prices_3] H := hP
  have hD : va_D A [oX7 t_h t_a rd_h now_h sp_h wy_h gp_h ch_h sb_h, oX1 now_h now_a now_windows now_washes now_damp now_heard now_lines now_hour now_strings, arI G (now_a 7) 12 now_cans, arI G (now_a 8) 8 now_washPairs, arI G (now_a 9) 8 now_washHours, arI G (now_a 10) 21 now_pairs, arI G (now_a 11) 21 now_knots, oX6 wy_h wy_a wy_windows_1 wy_goal wy_otherFrom wy_otherTo wy_least, arI G (wy_a 1) 12 wy_links_2, arI G (wy_a 2) 144 wy_prices_3] := hD
  refine lv_iconst (v := (-1)) hx hb dX7_brace_18 (by decide) ?_
  refine lv_istore_n (lv' := [(1, .int (-1)), (0, .ref t_h)]) hx hb dX7_brace_19 rfl hl (by decide) rfl (fun ls hl => ?_)
  refine lv_iconst (v := 0) hx hb dX7_brace_20 (by decide) ?_
  refine lv_istore_n (lv' := [(2, .int 0), (1, .int (-1)), (0, .ref t_h)]) hx hb dX7_brace_21 rfl hl (by decide) rfl (fun ls hl => ?_)
  refine lv_iconst (v := 0) hx hb dX7_brace_22 (by decide) ?_
  refine lv_istore_n (lv' := [(3, .int 0), (2, .int 0), (1, .int (-1)), (0, .ref t_h)]) hx hb dX7_brace_23 rfl hl (by decide) rfl (fun ls hl => ?_)
  refine L24 _ _ _ _ _ _ _ _ _ _ _ hP hD hS (lv_sub hl [3, 2, 1, 0] rfl) hf (fun w_30 wy_links_31 H locs ls hP hD hS hl hf => ?_)
  refine lv_iload_n hx hb dX7_brace_151 rfl (lv_at hl 0 rfl) ?_
  exact hRet _ _ _ _ _ _ _ _ hf hP hS dX7_brace_152
theorem calX7_endsOf : CalS yX7_endsOf cX7_endsOf 1 (some .int) 1 := ⟨⟨kw_36_4, kw_1_2, by decide +kernel⟩, kw_36_3⟩
set_option maxHeartbeats 8000000 in
set_option maxRecDepth 100000 in
theorem ctX7_endsOf (l : Launch) (G : GT) (v0 : Int32) (r : Int32) (hf : fX7_endsOf v0 = some r) : RdI l yX7_endsOf (Cond.code yX7_endsOf cX7_endsOf 1 (some .int)) { frames := 1, cells := 0, slots := 0, locals := 20 } G [.int v0] [] r := by
  intro sz
  refine Met.ofW (cc := cX7_endsOf) (maxL := 1) (ret := (some .int)) (by decide) rfl ?_
  intro p e s m args below meth c s₁ B hml hv
  obtain ⟨hargs, hsz, hP, hK⟩ := hv
  subst hsz
  obtain ⟨hx, hb, hr, hw, hown, hlk⟩ := fwB B
  refine fw_enter hargs (Nat.le_of_ble_eq_true rfl) (fun ls hl => ?_)
  have hl : lv_has ls 1 [(0, .int v0)] := hl
  refine fw_Q (P := fun Q => ∃ A : Nat → Prop, va_S A s.heap s.heap [] ∧ (∀ q, s.heap.size ≤ q → A q) ∧ ∀ (v : Int32) (H : Heap) (locs : List Loc) (pc : Nat) (ls : Array Slot), some v = some r → va_S A s.heap H locs → decode cX7_endsOf pc = .ok (.ireturn, 1) → W p l e ({ frames := 1, cells := 0, slots := 0, locals := 20 } : Room) s m args below meth c H locs 0 0 Q (F0 m pc ls [.int v])) ⟨fun q => s.heap.size ≤ q, va_S.rf, fun q h => h, fun v H locs pc ls h hS hd => retRI hx hb hr hlk hS h hd⟩ ?_
  rintro Q ⟨A, hS, hA, hRet⟩
  change W p l e ({ frames := 1, cells := 0, slots := 0, locals := 20 } : Room) s m args below meth c _ _ 0 0 Q _
  unfold fX7_endsOf at hf
  refine lv_iconst (v := 1) hx hb dX7_endsOf_0 (by decide) ?_
  refine lv_iload_n hx hb dX7_endsOf_1 rfl (lv_at hl 0 rfl) ?_
  obtain ⟨r_1, hc_2, hf⟩ := bd1_in hf
  refine rcI (va_runS (As := [.int v0]) (rest := [.int 1]) ⟨hx, hb, hml, hown, hw⟩ ((ctX7_lesser l G v0 _ hc_2) _) (kS hw calX7_lesser kw_13_10 rfl rfl ⟨Nat.le_of_ble_eq_true rfl, Nat.le_of_ble_eq_true rfl⟩) (rpS (hP.sub (ws' := []) [] rfl) hK) rfl rfl hl.1 rfl (lv_room (Nat.le_of_ble_eq_true rfl)) dX7_endsOf_2 ⟨Nat.zero_le _, Nat.zero_le _⟩) hS hA hP (fun H locs hP hS => ?_)
  refine lv_ishl hx hb dX7_endsOf_5 ?_
  refine lv_iconst (v := 1) hx hb dX7_endsOf_6 (by decide) ?_
  refine lv_iload_n hx hb dX7_endsOf_7 rfl (lv_at hl 0 rfl) ?_
  obtain ⟨r_3, hc_4, hf⟩ := bd1_in hf
  refine rcI (va_runS (As := [.int v0]) (rest := [.int 1, .int ((1 : Int32) <<< (r_1 &&& 31))]) ⟨hx, hb, hml, hown, hw⟩ ((ctX7_greater l G v0 _ hc_4) _) (kS hw calX7_greater kw_13_11 rfl rfl ⟨Nat.le_of_ble_eq_true rfl, Nat.le_of_ble_eq_true rfl⟩) (rpS (hP.sub (ws' := []) [] rfl) hK) rfl rfl hl.1 rfl (lv_room (Nat.le_of_ble_eq_true rfl)) dX7_endsOf_8 ⟨Nat.zero_le _, Nat.zero_le _⟩) hS hA hP (fun H locs hP hS => ?_)
  refine lv_ishl hx hb dX7_endsOf_11 ?_
  refine lv_ior hx hb dX7_endsOf_12 ?_
  exact hRet _ _ _ _ _ hf hS dX7_endsOf_13
theorem calX7_lossWithoutKnots : CalV yX7_lossWithoutKnots cX7_lossWithoutKnots 6 (some .int) 3 := ⟨⟨kw_37_10, kw_1_2, by decide +kernel⟩, kw_37_8, kw_37_9⟩
set_option maxHeartbeats 8000000 in
set_option maxRecDepth 100000 in
theorem ctX7_lossWithoutKnots (l : Launch) (G : GT) (t_h : Nat) (t_a : Nat → Nat) (now_h : Nat) (now_a : Nat → Nat) (wy_h : Nat) (wy_a : Nat → Nat) (rd_h : Nat) (sp_h : Nat) (gp_h : Nat) (ch_h : Nat) (sb_h : Nat) (now_windows : Int32) (now_washes : Int32) (now_damp : Int32) (now_heard : Int32) (now_lines : Int32) (now_hour : Int32) (now_strings : Int32) (now_pairs : Nat → Int32) (now_knots : Nat → Int32) (wy_windows : Int32) (wy_links : Nat → Int32) (wy_prices : Nat → Int32) (wy_rest : Nat → Int32) (wy_goal : Int32) (wy_otherFrom : Int32) (wy_otherTo : Int32) (wy_least : Int32) (v1 : Int32) (v2 : Int32) (v3 : Int32) (r : Int32) (o_wy_prices : Nat → Int32) (o_wy_rest : Nat → Int32) (hf : fX7_lossWithoutKnots now_windows now_damp now_pairs now_knots wy_windows wy_links wy_prices wy_rest v1 v2 v3 = some (r, o_wy_prices, o_wy_rest)) : WrI l yX7_lossWithoutKnots (Cond.code yX7_lossWithoutKnots cX7_lossWithoutKnots 6 (some .int)) { frames := 4, cells := 0, slots := 0, locals := 84 } G [.ref t_h, .int v1, .int v2, .int v3] [oX7 t_h t_a rd_h now_h sp_h wy_h gp_h ch_h sb_h, oX1 now_h now_a now_windows now_washes now_damp now_heard now_lines now_hour now_strings, arI G (now_a 10) 21 now_pairs, arI G (now_a 11) 21 now_knots, oX6 wy_h wy_a wy_windows wy_goal wy_otherFrom wy_otherTo wy_least, arI G (wy_a 1) 12 wy_links, arI G (wy_a 2) 144 wy_prices, arI G (wy_a 3) 12 wy_rest] [oX7 t_h t_a rd_h now_h sp_h wy_h gp_h ch_h sb_h, oX1 now_h now_a now_windows now_washes now_damp now_heard now_lines now_hour now_strings, arI G (now_a 10) 21 now_pairs, arI G (now_a 11) 21 now_knots, oX6 wy_h wy_a wy_windows wy_goal wy_otherFrom wy_otherTo wy_least, arI G (wy_a 1) 12 wy_links, arI G (wy_a 2) 144 o_wy_prices, arI G (wy_a 3) 12 o_wy_rest] r := by
  intro sz
  refine Met.ofW (cc := cX7_lossWithoutKnots) (maxL := 6) (ret := (some .int)) (by decide) rfl ?_
  intro p e s m args below meth c s₁ B hml hv
  obtain ⟨hargs, hsz, hP, hD0, hK⟩ := hv
  subst hsz
  obtain ⟨hx, hb, hr, hw, hown, hlk⟩ := fwB B
  refine fw_enter hargs (Nat.le_of_ble_eq_true rfl) (fun ls hl => ?_)
  have hl : lv_has ls 6 [(0, .ref t_h), (1, .int v1), (2, .int v2), (3, .int v3)] := hl
  refine fw_Q (P := fun Q => ∃ A : Nat → Prop, va_D A [oX7 t_h t_a rd_h now_h sp_h wy_h gp_h ch_h sb_h, oX1 now_h now_a now_windows now_washes now_damp now_heard now_lines now_hour now_strings, arI G (now_a 10) 21 now_pairs, arI G (now_a 11) 21 now_knots, oX6 wy_h wy_a wy_windows wy_goal wy_otherFrom wy_otherTo wy_least, arI G (wy_a 1) 12 wy_links, arI G (wy_a 2) 144 wy_prices, arI G (wy_a 3) 12 wy_rest] ∧ va_S A s.heap s.heap [] ∧ (∀ q, s.heap.size ≤ q → A q) ∧ ∀ (v : Int32) (n_wy_prices : Nat → Int32) (n_wy_rest : Nat → Int32) (H : Heap) (locs : List Loc) (pc : Nat) (ls : Array Slot), some (v, n_wy_prices, n_wy_rest) = some (r, o_wy_prices, o_wy_rest) → va_P G.1 vwCl [oX7 t_h t_a rd_h now_h sp_h wy_h gp_h ch_h sb_h, oX1 now_h now_a now_windows now_washes now_damp now_heard now_lines now_hour now_strings, arI G (now_a 10) 21 now_pairs, arI G (now_a 11) 21 now_knots, oX6 wy_h wy_a wy_windows wy_goal wy_otherFrom wy_otherTo wy_least, arI G (wy_a 1) 12 wy_links, arI G (wy_a 2) 144 n_wy_prices, arI G (wy_a 3) 12 n_wy_rest] H → va_S A s.heap H locs → decode cX7_lossWithoutKnots pc = .ok (.ireturn, 1) → W p l e ({ frames := 4, cells := 0, slots := 0, locals := 84 } : Room) s m args below meth c H locs 0 0 Q (F0 m pc ls [.int v])) ⟨va_A [oX7 t_h t_a rd_h now_h sp_h wy_h gp_h ch_h sb_h, oX1 now_h now_a now_windows now_washes now_damp now_heard now_lines now_hour now_strings, arI G (now_a 10) 21 now_pairs, arI G (now_a 11) 21 now_knots, oX6 wy_h wy_a wy_windows wy_goal wy_otherFrom wy_otherTo wy_least, arI G (wy_a 1) 12 wy_links, arI G (wy_a 2) 144 wy_prices, arI G (wy_a 3) 12 wy_rest] s.heap.size, hD0.self (sz := s.heap.size), va_S.rf, fun q h => Or.inr h, ?_⟩ ?_
  · intro v n_wy_prices n_wy_rest H locs pc ls h hP hS hd
    cases h
    exact retWI hx hb hr hlk hS hP rfl hd
  rintro Q ⟨A, hD, hS, hA, hRet⟩
  change W p l e ({ frames := 4, cells := 0, slots := 0, locals := 84 } : Room) s m args below meth c _ _ 0 0 Q _
  unfold fX7_lossWithoutKnots at hf
  refine lv_aload_n hx hb dX7_lossWithoutKnots_0 rfl (lv_at hl 0 rfl) ?_
  refine va_get (D := G.1) (ci := 7) (v := .ref now_h) (C := RX7) (T := TX7) (N := 10) hx hb hw inW7 hown hK.1 hP 0 rfl rfl 1 (by decide) (hw _ kw_1_20) (fun _ h9 => h9) rfl dX7_lossWithoutKnots_1 ?_
  refine va_getN (D := G.1) (ci := 1) (v := .ref (now_a 10)) (C := RX1) (T := TX1) (N := 12) hx hb hw inW1 hown hK.1 hP 1 rfl rfl 10 (by decide) ((nf_24 hK.2).use rfl) (fun _ h9 => h9) rfl dX7_lossWithoutKnots_4 ?_
  refine lv_iload_n hx hb dX7_lossWithoutKnots_7 rfl (lv_at hl 1 rfl) ?_
  obtain ⟨hi_2, hf⟩ := rdI_in hf
  refine va_iald hx hb hK.1 hP 2 0 rfl rfl hi_2 dX7_lossWithoutKnots_8 ?_
  refine lv_topi (fun x_1 ex_1 => ?_)
  have hf := hf x_1 ex_1
  obtain ⟨r_3, hc_4, hf⟩ := bd1_in hf
  refine rcI (va_runS (As := [.int x_1]) (rest := []) ⟨hx, hb, hml, hown, hw⟩ ((ctX7_lesser l G x_1 _ hc_4) _) (kS hw calX7_lesser kw_13_10 rfl rfl ⟨Nat.le_of_ble_eq_true rfl, Nat.le_of_ble_eq_true rfl⟩) (rpS (hP.sub (ws' := []) [] rfl) hK) rfl rfl hl.1 rfl (lv_room (Nat.le_of_ble_eq_true rfl)) dX7_lossWithoutKnots_9 ⟨Nat.zero_le _, Nat.zero_le _⟩) hS hA hP (fun H locs hP hS => ?_)
  refine lv_istore (lv' := [(4, .int r_3), (0, .ref t_h), (1, .int v1), (2, .int v2), (3, .int v3)]) hx hb dX7_lossWithoutKnots_12 hl (by decide) rfl (fun ls hl => ?_)
  refine lv_aload_n hx hb dX7_lossWithoutKnots_14 rfl (lv_at hl 1 rfl) ?_
  refine va_get (D := G.1) (ci := 7) (v := .ref now_h) (C := RX7) (T := TX7) (N := 10) hx hb hw inW7 hown hK.1 hP 0 rfl rfl 1 (by decide) (hw _ kw_1_20) (fun _ h9 => h9) rfl dX7_lossWithoutKnots_15 ?_
  refine va_getN (D := G.1) (ci := 1) (v := .ref (now_a 10)) (C := RX1) (T := TX1) (N := 12) hx hb hw inW1 hown hK.1 hP 1 rfl rfl 10 (by decide) ((nf_24 hK.2).use rfl) (fun _ h9 => h9) rfl dX7_lossWithoutKnots_18 ?_
  refine lv_iload_n hx hb dX7_lossWithoutKnots_21 rfl (lv_at hl 2 rfl) ?_
  obtain ⟨hi_6, hf⟩ := rdI_in hf
  refine va_iald hx hb hK.1 hP 2 0 rfl rfl hi_6 dX7_lossWithoutKnots_22 ?_
  refine lv_topi (fun x_5 ex_5 => ?_)
  have hf := hf x_5 ex_5
  obtain ⟨r_7, hc_8, hf⟩ := bd1_in hf
  refine rcI (va_runS (As := [.int x_5]) (rest := []) ⟨hx, hb, hml, hown, hw⟩ ((ctX7_greater l G x_5 _ hc_8) _) (kS hw calX7_greater kw_13_11 rfl rfl ⟨Nat.le_of_ble_eq_true rfl, Nat.le_of_ble_eq_true rfl⟩) (rpS (hP.sub (ws' := []) [] rfl) hK) rfl rfl hl.1 rfl (lv_room (Nat.le_of_ble_eq_true rfl)) dX7_lossWithoutKnots_23 ⟨Nat.zero_le _, Nat.zero_le _⟩) hS hA hP (fun H locs hP hS => ?_)
  refine lv_istore (lv' := [(5, .int r_7), (4, .int r_3), (0, .ref t_h), (1, .int v1), (2, .int v2), (3, .int v3)]) hx hb dX7_lossWithoutKnots_26 hl (by decide) rfl (fun ls hl => ?_)
  refine lv_aload_n hx hb dX7_lossWithoutKnots_28 rfl (lv_at hl 2 rfl) ?_
  refine va_get (D := G.1) (ci := 7) (v := .ref wy_h) (C := RX7) (T := TX7) (N := 10) hx hb hw inW7 hown hK.1 hP 0 rfl rfl 3 (by decide) (hw _ kw_2_1) (fun _ h9 => h9) rfl dX7_lossWithoutKnots_29 ?_
  refine lv_iload hx hb dX7_lossWithoutKnots_32 (lv_at hl 1 rfl) ?_
  refine lv_iload hx hb dX7_lossWithoutKnots_34 (lv_at hl 0 rfl) ?_
  refine lv_aload_n hx hb dX7_lossWithoutKnots_36 rfl (lv_at hl 2 rfl) ?_
  refine va_get (D := G.1) (ci := 7) (v := .ref now_h) (C := RX7) (T := TX7) (N := 10) hx hb hw inW7 hown hK.1 hP 0 rfl rfl 1 (by decide) (hw _ kw_1_20) (fun _ h9 => h9) rfl dX7_lossWithoutKnots_37 ?_
  refine lv_aload_n hx hb dX7_lossWithoutKnots_40 rfl (lv_at hl 2 rfl) ?_
  refine va_get (D := G.1) (ci := 7) (v := .ref now_h) (C := RX7) (T := TX7) (N := 10) hx hb hw inW7 hown hK.1 hP 0 rfl rfl 1 (by decide) (hw _ kw_1_20) (fun _ h9 => h9) rfl dX7_lossWithoutKnots_41 ?_
  refine va_getN (D := G.1) (ci := 1) (v := .ref (now_a 10)) (C := RX1) (T := TX1) (N := 12) hx hb hw inW1 hown hK.1 hP 1 rfl rfl 10 (by decide) ((nf_24 hK.2).use rfl) (fun _ h9 => h9) rfl dX7_lossWithoutKnots_44 ?_
  refine lv_iload_n hx hb dX7_lossWithoutKnots_47 rfl (lv_at hl 3 rfl) ?_
  obtain ⟨hi_10, hf⟩ := rdI_in hf
  refine va_iald hx hb hK.1 hP 2 0 rfl rfl hi_10 dX7_lossWithoutKnots_48 ?_
  refine lv_topi (fun x_9 ex_9 => ?_)
  have hf := hf x_9 ex_9
  obtain ⟨r_11, hc_12, hf⟩ := bd1_in hf
  refine rcI (va_runV (As := [.int x_9]) (rest := [.int r_7, .int r_3, .ref wy_h]) ⟨hx, hb, hml, hown, hw⟩ ((ctX1_bareLoss l G now_h now_a now_windows now_washes now_damp now_heard now_lines now_hour now_strings x_9 _ hc_12) _) (kV hw calX1_bareLoss kw_22_0 rfl rfl ⟨Nat.le_of_ble_eq_true rfl, Nat.le_of_ble_eq_true rfl⟩) (rpV (hP.sub (ws' := [oX1 now_h now_a now_windows now_washes now_damp now_heard now_lines now_hour now_strings]) [1] rfl) hK (ci := 1) (q0 := 0) rfl rfl) rfl rfl hl.1 rfl (lv_room (Nat.le_of_ble_eq_true rfl)) dX7_lossWithoutKnots_49 ⟨Nat.zero_le _, Nat.zero_le _⟩) hS hA hP (fun H locs hP hS => ?_)
  obtain ⟨wy_prices_13, hc_14, hf⟩ := bd1_in hf
  refine wcV (w1 := [oX6 wy_h wy_a wy_windows wy_goal wy_otherFrom wy_otherTo wy_least, arI G (wy_a 2) 144 wy_prices_13]) (va_runV (As := [.int r_3, .int r_7, .int r_11]) (rest := []) ⟨hx, hb, hml, hown, hw⟩ ((ctX6_setLoss l G wy_h wy_a wy_windows wy_prices wy_goal wy_otherFrom wy_otherTo wy_least r_3 r_7 r_11 _ hc_14) _) (kV hw calX6_setLoss kw_37_11 rfl rfl ⟨Nat.le_of_ble_eq_true rfl, Nat.le_of_ble_eq_true rfl⟩) (wpV (hP.sub (ws' := [oX6 wy_h wy_a wy_windows wy_goal wy_otherFrom wy_otherTo wy_least, arI G (wy_a 2) 144 wy_prices]) [4, 6] rfl) (hD.sub (ws' := [oX6 wy_h wy_a wy_windows wy_goal wy_otherFrom wy_otherTo wy_least, arI G (wy_a 2) 144 wy_prices]) [4, 6] (by decide) rfl) hK (ci := 6) (q0 := 0) rfl rfl) rfl rfl hl.1 rfl (lv_room (Nat.le_of_ble_eq_true rfl)) dX7_lossWithoutKnots_52 ⟨Nat.zero_le _, Nat.zero_le _⟩) hS hA hP hD [4, 6] rfl rfl (fun H locs hP hD hS => ?_)
  have hP : va_P G.1 vwCl [oX7 t_h t_a rd_h now_h sp_h wy_h gp_h ch_h sb_h, oX1 now_h now_a now_windows now_washes now_damp now_heard now_lines now_hour now_strings, arI G (now_a 10) 21 now_pairs, arI G (now_a 11) 21 now_knots, oX6 wy_h wy_a wy_windows wy_goal wy_otherFrom wy_otherTo wy_least, arI G (wy_a 1) 12 wy_links, arI G (wy_a 2) 144 wy_prices_13, arI G (wy_a 3) 12 wy_rest] H := hP
  have hD : va_D A [oX7 t_h t_a rd_h now_h sp_h wy_h gp_h ch_h sb_h, oX1 now_h now_a now_windows now_washes now_damp now_heard now_lines now_hour now_strings, arI G (now_a 10) 21 now_pairs, arI G (now_a 11) 21 now_knots, oX6 wy_h wy_a wy_windows wy_goal wy_otherFrom wy_otherTo wy_least, arI G (wy_a 1) 12 wy_links, arI G (wy_a 2) 144 wy_prices_13, arI G (wy_a 3) 12 wy_rest] := hD
  refine lv_aload_n hx hb dX7_lossWithoutKnots_55 rfl (lv_at hl 2 rfl) ?_
  refine va_get (D := G.1) (ci := 7) (v := .ref wy_h) (C := RX7) (T := TX7) (N := 10) hx hb hw inW7 hown hK.1 hP 0 rfl rfl 3 (by decide) (hw _ kw_2_1) (fun _ h9 => h9) rfl dX7_lossWithoutKnots_56 ?_
  refine lv_iload_n hx hb dX7_lossWithoutKnots_59 rfl (lv_at hl 5 rfl) ?_
  refine lv_iconst (v := 0) hx hb dX7_lossWithoutKnots_60 (by decide) ?_
  obtain ⟨wy_rest_15, hc_16, hf⟩ := bd1_in hf
  refine wcV (w1 := [oX6 wy_h wy_a wy_windows wy_goal wy_otherFrom wy_otherTo wy_least, arI G (wy_a 1) 12 wy_links, arI G (wy_a 2) 144 wy_prices_13, arI G (wy_a 3) 12 wy_rest_15]) (va_runV (As := [.int v3, .int 0]) (rest := []) ⟨hx, hb, hml, hown, hw⟩ ((ctX6_measure l G wy_h wy_a wy_windows wy_links wy_prices_13 wy_rest wy_goal wy_otherFrom wy_otherTo wy_least v3 0 _ hc_16) _) (kV hw calX6_measure kw_28_1 rfl rfl ⟨Nat.le_of_ble_eq_true rfl, Nat.le_of_ble_eq_true rfl⟩) (wpV (hP.sub (ws' := [oX6 wy_h wy_a wy_windows wy_goal wy_otherFrom wy_otherTo wy_least, arI G (wy_a 1) 12 wy_links, arI G (wy_a 2) 144 wy_prices_13, arI G (wy_a 3) 12 wy_rest]) [4, 5, 6, 7] rfl) (hD.sub (ws' := [oX6 wy_h wy_a wy_windows wy_goal wy_otherFrom wy_otherTo wy_least, arI G (wy_a 1) 12 wy_links, arI G (wy_a 2) 144 wy_prices_13, arI G (wy_a 3) 12 wy_rest]) [4, 5, 6, 7] (by decide) rfl) hK (ci := 6) (q0 := 0) rfl rfl) rfl rfl hl.1 rfl (lv_room (Nat.le_of_ble_eq_true rfl)) dX7_lossWithoutKnots_61 ⟨Nat.zero_le _, Nat.zero_le _⟩) hS hA hP hD [4, 5, 6, 7] rfl rfl (fun H locs hP hD hS => ?_)
  have hP : va_P G.1 vwCl [oX7 t_h t_a rd_h now_h sp_h wy_h gp_h ch_h sb_h, oX1 now_h now_a now_windows now_washes now_damp now_heard now_lines now_hour now_strings, arI G (now_a 10) 21 now_pairs, arI G (now_a 11) 21 now_knots, oX6 wy_h wy_a wy_windows wy_goal wy_otherFrom wy_otherTo wy_least, arI G (wy_a 1) 12 wy_links, arI G (wy_a 2) 144 wy_prices_13, arI G (wy_a 3) 12 wy_rest_15] H := hP
  have hD : va_D A [oX7 t_h t_a rd_h now_h sp_h wy_h gp_h ch_h sb_h, oX1 now_h now_a now_windows now_washes now_damp now_heard now_lines now_hour now_strings, arI G (now_a 10) 21 now_pairs, arI G (now_a 11) 21 now_knots, oX6 wy_h wy_a wy_windows wy_goal wy_otherFrom wy_otherTo wy_least, arI G (wy_a 1) 12 wy_links, arI G (wy_a 2) 144 wy_prices_13, arI G (wy_a 3) 12 wy_rest_15] := hD
  refine lv_aload_n hx hb dX7_lossWithoutKnots_64 rfl (lv_at hl 2 rfl) ?_
  refine va_get (D := G.1) (ci := 7) (v := .ref wy_h) (C := RX7) (T := TX7) (N := 10) hx hb hw inW7 hown hK.1 hP 0 rfl rfl 3 (by decide) (hw _ kw_2_1) (fun _ h9 => h9) rfl dX7_lossWithoutKnots_65 ?_
  refine lv_iload hx hb dX7_lossWithoutKnots_68 (lv_at hl 1 rfl) ?_
  refine lv_iload hx hb dX7_lossWithoutKnots_70 (lv_at hl 0 rfl) ?_
  refine lv_aload_n hx hb dX7_lossWithoutKnots_72 rfl (lv_at hl 2 rfl) ?_
  refine va_get (D := G.1) (ci := 7) (v := .ref now_h) (C := RX7) (T := TX7) (N := 10) hx hb hw inW7 hown hK.1 hP 0 rfl rfl 1 (by decide) (hw _ kw_1_20) (fun _ h9 => h9) rfl dX7_lossWithoutKnots_73 ?_
  refine lv_iload_n hx hb dX7_lossWithoutKnots_76 rfl (lv_at hl 3 rfl) ?_
  obtain ⟨r_17, hc_18, hf⟩ := bd1_in hf
  refine rcI (va_runV (As := [.int v1]) (rest := [.int r_7, .int r_3, .ref wy_h]) ⟨hx, hb, hml, hown, hw⟩ ((ctX1_lossAt l G now_h now_a now_windows now_washes now_damp now_heard now_lines now_hour now_strings now_pairs now_knots v1 _ hc_18) _) (kV hw calX1_lossAt kw_22_1 rfl rfl ⟨Nat.le_of_ble_eq_true rfl, Nat.le_of_ble_eq_true rfl⟩) (rpV (hP.sub (ws' := [oX1 now_h now_a now_windows now_washes now_damp now_heard now_lines now_hour now_strings, arI G (now_a 10) 21 now_pairs, arI G (now_a 11) 21 now_knots]) [1, 2, 3] rfl) hK (ci := 1) (q0 := 0) rfl rfl) rfl rfl hl.1 rfl (lv_room (Nat.le_of_ble_eq_true rfl)) dX7_lossWithoutKnots_77 ⟨Nat.zero_le _, Nat.zero_le _⟩) hS hA hP (fun H locs hP hS => ?_)
  obtain ⟨wy_prices_19, hc_20, hf⟩ := bd1_in hf
  refine wcV (w1 := [oX6 wy_h wy_a wy_windows wy_goal wy_otherFrom wy_otherTo wy_least, arI G (wy_a 2) 144 wy_prices_19]) (va_runV (As := [.int r_3, .int r_7, .int r_17]) (rest := []) ⟨hx, hb, hml, hown, hw⟩ ((ctX6_setLoss l G wy_h wy_a wy_windows wy_prices_13 wy_goal wy_otherFrom wy_otherTo wy_least r_3 r_7 r_17 _ hc_20) _) (kV hw calX6_setLoss kw_37_11 rfl rfl ⟨Nat.le_of_ble_eq_true rfl, Nat.le_of_ble_eq_true rfl⟩) (wpV (hP.sub (ws' := [oX6 wy_h wy_a wy_windows wy_goal wy_otherFrom wy_otherTo wy_least, arI G (wy_a 2) 144 wy_prices_13]) [4, 6] rfl) (hD.sub (ws' := [oX6 wy_h wy_a wy_windows wy_goal wy_otherFrom wy_otherTo wy_least, arI G (wy_a 2) 144 wy_prices_13]) [4, 6] (by decide) rfl) hK (ci := 6) (q0 := 0) rfl rfl) rfl rfl hl.1 rfl (lv_room (Nat.le_of_ble_eq_true rfl)) dX7_lossWithoutKnots_80 ⟨Nat.zero_le _, Nat.zero_le _⟩) hS hA hP hD [4, 6] rfl rfl (fun H locs hP hD hS => ?_)
  have hP : va_P G.1 vwCl [oX7 t_h t_a rd_h now_h sp_h wy_h gp_h ch_h sb_h, oX1 now_h now_a now_windows now_washes now_damp now_heard now_lines now_hour now_strings, arI G (now_a 10) 21 now_pairs, arI G (now_a 11) 21 now_knots, oX6 wy_h wy_a wy_windows wy_goal wy_otherFrom wy_otherTo wy_least, arI G (wy_a 1) 12 wy_links, arI G (wy_a 2) 144 wy_prices_19, arI G (wy_a 3) 12 wy_rest_15] H := hP
  have hD : va_D A [oX7 t_h t_a rd_h now_h sp_h wy_h gp_h ch_h sb_h, oX1 now_h now_a now_windows now_washes now_damp now_heard now_lines now_hour now_strings, arI G (now_a 10) 21 now_pairs, arI G (now_a 11) 21 now_knots, oX6 wy_h wy_a wy_windows wy_goal wy_otherFrom wy_otherTo wy_least, arI G (wy_a 1) 12 wy_links, arI G (wy_a 2) 144 wy_prices_19, arI G (wy_a 3) 12 wy_rest_15] := hD
  refine lv_aload_n hx hb dX7_lossWithoutKnots_83 rfl (lv_at hl 2 rfl) ?_
  refine va_get (D := G.1) (ci := 7) (v := .ref wy_h) (C := RX7) (T := TX7) (N := 10) hx hb hw inW7 hown hK.1 hP 0 rfl rfl 3 (by decide) (hw _ kw_2_1) (fun _ h9 => h9) rfl dX7_lossWithoutKnots_84 ?_
  refine lv_iload_n hx hb dX7_lossWithoutKnots_87 rfl (lv_at hl 4 rfl) ?_
  obtain ⟨r_21, hc_22, hf⟩ := bd1_in hf
  refine rcI (va_runV (As := [.int v2]) (rest := []) ⟨hx, hb, hml, hown, hw⟩ ((ctX6_lossFrom l G wy_h wy_a wy_windows wy_rest_15 wy_goal wy_otherFrom wy_otherTo wy_least v2 _ hc_22) _) (kV hw calX6_lossFrom kw_28_19 rfl rfl ⟨Nat.le_of_ble_eq_true rfl, Nat.le_of_ble_eq_true rfl⟩) (rpV (hP.sub (ws' := [oX6 wy_h wy_a wy_windows wy_goal wy_otherFrom wy_otherTo wy_least, arI G (wy_a 3) 12 wy_rest_15]) [4, 7] rfl) hK (ci := 6) (q0 := 0) rfl rfl) rfl rfl hl.1 rfl (lv_room (Nat.le_of_ble_eq_true rfl)) dX7_lossWithoutKnots_88 ⟨Nat.zero_le _, Nat.zero_le _⟩) hS hA hP (fun H locs hP hS => ?_)
  exact hRet _ _ _ _ _ _ _ hf hP hS dX7_lossWithoutKnots_91
theorem calX7_renewed : CalV yX7_renewed cX7_renewed 10 (some .int) 2 := ⟨⟨kw_37_6, kw_1_2, by decide +kernel⟩, kw_37_4, kw_37_5⟩
set_option maxHeartbeats 8000000 in
set_option maxRecDepth 100000 in
theorem ctX7_renewed (l : Launch) (G : GT) (t_h : Nat) (t_a : Nat → Nat) (now_h : Nat) (now_a : Nat → Nat) (wy_h : Nat) (wy_a : Nat → Nat) (rd_h : Nat) (sp_h : Nat) (gp_h : Nat) (ch_h : Nat) (sb_h : Nat) (now_windows : Int32) (now_washes : Int32) (now_damp : Int32) (now_heard : Int32) (now_lines : Int32) (now_hour : Int32) (now_strings : Int32) (now_washPairs : Nat → Int32) (now_washHours : Nat → Int32) (now_pairs : Nat → Int32) (now_knots : Nat → Int32) (wy_windows : Int32) (wy_links : Nat → Int32) (wy_prices : Nat → Int32) (wy_rest : Nat → Int32) (wy_goal : Int32) (wy_otherFrom : Int32) (wy_otherTo : Int32) (wy_least : Int32) (v1 : Int32) (v2 : Int32) (r : Int32) (o_wy_windows : Int32) (o_wy_links : Nat → Int32) (o_wy_prices : Nat → Int32) (o_wy_rest : Nat → Int32) (hf : fX7_renewed now_windows now_washes now_damp now_hour now_strings now_washPairs now_washHours now_pairs now_knots wy_windows wy_links wy_prices wy_rest v1 v2 = some (r, o_wy_windows, o_wy_links, o_wy_prices, o_wy_rest)) : WrI l yX7_renewed (Cond.code yX7_renewed cX7_renewed 10 (some .int)) { frames := 5, cells := 0, slots := 0, locals := 109 } G [.ref t_h, .int v1, .int v2] [oX7 t_h t_a rd_h now_h sp_h wy_h gp_h ch_h sb_h, oX1 now_h now_a now_windows now_washes now_damp now_heard now_lines now_hour now_strings, arI G (now_a 8) 8 now_washPairs, arI G (now_a 9) 8 now_washHours, arI G (now_a 10) 21 now_pairs, arI G (now_a 11) 21 now_knots, oX6 wy_h wy_a wy_windows wy_goal wy_otherFrom wy_otherTo wy_least, arI G (wy_a 1) 12 wy_links, arI G (wy_a 2) 144 wy_prices, arI G (wy_a 3) 12 wy_rest] [oX7 t_h t_a rd_h now_h sp_h wy_h gp_h ch_h sb_h, oX1 now_h now_a now_windows now_washes now_damp now_heard now_lines now_hour now_strings, arI G (now_a 8) 8 now_washPairs, arI G (now_a 9) 8 now_washHours, arI G (now_a 10) 21 now_pairs, arI G (now_a 11) 21 now_knots, oX6 wy_h wy_a o_wy_windows wy_goal wy_otherFrom wy_otherTo wy_least, arI G (wy_a 1) 12 o_wy_links, arI G (wy_a 2) 144 o_wy_prices, arI G (wy_a 3) 12 o_wy_rest] r := by
  intro sz
  refine Met.ofW (cc := cX7_renewed) (maxL := 10) (ret := (some .int)) (by decide) rfl ?_
  intro p e s m args below meth c s₁ B hml hv
  obtain ⟨hargs, hsz, hP, hD0, hK⟩ := hv
  subst hsz
  obtain ⟨hx, hb, hr, hw, hown, hlk⟩ := fwB B
  refine fw_enter hargs (Nat.le_of_ble_eq_true rfl) (fun ls hl => ?_)
  have hl : lv_has ls 10 [(0, .ref t_h), (1, .int v1), (2, .int v2)] := hl
  refine fw_Q (P := fun Q => ∃ A : Nat → Prop, va_D A [oX7 t_h t_a rd_h now_h sp_h wy_h gp_h ch_h sb_h, oX1 now_h now_a now_windows now_washes now_damp now_heard now_lines now_hour now_strings, arI G (now_a 8) 8 now_washPairs, arI G (now_a 9) 8 now_washHours, arI G (now_a 10) 21 now_pairs, arI G (now_a 11) 21 now_knots, oX6 wy_h wy_a wy_windows wy_goal wy_otherFrom wy_otherTo wy_least, arI G (wy_a 1) 12 wy_links, arI G (wy_a 2) 144 wy_prices, arI G (wy_a 3) 12 wy_rest] ∧ va_S A s.heap s.heap [] ∧ (∀ q, s.heap.size ≤ q → A q) ∧ ∀ (v : Int32) (n_wy_windows : Int32) (n_wy_links : Nat → Int32) (n_wy_prices : Nat → Int32) (n_wy_rest : Nat → Int32) (H : Heap) (locs : List Loc) (pc : Nat) (ls : Array Slot), some (v, n_wy_windows, n_wy_links, n_wy_prices, n_wy_rest) = some (r, o_wy_windows, o_wy_links, o_wy_prices, o_wy_rest) → va_P G.1 vwCl [oX7 t_h t_a rd_h now_h sp_h wy_h gp_h ch_h sb_h, oX1 now_h now_a now_windows now_washes now_damp now_heard now_lines now_hour now_strings, arI G (now_a 8) 8 now_washPairs, arI G (now_a 9) 8 now_washHours, arI G (now_a 10) 21 now_pairs, arI G (now_a 11) 21 now_knots, oX6 wy_h wy_a n_wy_windows wy_goal wy_otherFrom wy_otherTo wy_least, arI G (wy_a 1) 12 n_wy_links, arI G (wy_a 2) 144 n_wy_prices, arI G (wy_a 3) 12 n_wy_rest] H → va_S A s.heap H locs → decode cX7_renewed pc = .ok (.ireturn, 1) → W p l e ({ frames := 5, cells := 0, slots := 0, locals := 109 } : Room) s m args below meth c H locs 0 0 Q (F0 m pc ls [.int v])) ⟨va_A [oX7 t_h t_a rd_h now_h sp_h wy_h gp_h ch_h sb_h, oX1 now_h now_a now_windows now_washes now_damp now_heard now_lines now_hour now_strings, arI G (now_a 8) 8 now_washPairs, arI G (now_a 9) 8 now_washHours, arI G (now_a 10) 21 now_pairs, arI G (now_a 11) 21 now_knots, oX6 wy_h wy_a wy_windows wy_goal wy_otherFrom wy_otherTo wy_least, arI G (wy_a 1) 12 wy_links, arI G (wy_a 2) 144 wy_prices, arI G (wy_a 3) 12 wy_rest] s.heap.size, hD0.self (sz := s.heap.size), va_S.rf, fun q h => Or.inr h, ?_⟩ ?_
  · intro v n_wy_windows n_wy_links n_wy_prices n_wy_rest H locs pc ls h hP hS hd
    cases h
    exact retWI hx hb hr hlk hS hP rfl hd
  rintro Q ⟨A, hD, hS, hA, hRet⟩
  change W p l e ({ frames := 5, cells := 0, slots := 0, locals := 109 } : Room) s m args below meth c _ _ 0 0 Q _
  have L91 : ∀ (l3 : Int32) (l4 : Int32) (l5 : Int32) (wy_windows : Int32) (wy_links : Nat → Int32) (K : Int32 → Int32 → (Nat → Int32) → (Nat → Int32) → Option (Int32 × Int32 × (Nat → Int32) × (Nat → Int32) × (Nat → Int32))) (n : Nat) (l6 : Int32) (l7 : Int32) (l8 : Int32) (wy_prices : Nat → Int32) (wy_rest : Nat → Int32) (H : Heap) (locs : List Loc) (ls : Array Slot), va_P G.1 vwCl [oX7 t_h t_a rd_h now_h sp_h wy_h gp_h ch_h sb_h, oX1 now_h now_a now_windows now_washes now_damp now_heard now_lines now_hour now_strings, arI G (now_a 8) 8 now_washPairs, arI G (now_a 9) 8 now_washHours, arI G (now_a 10) 21 now_pairs, arI G (now_a 11) 21 now_knots, oX6 wy_h wy_a wy_windows wy_goal wy_otherFrom wy_otherTo wy_least, arI G (wy_a 1) 12 wy_links, arI G (wy_a 2) 144 wy_prices, arI G (wy_a 3) 12 wy_rest] H → va_D A [oX7 t_h t_a rd_h now_h sp_h wy_h gp_h ch_h sb_h, oX1 now_h now_a now_windows now_washes now_damp now_heard now_lines now_hour now_strings, arI G (now_a 8) 8 now_washPairs, arI G (now_a 9) 8 now_washHours, arI G (now_a 10) 21 now_pairs, arI G (now_a 11) 21 now_knots, oX6 wy_h wy_a wy_windows wy_goal wy_otherFrom wy_otherTo wy_least, arI G (wy_a 1) 12 wy_links, arI G (wy_a 2) 144 wy_prices, arI G (wy_a 3) 12 wy_rest] → va_S A s.heap H locs → lv_has ls 10 [(0, .ref t_h), (2, .int v2), (3, .int l3), (4, .int l4), (5, .int l5), (6, .int l6), (7, .int l7), (8, .int l8)] → fX7_renewed_91 l3 l4 l5 now_windows now_damp now_strings now_pairs now_knots wy_windows wy_links K n l6 l7 l8 wy_prices wy_rest = some (r, o_wy_windows, o_wy_links, o_wy_prices, o_wy_rest) → (∀ (k6 : Int32) (k7 : Int32) (kwy_prices : Nat → Int32) (kwy_rest : Nat → Int32) (H : Heap) (locs : List Loc) (ls : Array Slot), va_P G.1 vwCl [oX7 t_h t_a rd_h now_h sp_h wy_h gp_h ch_h sb_h, oX1 now_h now_a now_windows now_washes now_damp now_heard now_lines now_hour now_strings, arI G (now_a 8) 8 now_washPairs, arI G (now_a 9) 8 now_washHours, arI G (now_a 10) 21 now_pairs, arI G (now_a 11) 21 now_knots, oX6 wy_h wy_a wy_windows wy_goal wy_otherFrom wy_otherTo wy_least, arI G (wy_a 1) 12 wy_links, arI G (wy_a 2) 144 kwy_prices, arI G (wy_a 3) 12 kwy_rest] H → va_D A [oX7 t_h t_a rd_h now_h sp_h wy_h gp_h ch_h sb_h, oX1 now_h now_a now_windows now_washes now_damp now_heard now_lines now_hour now_strings, arI G (now_a 8) 8 now_washPairs, arI G (now_a 9) 8 now_washHours, arI G (now_a 10) 21 now_pairs, arI G (now_a 11) 21 now_knots, oX6 wy_h wy_a wy_windows wy_goal wy_otherFrom wy_otherTo wy_least, arI G (wy_a 1) 12 wy_links, arI G (wy_a 2) 144 kwy_prices, arI G (wy_a 3) 12 kwy_rest] → va_S A s.heap H locs → lv_has ls 10 [(2, .int v2), (6, .int k6), (7, .int k7)] → K k6 k7 kwy_prices kwy_rest = some (r, o_wy_windows, o_wy_links, o_wy_prices, o_wy_rest) → W p l e ({ frames := 5, cells := 0, slots := 0, locals := 109 } : Room) s m args below meth c H locs 0 0 Q (F0 m 163 ls [])) → W p l e ({ frames := 5, cells := 0, slots := 0, locals := 109 } : Room) s m args below meth c H locs 0 0 Q (F0 m 91 ls []) := by
    intro l3 l4 l5 wy_windows wy_links K n
    induction n with
    | zero => intro l6 l7 l8 wy_prices wy_rest H locs ls hP hD hS hl hf; rw [fX7_renewed_91] at hf; cases hf
    | succ n ih =>
      intro l6 l7 l8 wy_prices wy_rest H locs ls hP hD hS hl hf hX
      rw [fX7_renewed_91] at hf
      refine lv_iload hx hb dX7_renewed_91 (lv_at hl 7 rfl) ?_
      refine lv_aload_n hx hb dX7_renewed_93 rfl (lv_at hl 0 rfl) ?_
      refine va_get (D := G.1) (ci := 7) (v := .ref now_h) (C := RX7) (T := TX7) (N := 10) hx hb hw inW7 hown hK.1 hP 0 rfl rfl 1 (by decide) (hw _ kw_1_20) (fun _ h9 => h9) rfl dX7_renewed_94 ?_
      refine va_getN (D := G.1) (ci := 1) (v := .int now_strings) (C := RX1) (T := TX1) (N := 12) hx hb hw inW1 hown hK.1 hP 1 rfl rfl 6 (by decide) ((nf_18 hK.2).use rfl) (fun _ h9 => h9) rfl dX7_renewed_97 ?_
      refine lv_icmp_ge (tgt := 163) hx hb dX7_renewed_100 (by decide) (fun c_19 => ?_) (fun c_19 => ?_)
      · have hf := ip c_19 hf
        exact hX _ _ _ _ _ _ _ hP hD hS (lv_sub hl [1, 5, 6] rfl) hf
      · have hf := iq c_19 hf
        refine lv_aload_n hx hb dX7_renewed_103 rfl (lv_at hl 0 rfl) ?_
        refine va_get (D := G.1) (ci := 7) (v := .ref now_h) (C := RX7) (T := TX7) (N := 10) hx hb hw inW7 hown hK.1 hP 0 rfl rfl 1 (by decide) (hw _ kw_1_20) (fun _ h9 => h9) rfl dX7_renewed_104 ?_
        refine va_getN (D := G.1) (ci := 1) (v := .ref (now_a 11)) (C := RX1) (T := TX1) (N := 12) hx hb hw inW1 hown hK.1 hP 1 rfl rfl 11 (by decide) ((nf_25 hK.2).use rfl) (fun _ h9 => h9) rfl dX7_renewed_107 ?_
        refine lv_iload hx hb dX7_renewed_110 (lv_at hl 7 rfl) ?_
        obtain ⟨hi_21, hf⟩ := rdI_in hf
        refine va_iald hx hb hK.1 hP 5 0 rfl rfl hi_21 dX7_renewed_112 ?_
        refine lv_topi (fun x_20 ex_20 => ?_)
        have hf := hf x_20 ex_20
        refine jn_el hf (fun k_25 ek_25 hf => ?_)
        have J132 : ∀ (z_22 : Int32) (wy_prices_23 : Nat → Int32) (wy_rest_24 : Nat → Int32) (H : Heap) (locs : List Loc) (ls : Array Slot), va_P G.1 vwCl [oX7 t_h t_a rd_h now_h sp_h wy_h gp_h ch_h sb_h, oX1 now_h now_a now_windows now_washes now_damp now_heard now_lines now_hour now_strings, arI G (now_a 8) 8 now_washPairs, arI G (now_a 9) 8 now_washHours, arI G (now_a 10) 21 now_pairs, arI G (now_a 11) 21 now_knots, oX6 wy_h wy_a wy_windows wy_goal wy_otherFrom wy_otherTo wy_least, arI G (wy_a 1) 12 wy_links, arI G (wy_a 2) 144 wy_prices_23, arI G (wy_a 3) 12 wy_rest_24] H → va_D A [oX7 t_h t_a rd_h now_h sp_h wy_h gp_h ch_h sb_h, oX1 now_h now_a now_windows now_washes now_damp now_heard now_lines now_hour now_strings, arI G (now_a 8) 8 now_washPairs, arI G (now_a 9) 8 now_washHours, arI G (now_a 10) 21 now_pairs, arI G (now_a 11) 21 now_knots, oX6 wy_h wy_a wy_windows wy_goal wy_otherFrom wy_otherTo wy_least, arI G (wy_a 1) 12 wy_links, arI G (wy_a 2) 144 wy_prices_23, arI G (wy_a 3) 12 wy_rest_24] → va_S A s.heap H locs → lv_has ls 10 [(0, .ref t_h), (2, .int v2), (3, .int l3), (4, .int l4), (5, .int l5), (6, .int l6), (7, .int l7), (8, .int l8)] → k_25 z_22 wy_prices_23 wy_rest_24 = some (r, o_wy_windows, o_wy_links, o_wy_prices, o_wy_rest) → W p l e ({ frames := 5, cells := 0, slots := 0, locals := 109 } : Room) s m args below meth c H locs 0 0 Q (F0 m 132 ls [.int z_22]) := by
          intro z_22 wy_prices_23 wy_rest_24 H locs ls hP hD hS hl hf
          rw [ek_25] at hf
          refine lv_istore (lv' := [(9, .int z_22), (0, .ref t_h), (2, .int v2), (3, .int l3), (4, .int l4), (5, .int l5), (6, .int l6), (7, .int l7), (8, .int l8)]) hx hb dX7_renewed_132 hl (by decide) rfl (fun ls hl => ?_)
          refine lv_iload hx hb dX7_renewed_134 (lv_at hl 0 rfl) ?_
          refine lv_iload hx hb dX7_renewed_136 (lv_at hl 6 rfl) ?_
          refine lv_icmp_le (tgt := 157) hx hb dX7_renewed_138 (by decide) (fun c_26 => ?_) (fun c_26 => ?_)
          · have hf := ip c_26 hf
            refine lv_iinc (v := (l8 + 1)) (lv' := [(8, .int (l8 + 1)), (9, .int z_22), (0, .ref t_h), (2, .int v2), (3, .int l3), (4, .int l4), (5, .int l5), (6, .int l6), (7, .int l7)]) hx hb dX7_renewed_157 hl (k := 8) rfl (by rfl) (by decide) rfl (fun ls hl => ?_)
            refine lv_goto (tgt := 91) hx hb dX7_renewed_160 (by decide) ?_
            exact ih _ _ _ _ _ _ _ _ hP hD hS (lv_sub hl [2, 3, 4, 5, 6, 7, 8, 0] rfl) hf hX
          · have hf := iq c_26 hf
            refine lv_iload hx hb dX7_renewed_141 (lv_at hl 0 rfl) ?_
            refine lv_istore (lv' := [(6, .int z_22), (9, .int z_22), (0, .ref t_h), (2, .int v2), (3, .int l3), (4, .int l4), (5, .int l5), (7, .int l7), (8, .int l8)]) hx hb dX7_renewed_143 hl (by decide) rfl (fun ls hl => ?_)
            refine lv_aload_n hx hb dX7_renewed_145 rfl (lv_at hl 2 rfl) ?_
            refine va_get (D := G.1) (ci := 7) (v := .ref now_h) (C := RX7) (T := TX7) (N := 10) hx hb hw inW7 hown hK.1 hP 0 rfl rfl 1 (by decide) (hw _ kw_1_20) (fun _ h9 => h9) rfl dX7_renewed_146 ?_
            refine va_getN (D := G.1) (ci := 1) (v := .ref (now_a 10)) (C := RX1) (T := TX1) (N := 12) hx hb hw inW1 hown hK.1 hP 1 rfl rfl 10 (by decide) ((nf_24 hK.2).use rfl) (fun _ h9 => h9) rfl dX7_renewed_149 ?_
            refine lv_iload hx hb dX7_renewed_152 (lv_at hl 8 rfl) ?_
            obtain ⟨hi_28, hf⟩ := rdI_in hf
            refine va_iald hx hb hK.1 hP 4 0 rfl rfl hi_28 dX7_renewed_154 ?_
            refine lv_topi (fun x_27 ex_27 => ?_)
            have hf := hf x_27 ex_27
            refine lv_istore (lv' := [(7, .int x_27), (6, .int z_22), (9, .int z_22), (0, .ref t_h), (2, .int v2), (3, .int l3), (4, .int l4), (5, .int l5), (8, .int l8)]) hx hb dX7_renewed_155 hl (by decide) rfl (fun ls hl => ?_)
            refine lv_iinc (v := (l8 + 1)) (lv' := [(8, .int (l8 + 1)), (7, .int x_27), (6, .int z_22), (9, .int z_22), (0, .ref t_h), (2, .int v2), (3, .int l3), (4, .int l4), (5, .int l5)]) hx hb dX7_renewed_157 hl (k := 8) rfl (by rfl) (by decide) rfl (fun ls hl => ?_)
            refine lv_goto (tgt := 91) hx hb dX7_renewed_160 (by decide) ?_
            exact ih _ _ _ _ _ _ _ _ hP hD hS (lv_sub hl [4, 5, 6, 7, 8, 2, 1, 0] rfl) hf hX
        refine lv_if_ne (tgt := 120) hx hb dX7_renewed_113 (by decide) (fun c_29 => ?_) (fun c_29 => ?_)
        · have hf := iq c_29 hf
          refine lv_iload hx hb dX7_renewed_120 (lv_at hl 4 rfl) ?_
          refine lv_aload_n hx hb dX7_renewed_122 rfl (lv_at hl 0 rfl) ?_
          refine lv_iload hx hb dX7_renewed_123 (lv_at hl 7 rfl) ?_
          refine lv_iload_n hx hb dX7_renewed_125 rfl (lv_at hl 2 rfl) ?_
          refine lv_iload hx hb dX7_renewed_126 (lv_at hl 3 rfl) ?_
          obtain ⟨r_32, wy_prices_30, wy_rest_31, hc_33, hf⟩ := bd3_in hf
          refine wcI (w1 := [oX7 t_h t_a rd_h now_h sp_h wy_h gp_h ch_h sb_h, oX1 now_h now_a now_windows now_washes now_damp now_heard now_lines now_hour now_strings, arI G (now_a 10) 21 now_pairs, arI G (now_a 11) 21 now_knots, oX6 wy_h wy_a wy_windows wy_goal wy_otherFrom wy_otherTo wy_least, arI G (wy_a 1) 12 wy_links, arI G (wy_a 2) 144 wy_prices_30, arI G (wy_a 3) 12 wy_rest_31]) (va_runV (As := [.int l8, .int l3, .int l4]) (rest := [.int l5]) ⟨hx, hb, hml, hown, hw⟩ ((ctX7_lossWithoutKnots l G t_h t_a now_h now_a wy_h wy_a rd_h sp_h gp_h ch_h sb_h now_windows now_washes now_damp now_heard now_lines now_hour now_strings now_pairs now_knots wy_windows wy_links wy_prices wy_rest wy_goal wy_otherFrom wy_otherTo wy_least l8 l3 l4 _ _ _ hc_33) _) (kV hw calX7_lossWithoutKnots kw_37_7 rfl rfl ⟨Nat.le_of_ble_eq_true rfl, Nat.le_of_ble_eq_true rfl⟩) (wpV (hP.sub (ws' := [oX7 t_h t_a rd_h now_h sp_h wy_h gp_h ch_h sb_h, oX1 now_h now_a now_windows now_washes now_damp now_heard now_lines now_hour now_strings, arI G (now_a 10) 21 now_pairs, arI G (now_a 11) 21 now_knots, oX6 wy_h wy_a wy_windows wy_goal wy_otherFrom wy_otherTo wy_least, arI G (wy_a 1) 12 wy_links, arI G (wy_a 2) 144 wy_prices, arI G (wy_a 3) 12 wy_rest]) [0, 1, 4, 5, 6, 7, 8, 9] rfl) (hD.sub (ws' := [oX7 t_h t_a rd_h now_h sp_h wy_h gp_h ch_h sb_h, oX1 now_h now_a now_windows now_washes now_damp now_heard now_lines now_hour now_strings, arI G (now_a 10) 21 now_pairs, arI G (now_a 11) 21 now_knots, oX6 wy_h wy_a wy_windows wy_goal wy_otherFrom wy_otherTo wy_least, arI G (wy_a 1) 12 wy_links, arI G (wy_a 2) 144 wy_prices, arI G (wy_a 3) 12 wy_rest]) [0, 1, 4, 5, 6, 7, 8, 9] (by decide) rfl) hK (ci := 7) (q0 := 0) rfl rfl) rfl rfl hl.1 rfl (lv_room (Nat.le_of_ble_eq_true rfl)) dX7_renewed_128 ⟨Nat.zero_le _, Nat.zero_le _⟩) hS hA hP hD [0, 1, 4, 5, 6, 7, 8, 9] rfl rfl (fun H locs hP hD hS => ?_)
          have hP : va_P G.1 vwCl [oX7 t_h t_a rd_h now_h sp_h wy_h gp_h ch_h sb_h, oX1 now_h now_a now_windows now_washes now_damp now_heard now_lines now_hour now_strings, arI G (now_a 8) 8 now_washPairs, arI G (now_a 9) 8 now_washHours, arI G (now_a 10) 21 now_pairs, arI G (now_a 11) 21 now_knots, oX6 wy_h wy_a wy_windows wy_goal wy_otherFrom wy_otherTo wy_least, arI G (wy_a 1) 12 wy_links, arI G (wy_a 2) 144 wy_prices_30, arI G (wy_a 3) 12 wy_rest_31] H := hP
          have hD : va_D A [oX7 t_h t_a rd_h now_h sp_h wy_h gp_h ch_h sb_h, oX1 now_h now_a now_windows now_washes now_damp now_heard now_lines now_hour now_strings, arI G (now_a 8) 8 now_washPairs, arI G (now_a 9) 8 now_washHours, arI G (now_a 10) 21 now_pairs, arI G (now_a 11) 21 now_knots, oX6 wy_h wy_a wy_windows wy_goal wy_otherFrom wy_otherTo wy_least, arI G (wy_a 1) 12 wy_links, arI G (wy_a 2) 144 wy_prices_30, arI G (wy_a 3) 12 wy_rest_31] := hD
          refine lv_isub hx hb dX7_renewed_131 ?_
          exact J132 _ _ _ _ _ _ hP hD hS (lv_sub hl [0, 1, 2, 3, 4, 5, 6, 7] rfl) hf
        · have hf := ip c_29 hf
          refine lv_iconst (v := 0) hx hb dX7_renewed_116 (by decide) ?_
          refine lv_goto (tgt := 132) hx hb dX7_renewed_117 (by decide) ?_
          exact J132 _ _ _ _ _ _ hP hD hS (lv_sub hl [0, 1, 2, 3, 4, 5, 6, 7] rfl) hf
  unfold fX7_renewed at hf
  refine lv_aload_n hx hb dX7_renewed_0 rfl (lv_at hl 0 rfl) ?_
  refine va_get (D := G.1) (ci := 7) (v := .ref now_h) (C := RX7) (T := TX7) (N := 10) hx hb hw inW7 hown hK.1 hP 0 rfl rfl 1 (by decide) (hw _ kw_1_20) (fun _ h9 => h9) rfl dX7_renewed_1 ?_
  refine lv_iload_n hx hb dX7_renewed_4 rfl (lv_at hl 1 rfl) ?_
  refine lv_i2l hx hb dX7_renewed_5 rfl ?_
  obtain ⟨r_1, hc_2, hf⟩ := bd1_in hf
  refine rcI (va_runV (As := [.long (Int32.toInt64 v1)]) (rest := []) ⟨hx, hb, hml, hown, hw⟩ ((ctX1_hasPair l G now_h now_a now_windows now_washes now_damp now_heard now_lines now_hour now_strings (Int32.toInt64 v1) _ hc_2) _) (kV hw calX1_hasPair kw_21_7 rfl rfl ⟨Nat.le_of_ble_eq_true rfl, Nat.le_of_ble_eq_true rfl⟩) (rpV (hP.sub (ws' := [oX1 now_h now_a now_windows now_washes now_damp now_heard now_lines now_hour now_strings]) [1] rfl) hK (ci := 1) (q0 := 0) rfl rfl) rfl rfl hl.1 rfl (lv_room (Nat.le_of_ble_eq_true rfl)) dX7_renewed_6 ⟨Nat.zero_le _, Nat.zero_le _⟩) hS hA hP (fun H locs hP hS => ?_)
  refine lv_if_eq (tgt := 21) hx hb dX7_renewed_9 (by decide) (fun c_3 => ?_) (fun c_3 => ?_)
  · have hf := ip c_3 hf
    refine lv_bipush (v := (-2)) hx hb dX7_renewed_21 (by decide) ?_
    exact hRet _ _ _ _ _ _ _ _ _ hf hP hS dX7_renewed_23
  · have hf := iq c_3 hf
    refine lv_iload_n hx hb dX7_renewed_12 rfl (lv_at hl 2 rfl) ?_
    refine lv_if_lt (tgt := 21) hx hb dX7_renewed_13 (by decide) (fun c_4 => ?_) (fun c_4 => ?_)
    · have hf := ip c_4 hf
      refine lv_bipush (v := (-2)) hx hb dX7_renewed_21 (by decide) ?_
      exact hRet _ _ _ _ _ _ _ _ _ hf hP hS dX7_renewed_23
    · have hf := iq c_4 hf
      refine lv_iload_n hx hb dX7_renewed_16 rfl (lv_at hl 2 rfl) ?_
      refine lv_iconst (v := 1) hx hb dX7_renewed_17 (by decide) ?_
      refine lv_icmp_le (tgt := 24) hx hb dX7_renewed_18 (by decide) (fun c_5 => ?_) (fun c_5 => ?_)
      · have hf := ip c_5 hf
        refine lv_iload_n hx hb dX7_renewed_24 rfl (lv_at hl 1 rfl) ?_
        obtain ⟨r_6, hc_7, hf⟩ := bd1_in hf
        refine rcI (va_runS (As := [.int v1]) (rest := []) ⟨hx, hb, hml, hown, hw⟩ ((ctX7_lesser l G v1 _ hc_7) _) (kS hw calX7_lesser kw_13_10 rfl rfl ⟨Nat.le_of_ble_eq_true rfl, Nat.le_of_ble_eq_true rfl⟩) (rpS (hP.sub (ws' := []) [] rfl) hK) rfl rfl hl.1 rfl (lv_room (Nat.le_of_ble_eq_true rfl)) dX7_renewed_25 ⟨Nat.zero_le _, Nat.zero_le _⟩) hS hA hP (fun H locs hP hS => ?_)
        refine lv_istore_n (lv' := [(3, .int r_6), (0, .ref t_h), (1, .int v1), (2, .int v2)]) hx hb dX7_renewed_28 rfl hl (by decide) rfl (fun ls hl => ?_)
        refine lv_iload_n hx hb dX7_renewed_29 rfl (lv_at hl 2 rfl) ?_
        obtain ⟨r_8, hc_9, hf⟩ := bd1_in hf
        refine rcI (va_runS (As := [.int v1]) (rest := []) ⟨hx, hb, hml, hown, hw⟩ ((ctX7_greater l G v1 _ hc_9) _) (kS hw calX7_greater kw_13_11 rfl rfl ⟨Nat.le_of_ble_eq_true rfl, Nat.le_of_ble_eq_true rfl⟩) (rpS (hP.sub (ws' := []) [] rfl) hK) rfl rfl hl.1 rfl (lv_room (Nat.le_of_ble_eq_true rfl)) dX7_renewed_30 ⟨Nat.zero_le _, Nat.zero_le _⟩) hS hA hP (fun H locs hP hS => ?_)
        refine lv_istore (lv' := [(4, .int r_8), (3, .int r_6), (0, .ref t_h), (1, .int v1), (2, .int v2)]) hx hb dX7_renewed_33 hl (by decide) rfl (fun ls hl => ?_)
        refine lv_aload_n hx hb dX7_renewed_35 rfl (lv_at hl 2 rfl) ?_
        refine va_get (D := G.1) (ci := 7) (v := .ref wy_h) (C := RX7) (T := TX7) (N := 10) hx hb hw inW7 hown hK.1 hP 0 rfl rfl 3 (by decide) (hw _ kw_2_1) (fun _ h9 => h9) rfl dX7_renewed_36 ?_
        refine lv_aload_n hx hb dX7_renewed_39 rfl (lv_at hl 2 rfl) ?_
        refine va_get (D := G.1) (ci := 7) (v := .ref now_h) (C := RX7) (T := TX7) (N := 10) hx hb hw inW7 hown hK.1 hP 0 rfl rfl 1 (by decide) (hw _ kw_1_20) (fun _ h9 => h9) rfl dX7_renewed_40 ?_
        refine lv_aload_n hx hb dX7_renewed_43 rfl (lv_at hl 2 rfl) ?_
        refine va_get (D := G.1) (ci := 7) (v := .ref now_h) (C := RX7) (T := TX7) (N := 10) hx hb hw inW7 hown hK.1 hP 0 rfl rfl 1 (by decide) (hw _ kw_1_20) (fun _ h9 => h9) rfl dX7_renewed_44 ?_
        refine va_getN (D := G.1) (ci := 1) (v := .int now_hour) (C := RX1) (T := TX1) (N := 12) hx hb hw inW1 hown hK.1 hP 1 rfl rfl 5 (by decide) ((nf_16 hK.2).use rfl) (fun _ h9 => h9) rfl dX7_renewed_47 ?_
        obtain ⟨wy_windows_10, wy_links_11, wy_prices_12, hc_13, hf⟩ := bd3_in hf
        refine wcV (w1 := [oX6 wy_h wy_a wy_windows_10 wy_goal wy_otherFrom wy_otherTo wy_least, arI G (wy_a 1) 12 wy_links_11, arI G (wy_a 2) 144 wy_prices_12, oX1 now_h now_a now_windows now_washes now_damp now_heard now_lines now_hour now_strings, arI G (now_a 8) 8 now_washPairs, arI G (now_a 9) 8 now_washHours, arI G (now_a 10) 21 now_pairs, arI G (now_a 11) 21 now_knots]) (va_runV (As := [.ref now_h, .int now_hour]) (rest := []) ⟨hx, hb, hml, hown, hw⟩ ((ctX6_takeStrings l G wy_h wy_a now_h now_a wy_windows wy_links wy_prices wy_goal wy_otherFrom wy_otherTo wy_least now_windows now_washes now_damp now_heard now_lines now_hour now_strings now_washPairs now_washHours now_pairs now_knots now_hour _ _ _ hc_13) _) (kV hw calX6_takeStrings kw_18_10 rfl rfl ⟨Nat.le_of_ble_eq_true rfl, Nat.le_of_ble_eq_true rfl⟩) (wpV (hP.sub (ws' := [oX6 wy_h wy_a wy_windows wy_goal wy_otherFrom wy_otherTo wy_least, arI G (wy_a 1) 12 wy_links, arI G (wy_a 2) 144 wy_prices, oX1 now_h now_a now_windows now_washes now_damp now_heard now_lines now_hour now_strings, arI G (now_a 8) 8 now_washPairs, arI G (now_a 9) 8 now_washHours, arI G (now_a 10) 21 now_pairs, arI G (now_a 11) 21 now_knots]) [6, 7, 8, 1, 2, 3, 4, 5] rfl) (hD.sub (ws' := [oX6 wy_h wy_a wy_windows wy_goal wy_otherFrom wy_otherTo wy_least, arI G (wy_a 1) 12 wy_links, arI G (wy_a 2) 144 wy_prices, oX1 now_h now_a now_windows now_washes now_damp now_heard now_lines now_hour now_strings, arI G (now_a 8) 8 now_washPairs, arI G (now_a 9) 8 now_washHours, arI G (now_a 10) 21 now_pairs, arI G (now_a 11) 21 now_knots]) [6, 7, 8, 1, 2, 3, 4, 5] (by decide) rfl) hK (ci := 6) (q0 := 0) rfl rfl) rfl rfl hl.1 rfl (lv_room (Nat.le_of_ble_eq_true rfl)) dX7_renewed_50 ⟨Nat.zero_le _, Nat.zero_le _⟩) hS hA hP hD [6, 7, 8, 1, 2, 3, 4, 5] rfl rfl (fun H locs hP hD hS => ?_)
        have hP : va_P G.1 vwCl [oX7 t_h t_a rd_h now_h sp_h wy_h gp_h ch_h sb_h, oX1 now_h now_a now_windows now_washes now_damp now_heard now_lines now_hour now_strings, arI G (now_a 8) 8 now_washPairs, arI G (now_a 9) 8 now_washHours, arI G (now_a 10) 21 now_pairs, arI G (now_a 11) 21 now_knots, oX6 wy_h wy_a wy_windows_10 wy_goal wy_otherFrom wy_otherTo wy_least, arI G (wy_a 1) 12 wy_links_11, arI G (wy_a 2) 144 wy_prices_12, arI G (wy_a 3) 12 wy_rest] H := hP
        have hD : va_D A [oX7 t_h t_a rd_h now_h sp_h wy_h gp_h ch_h sb_h, oX1 now_h now_a now_windows now_washes now_damp now_heard now_lines now_hour now_strings, arI G (now_a 8) 8 now_washPairs, arI G (now_a 9) 8 now_washHours, arI G (now_a 10) 21 now_pairs, arI G (now_a 11) 21 now_knots, oX6 wy_h wy_a wy_windows_10 wy_goal wy_otherFrom wy_otherTo wy_least, arI G (wy_a 1) 12 wy_links_11, arI G (wy_a 2) 144 wy_prices_12, arI G (wy_a 3) 12 wy_rest] := hD
        refine lv_aload_n hx hb dX7_renewed_53 rfl (lv_at hl 2 rfl) ?_
        refine va_get (D := G.1) (ci := 7) (v := .ref wy_h) (C := RX7) (T := TX7) (N := 10) hx hb hw inW7 hown hK.1 hP 0 rfl rfl 3 (by decide) (hw _ kw_2_1) (fun _ h9 => h9) rfl dX7_renewed_54 ?_
        refine lv_iload hx hb dX7_renewed_57 (lv_at hl 0 rfl) ?_
        refine lv_iconst (v := 0) hx hb dX7_renewed_59 (by decide) ?_
        obtain ⟨wy_rest_14, hc_15, hf⟩ := bd1_in hf
        refine wcV (w1 := [oX6 wy_h wy_a wy_windows_10 wy_goal wy_otherFrom wy_otherTo wy_least, arI G (wy_a 1) 12 wy_links_11, arI G (wy_a 2) 144 wy_prices_12, arI G (wy_a 3) 12 wy_rest_14]) (va_runV (As := [.int r_8, .int 0]) (rest := []) ⟨hx, hb, hml, hown, hw⟩ ((ctX6_measure l G wy_h wy_a wy_windows_10 wy_links_11 wy_prices_12 wy_rest wy_goal wy_otherFrom wy_otherTo wy_least r_8 0 _ hc_15) _) (kV hw calX6_measure kw_28_1 rfl rfl ⟨Nat.le_of_ble_eq_true rfl, Nat.le_of_ble_eq_true rfl⟩) (wpV (hP.sub (ws' := [oX6 wy_h wy_a wy_windows_10 wy_goal wy_otherFrom wy_otherTo wy_least, arI G (wy_a 1) 12 wy_links_11, arI G (wy_a 2) 144 wy_prices_12, arI G (wy_a 3) 12 wy_rest]) [6, 7, 8, 9] rfl) (hD.sub (ws' := [oX6 wy_h wy_a wy_windows_10 wy_goal wy_otherFrom wy_otherTo wy_least, arI G (wy_a 1) 12 wy_links_11, arI G (wy_a 2) 144 wy_prices_12, arI G (wy_a 3) 12 wy_rest]) [6, 7, 8, 9] (by decide) rfl) hK (ci := 6) (q0 := 0) rfl rfl) rfl rfl hl.1 rfl (lv_room (Nat.le_of_ble_eq_true rfl)) dX7_renewed_60 ⟨Nat.zero_le _, Nat.zero_le _⟩) hS hA hP hD [6, 7, 8, 9] rfl rfl (fun H locs hP hD hS => ?_)
        have hP : va_P G.1 vwCl [oX7 t_h t_a rd_h now_h sp_h wy_h gp_h ch_h sb_h, oX1 now_h now_a now_windows now_washes now_damp now_heard now_lines now_hour now_strings, arI G (now_a 8) 8 now_washPairs, arI G (now_a 9) 8 now_washHours, arI G (now_a 10) 21 now_pairs, arI G (now_a 11) 21 now_knots, oX6 wy_h wy_a wy_windows_10 wy_goal wy_otherFrom wy_otherTo wy_least, arI G (wy_a 1) 12 wy_links_11, arI G (wy_a 2) 144 wy_prices_12, arI G (wy_a 3) 12 wy_rest_14] H := hP
        have hD : va_D A [oX7 t_h t_a rd_h now_h sp_h wy_h gp_h ch_h sb_h, oX1 now_h now_a now_windows now_washes now_damp now_heard now_lines now_hour now_strings, arI G (now_a 8) 8 now_washPairs, arI G (now_a 9) 8 now_washHours, arI G (now_a 10) 21 now_pairs, arI G (now_a 11) 21 now_knots, oX6 wy_h wy_a wy_windows_10 wy_goal wy_otherFrom wy_otherTo wy_least, arI G (wy_a 1) 12 wy_links_11, arI G (wy_a 2) 144 wy_prices_12, arI G (wy_a 3) 12 wy_rest_14] := hD
        refine lv_aload_n hx hb dX7_renewed_63 rfl (lv_at hl 2 rfl) ?_
        refine va_get (D := G.1) (ci := 7) (v := .ref wy_h) (C := RX7) (T := TX7) (N := 10) hx hb hw inW7 hown hK.1 hP 0 rfl rfl 3 (by decide) (hw _ kw_2_1) (fun _ h9 => h9) rfl dX7_renewed_64 ?_
        refine lv_iload_n hx hb dX7_renewed_67 rfl (lv_at hl 1 rfl) ?_
        obtain ⟨r_16, hc_17, hf⟩ := bd1_in hf
        refine rcI (va_runV (As := [.int r_6]) (rest := []) ⟨hx, hb, hml, hown, hw⟩ ((ctX6_lossFrom l G wy_h wy_a wy_windows_10 wy_rest_14 wy_goal wy_otherFrom wy_otherTo wy_least r_6 _ hc_17) _) (kV hw calX6_lossFrom kw_28_19 rfl rfl ⟨Nat.le_of_ble_eq_true rfl, Nat.le_of_ble_eq_true rfl⟩) (rpV (hP.sub (ws' := [oX6 wy_h wy_a wy_windows_10 wy_goal wy_otherFrom wy_otherTo wy_least, arI G (wy_a 3) 12 wy_rest_14]) [6, 9] rfl) hK (ci := 6) (q0 := 0) rfl rfl) rfl rfl hl.1 rfl (lv_room (Nat.le_of_ble_eq_true rfl)) dX7_renewed_68 ⟨Nat.zero_le _, Nat.zero_le _⟩) hS hA hP (fun H locs hP hS => ?_)
        refine lv_istore (lv' := [(5, .int r_16), (4, .int r_8), (3, .int r_6), (0, .ref t_h), (1, .int v1), (2, .int v2)]) hx hb dX7_renewed_71 hl (by decide) rfl (fun ls hl => ?_)
        refine lv_iload hx hb dX7_renewed_73 (lv_at hl 0 rfl) ?_
        refine lv_iconst (v := (-1)) hx hb dX7_renewed_75 (by decide) ?_
        refine lv_icmp_ne (tgt := 82) hx hb dX7_renewed_76 (by decide) (fun c_18 => ?_) (fun c_18 => ?_)
        · have hf := iq c_18 hf
          refine lv_iconst (v := 0) hx hb dX7_renewed_82 (by decide) ?_
          refine lv_istore (lv' := [(6, .int 0), (5, .int r_16), (4, .int r_8), (3, .int r_6), (0, .ref t_h), (1, .int v1), (2, .int v2)]) hx hb dX7_renewed_83 hl (by decide) rfl (fun ls hl => ?_)
          refine lv_iconst (v := (-1)) hx hb dX7_renewed_85 (by decide) ?_
          refine lv_istore (lv' := [(7, .int (-1)), (6, .int 0), (5, .int r_16), (4, .int r_8), (3, .int r_6), (0, .ref t_h), (1, .int v1), (2, .int v2)]) hx hb dX7_renewed_86 hl (by decide) rfl (fun ls hl => ?_)
          refine lv_iconst (v := 0) hx hb dX7_renewed_88 (by decide) ?_
          refine lv_istore (lv' := [(8, .int 0), (7, .int (-1)), (6, .int 0), (5, .int r_16), (4, .int r_8), (3, .int r_6), (0, .ref t_h), (1, .int v1), (2, .int v2)]) hx hb dX7_renewed_89 hl (by decide) rfl (fun ls hl => ?_)
          refine L91 _ _ _ _ _ _ _ _ _ _ _ _ _ _ _ hP hD hS (lv_sub hl [6, 8, 5, 4, 3, 2, 1, 0] rfl) hf (fun w_34 w_35 wy_prices_36 wy_rest_37 H locs ls hP hD hS hl hf => ?_)
          refine lv_iload_n hx hb dX7_renewed_163 rfl (lv_at hl 0 rfl) ?_
          refine lv_if_ne (tgt := 172) hx hb dX7_renewed_164 (by decide) (fun c_38 => ?_) (fun c_38 => ?_)
          · have hf := iq c_38 hf
            refine lv_iload hx hb dX7_renewed_172 (lv_at hl 2 rfl) ?_
            exact hRet _ _ _ _ _ _ _ _ _ hf hP hS dX7_renewed_174
          · have hf := ip c_38 hf
            refine lv_iload hx hb dX7_renewed_167 (lv_at hl 1 rfl) ?_
            refine lv_goto (tgt := 174) hx hb dX7_renewed_169 (by decide) ?_
            exact hRet _ _ _ _ _ _ _ _ _ hf hP hS dX7_renewed_174
        · have hf := ip c_18 hf
          refine lv_bipush (v := (-5)) hx hb dX7_renewed_79 (by decide) ?_
          exact hRet _ _ _ _ _ _ _ _ _ hf hP hS dX7_renewed_81
      · have hf := iq c_5 hf
        refine lv_bipush (v := (-2)) hx hb dX7_renewed_21 (by decide) ?_
        exact hRet _ _ _ _ _ _ _ _ _ hf hP hS dX7_renewed_23
theorem calX7_exchange : CalV yX7_exchange cX7_exchange 8 (some .int) 1 := ⟨⟨kw_37_19, kw_1_2, by decide +kernel⟩, kw_37_17, kw_37_18⟩
set_option maxHeartbeats 8000000 in
set_option maxRecDepth 100000 in
theorem ctX7_exchange (l : Launch) (G : GT) (t_h : Nat) (t_a : Nat → Nat) (now_h : Nat) (now_a : Nat → Nat) (wy_h : Nat) (wy_a : Nat → Nat) (rd_h : Nat) (sp_h : Nat) (gp_h : Nat) (ch_h : Nat) (sb_h : Nat) (now_windows : Int32) (now_washes : Int32) (now_damp : Int32) (now_heard : Int32) (now_lines : Int32) (now_hour : Int32) (now_strings : Int32) (now_washPairs : Nat → Int32) (now_washHours : Nat → Int32) (now_pairs : Nat → Int32) (now_knots : Nat → Int32) (wy_windows : Int32) (wy_links : Nat → Int32) (wy_prices : Nat → Int32) (wy_rest : Nat → Int32) (wy_goal : Int32) (wy_otherFrom : Int32) (wy_otherTo : Int32) (wy_least : Int32) (v1 : Int32) (r : Int32) (o_wy_windows : Int32) (o_wy_links : Nat → Int32) (o_wy_prices : Nat → Int32) (o_wy_rest : Nat → Int32) (hf : fX7_exchange now_windows now_washes now_damp now_heard now_hour now_strings now_washPairs now_washHours now_pairs now_knots wy_windows wy_links wy_prices wy_rest v1 = some (r, o_wy_windows, o_wy_links, o_wy_prices, o_wy_rest)) : WrI l yX7_exchange (Cond.code yX7_exchange cX7_exchange 8 (some .int)) { frames := 5, cells := 0, slots := 0, locals := 108 } G [.ref t_h, .int v1] [oX7 t_h t_a rd_h now_h sp_h wy_h gp_h ch_h sb_h, oX1 now_h now_a now_windows now_washes now_damp now_heard now_lines now_hour now_strings, arI G (now_a 8) 8 now_washPairs, arI G (now_a 9) 8 now_washHours, arI G (now_a 10) 21 now_pairs, arI G (now_a 11) 21 now_knots, oX6 wy_h wy_a wy_windows wy_goal wy_otherFrom wy_otherTo wy_least, arI G (wy_a 1) 12 wy_links, arI G (wy_a 2) 144 wy_prices, arI G (wy_a 3) 12 wy_rest] [oX7 t_h t_a rd_h now_h sp_h wy_h gp_h ch_h sb_h, oX1 now_h now_a now_windows now_washes now_damp now_heard now_lines now_hour now_strings, arI G (now_a 8) 8 now_washPairs, arI G (now_a 9) 8 now_washHours, arI G (now_a 10) 21 now_pairs, arI G (now_a 11) 21 now_knots, oX6 wy_h wy_a o_wy_windows wy_goal wy_otherFrom wy_otherTo wy_least, arI G (wy_a 1) 12 o_wy_links, arI G (wy_a 2) 144 o_wy_prices, arI G (wy_a 3) 12 o_wy_rest] r := by
  intro sz
  refine Met.ofW (cc := cX7_exchange) (maxL := 8) (ret := (some .int)) (by decide) rfl ?_
  intro p e s m args below meth c s₁ B hml hv
  obtain ⟨hargs, hsz, hP, hD0, hK⟩ := hv
  subst hsz
  obtain ⟨hx, hb, hr, hw, hown, hlk⟩ := fwB B
  refine fw_enter hargs (Nat.le_of_ble_eq_true rfl) (fun ls hl => ?_)
  have hl : lv_has ls 8 [(0, .ref t_h), (1, .int v1)] := hl
  refine fw_Q (P := fun Q => ∃ A : Nat → Prop, va_D A [oX7 t_h t_a rd_h now_h sp_h wy_h gp_h ch_h sb_h, oX1 now_h now_a now_windows now_washes now_damp now_heard now_lines now_hour now_strings, arI G (now_a 8) 8 now_washPairs, arI G (now_a 9) 8 now_washHours, arI G (now_a 10) 21 now_pairs, arI G (now_a 11) 21 now_knots, oX6 wy_h wy_a wy_windows wy_goal wy_otherFrom wy_otherTo wy_least, arI G (wy_a 1) 12 wy_links, arI G (wy_a 2) 144 wy_prices, arI G (wy_a 3) 12 wy_rest] ∧ va_S A s.heap s.heap [] ∧ (∀ q, s.heap.size ≤ q → A q) ∧ ∀ (v : Int32) (n_wy_windows : Int32) (n_wy_links : Nat → Int32) (n_wy_prices : Nat → Int32) (n_wy_rest : Nat → Int32) (H : Heap) (locs : List Loc) (pc : Nat) (ls : Array Slot), some (v, n_wy_windows, n_wy_links, n_wy_prices, n_wy_rest) = some (r, o_wy_windows, o_wy_links, o_wy_prices, o_wy_rest) → va_P G.1 vwCl [oX7 t_h t_a rd_h now_h sp_h wy_h gp_h ch_h sb_h, oX1 now_h now_a now_windows now_washes now_damp now_heard now_lines now_hour now_strings, arI G (now_a 8) 8 now_washPairs, arI G (now_a 9) 8 now_washHours, arI G (now_a 10) 21 now_pairs, arI G (now_a 11) 21 now_knots, oX6 wy_h wy_a n_wy_windows wy_goal wy_otherFrom wy_otherTo wy_least, arI G (wy_a 1) 12 n_wy_links, arI G (wy_a 2) 144 n_wy_prices, arI G (wy_a 3) 12 n_wy_rest] H → va_S A s.heap H locs → decode cX7_exchange pc = .ok (.ireturn, 1) → W p l e ({ frames := 5, cells := 0, slots := 0, locals := 108 } : Room) s m args below meth c H locs 0 0 Q (F0 m pc ls [.int v])) ⟨va_A [oX7 t_h t_a rd_h now_h sp_h wy_h gp_h ch_h sb_h, oX1 now_h now_a now_windows now_washes now_damp now_heard now_lines now_hour now_strings, arI G (now_a 8) 8 now_washPairs, arI G (now_a 9) 8 now_washHours, arI G (now_a 10) 21 now_pairs, arI G (now_a 11) 21 now_knots, oX6 wy_h wy_a wy_windows wy_goal wy_otherFrom wy_otherTo wy_least, arI G (wy_a 1) 12 wy_links, arI G (wy_a 2) 144 wy_prices, arI G (wy_a 3) 12 wy_rest] s.heap.size, hD0.self (sz := s.heap.size), va_S.rf, fun q h => Or.inr h, ?_⟩ ?_
  · intro v n_wy_windows n_wy_links n_wy_prices n_wy_rest H locs pc ls h hP hS hd
    cases h
    exact retWI hx hb hr hlk hS hP rfl hd
  rintro Q ⟨A, hD, hS, hA, hRet⟩
  change W p l e ({ frames := 5, cells := 0, slots := 0, locals := 108 } : Room) s m args below meth c _ _ 0 0 Q _
  have L40 : ∀ (wy_windows : Int32) (wy_links : Nat → Int32) (wy_prices : Nat → Int32) (K : Int32 → Int32 → Int32 → (Nat → Int32) → Option (Int32 × Int32 × (Nat → Int32) × (Nat → Int32) × (Nat → Int32))) (n : Nat) (l2 : Int32) (l3 : Int32) (l4 : Int32) (l5 : Int32) (wy_rest : Nat → Int32) (H : Heap) (locs : List Loc) (ls : Array Slot), va_P G.1 vwCl [oX7 t_h t_a rd_h now_h sp_h wy_h gp_h ch_h sb_h, oX1 now_h now_a now_windows now_washes now_damp now_heard now_lines now_hour now_strings, arI G (now_a 8) 8 now_washPairs, arI G (now_a 9) 8 now_washHours, arI G (now_a 10) 21 now_pairs, arI G (now_a 11) 21 now_knots, oX6 wy_h wy_a wy_windows wy_goal wy_otherFrom wy_otherTo wy_least, arI G (wy_a 1) 12 wy_links, arI G (wy_a 2) 144 wy_prices, arI G (wy_a 3) 12 wy_rest] H → va_D A [oX7 t_h t_a rd_h now_h sp_h wy_h gp_h ch_h sb_h, oX1 now_h now_a now_windows now_washes now_damp now_heard now_lines now_hour now_strings, arI G (now_a 8) 8 now_washPairs, arI G (now_a 9) 8 now_washHours, arI G (now_a 10) 21 now_pairs, arI G (now_a 11) 21 now_knots, oX6 wy_h wy_a wy_windows wy_goal wy_otherFrom wy_otherTo wy_least, arI G (wy_a 1) 12 wy_links, arI G (wy_a 2) 144 wy_prices, arI G (wy_a 3) 12 wy_rest] → va_S A s.heap H locs → lv_has ls 8 [(0, .ref t_h), (1, .int v1), (2, .int l2), (3, .int l3), (4, .int l4), (5, .int l5)] → fX7_exchange_40 now_windows now_heard wy_windows wy_links wy_prices K n l2 l3 l4 l5 wy_rest = some (r, o_wy_windows, o_wy_links, o_wy_prices, o_wy_rest) → (∀ (k2 : Int32) (k3 : Int32) (k4 : Int32) (kwy_rest : Nat → Int32) (H : Heap) (locs : List Loc) (ls : Array Slot), va_P G.1 vwCl [oX7 t_h t_a rd_h now_h sp_h wy_h gp_h ch_h sb_h, oX1 now_h now_a now_windows now_washes now_damp now_heard now_lines now_hour now_strings, arI G (now_a 8) 8 now_washPairs, arI G (now_a 9) 8 now_washHours, arI G (now_a 10) 21 now_pairs, arI G (now_a 11) 21 now_knots, oX6 wy_h wy_a wy_windows wy_goal wy_otherFrom wy_otherTo wy_least, arI G (wy_a 1) 12 wy_links, arI G (wy_a 2) 144 wy_prices, arI G (wy_a 3) 12 kwy_rest] H → va_D A [oX7 t_h t_a rd_h now_h sp_h wy_h gp_h ch_h sb_h, oX1 now_h now_a now_windows now_washes now_damp now_heard now_lines now_hour now_strings, arI G (now_a 8) 8 now_washPairs, arI G (now_a 9) 8 now_washHours, arI G (now_a 10) 21 now_pairs, arI G (now_a 11) 21 now_knots, oX6 wy_h wy_a wy_windows wy_goal wy_otherFrom wy_otherTo wy_least, arI G (wy_a 1) 12 wy_links, arI G (wy_a 2) 144 wy_prices, arI G (wy_a 3) 12 kwy_rest] → va_S A s.heap H locs → lv_has ls 8 [(1, .int v1), (2, .int k2), (3, .int k3), (4, .int k4)] → K k2 k3 k4 kwy_rest = some (r, o_wy_windows, o_wy_links, o_wy_prices, o_wy_rest) → W p l e ({ frames := 5, cells := 0, slots := 0, locals := 108 } : Room) s m args below meth c H locs 0 0 Q (F0 m 133 ls [])) → W p l e ({ frames := 5, cells := 0, slots := 0, locals := 108 } : Room) s m args below meth c H locs 0 0 Q (F0 m 40 ls []) := by
    intro wy_windows wy_links wy_prices K n
    induction n with
    | zero => intro l2 l3 l4 l5 wy_rest H locs ls hP hD hS hl hf; rw [fX7_exchange_40] at hf; cases hf
    | succ n ih =>
      intro l2 l3 l4 l5 wy_rest H locs ls hP hD hS hl hf hX
      rw [fX7_exchange_40] at hf
      refine lv_iload hx hb dX7_exchange_40 (lv_at hl 5 rfl) ?_
      refine lv_aload_n hx hb dX7_exchange_42 rfl (lv_at hl 0 rfl) ?_
      refine va_get (D := G.1) (ci := 7) (v := .ref now_h) (C := RX7) (T := TX7) (N := 10) hx hb hw inW7 hown hK.1 hP 0 rfl rfl 1 (by decide) (hw _ kw_1_20) (fun _ h9 => h9) rfl dX7_exchange_43 ?_
      refine va_getN (D := G.1) (ci := 1) (v := .int now_windows) (C := RX1) (T := TX1) (N := 12) hx hb hw inW1 hown hK.1 hP 1 rfl rfl 0 (by decide) ((nf_6 hK.2).use rfl) (fun _ h9 => h9) rfl dX7_exchange_46 ?_
      refine lv_icmp_ge (tgt := 133) hx hb dX7_exchange_49 (by decide) (fun c_7 => ?_) (fun c_7 => ?_)
      · have hf := ip c_7 hf
        exact hX _ _ _ _ _ _ _ hP hD hS (lv_sub hl [1, 2, 3, 4] rfl) hf
      · have hf := iq c_7 hf
        refine lv_aload_n hx hb dX7_exchange_52 rfl (lv_at hl 0 rfl) ?_
        refine va_get (D := G.1) (ci := 7) (v := .ref wy_h) (C := RX7) (T := TX7) (N := 10) hx hb hw inW7 hown hK.1 hP 0 rfl rfl 3 (by decide) (hw _ kw_2_1) (fun _ h9 => h9) rfl dX7_exchange_53 ?_
        refine lv_iload hx hb dX7_exchange_56 (lv_at hl 5 rfl) ?_
        refine lv_iconst (v := 0) hx hb dX7_exchange_58 (by decide) ?_
        obtain ⟨wy_rest_8, hc_9, hf⟩ := bd1_in hf
        refine wcV (w1 := [oX6 wy_h wy_a wy_windows wy_goal wy_otherFrom wy_otherTo wy_least, arI G (wy_a 1) 12 wy_links, arI G (wy_a 2) 144 wy_prices, arI G (wy_a 3) 12 wy_rest_8]) (va_runV (As := [.int l5, .int 0]) (rest := []) ⟨hx, hb, hml, hown, hw⟩ ((ctX6_measure l G wy_h wy_a wy_windows wy_links wy_prices wy_rest wy_goal wy_otherFrom wy_otherTo wy_least l5 0 _ hc_9) _) (kV hw calX6_measure kw_28_1 rfl rfl ⟨Nat.le_of_ble_eq_true rfl, Nat.le_of_ble_eq_true rfl⟩) (wpV (hP.sub (ws' := [oX6 wy_h wy_a wy_windows wy_goal wy_otherFrom wy_otherTo wy_least, arI G (wy_a 1) 12 wy_links, arI G (wy_a 2) 144 wy_prices, arI G (wy_a 3) 12 wy_rest]) [6, 7, 8, 9] rfl) (hD.sub (ws' := [oX6 wy_h wy_a wy_windows wy_goal wy_otherFrom wy_otherTo wy_least, arI G (wy_a 1) 12 wy_links, arI G (wy_a 2) 144 wy_prices, arI G (wy_a 3) 12 wy_rest]) [6, 7, 8, 9] (by decide) rfl) hK (ci := 6) (q0 := 0) rfl rfl) rfl rfl hl.1 rfl (lv_room (Nat.le_of_ble_eq_true rfl)) dX7_exchange_59 ⟨Nat.zero_le _, Nat.zero_le _⟩) hS hA hP hD [6, 7, 8, 9] rfl rfl (fun H locs hP hD hS => ?_)
        have hP : va_P G.1 vwCl [oX7 t_h t_a rd_h now_h sp_h wy_h gp_h ch_h sb_h, oX1 now_h now_a now_windows now_washes now_damp now_heard now_lines now_hour now_strings, arI G (now_a 8) 8 now_washPairs, arI G (now_a 9) 8 now_washHours, arI G (now_a 10) 21 now_pairs, arI G (now_a 11) 21 now_knots, oX6 wy_h wy_a wy_windows wy_goal wy_otherFrom wy_otherTo wy_least, arI G (wy_a 1) 12 wy_links, arI G (wy_a 2) 144 wy_prices, arI G (wy_a 3) 12 wy_rest_8] H := hP
        have hD : va_D A [oX7 t_h t_a rd_h now_h sp_h wy_h gp_h ch_h sb_h, oX1 now_h now_a now_windows now_washes now_damp now_heard now_lines now_hour now_strings, arI G (now_a 8) 8 now_washPairs, arI G (now_a 9) 8 now_washHours, arI G (now_a 10) 21 now_pairs, arI G (now_a 11) 21 now_knots, oX6 wy_h wy_a wy_windows wy_goal wy_otherFrom wy_otherTo wy_least, arI G (wy_a 1) 12 wy_links, arI G (wy_a 2) 144 wy_prices, arI G (wy_a 3) 12 wy_rest_8] := hD
        refine lv_aload_n hx hb dX7_exchange_62 rfl (lv_at hl 0 rfl) ?_
        refine va_get (D := G.1) (ci := 7) (v := .ref wy_h) (C := RX7) (T := TX7) (N := 10) hx hb hw inW7 hown hK.1 hP 0 rfl rfl 3 (by decide) (hw _ kw_2_1) (fun _ h9 => h9) rfl dX7_exchange_63 ?_
        refine lv_iload hx hb dX7_exchange_66 (lv_at hl 5 rfl) ?_
        refine lv_aload_n hx hb dX7_exchange_68 rfl (lv_at hl 0 rfl) ?_
        refine va_get (D := G.1) (ci := 7) (v := .ref now_h) (C := RX7) (T := TX7) (N := 10) hx hb hw inW7 hown hK.1 hP 0 rfl rfl 1 (by decide) (hw _ kw_1_20) (fun _ h9 => h9) rfl dX7_exchange_69 ?_
        refine va_getN (D := G.1) (ci := 1) (v := .int now_heard) (C := RX1) (T := TX1) (N := 12) hx hb hw inW1 hown hK.1 hP 1 rfl rfl 3 (by decide) ((nf_13 hK.2).use rfl) (fun _ h9 => h9) rfl dX7_exchange_72 ?_
        obtain ⟨r_10, hc_11, hf⟩ := bd1_in hf
        refine rcI (va_runV (As := [.int l5, .int now_heard]) (rest := []) ⟨hx, hb, hml, hown, hw⟩ ((ctX6_heardCount l G wy_h wy_a wy_windows wy_rest_8 wy_goal wy_otherFrom wy_otherTo wy_least l5 now_heard _ hc_11) _) (kV hw calX6_heardCount kw_37_20 rfl rfl ⟨Nat.le_of_ble_eq_true rfl, Nat.le_of_ble_eq_true rfl⟩) (rpV (hP.sub (ws' := [oX6 wy_h wy_a wy_windows wy_goal wy_otherFrom wy_otherTo wy_least, arI G (wy_a 3) 12 wy_rest_8]) [6, 9] rfl) hK (ci := 6) (q0 := 0) rfl rfl) rfl rfl hl.1 rfl (lv_room (Nat.le_of_ble_eq_true rfl)) dX7_exchange_75 ⟨Nat.zero_le _, Nat.zero_le _⟩) hS hA hP (fun H locs hP hS => ?_)
        refine lv_istore (lv' := [(6, .int r_10), (0, .ref t_h), (1, .int v1), (2, .int l2), (3, .int l3), (4, .int l4), (5, .int l5)]) hx hb dX7_exchange_78 hl (by decide) rfl (fun ls hl => ?_)
        refine lv_aload_n hx hb dX7_exchange_80 rfl (lv_at hl 1 rfl) ?_
        refine va_get (D := G.1) (ci := 7) (v := .ref wy_h) (C := RX7) (T := TX7) (N := 10) hx hb hw inW7 hown hK.1 hP 0 rfl rfl 3 (by decide) (hw _ kw_2_1) (fun _ h9 => h9) rfl dX7_exchange_81 ?_
        refine lv_iload hx hb dX7_exchange_84 (lv_at hl 6 rfl) ?_
        refine lv_aload_n hx hb dX7_exchange_86 rfl (lv_at hl 1 rfl) ?_
        refine va_get (D := G.1) (ci := 7) (v := .ref now_h) (C := RX7) (T := TX7) (N := 10) hx hb hw inW7 hown hK.1 hP 0 rfl rfl 1 (by decide) (hw _ kw_1_20) (fun _ h9 => h9) rfl dX7_exchange_87 ?_
        refine va_getN (D := G.1) (ci := 1) (v := .int now_heard) (C := RX1) (T := TX1) (N := 12) hx hb hw inW1 hown hK.1 hP 1 rfl rfl 3 (by decide) ((nf_13 hK.2).use rfl) (fun _ h9 => h9) rfl dX7_exchange_90 ?_
        obtain ⟨r_12, hc_13, hf⟩ := bd1_in hf
        refine rcI (va_runV (As := [.int l5, .int now_heard]) (rest := []) ⟨hx, hb, hml, hown, hw⟩ ((ctX6_heardLoss l G wy_h wy_a wy_windows wy_rest_8 wy_goal wy_otherFrom wy_otherTo wy_least l5 now_heard _ hc_13) _) (kV hw calX6_heardLoss kw_38_1 rfl rfl ⟨Nat.le_of_ble_eq_true rfl, Nat.le_of_ble_eq_true rfl⟩) (rpV (hP.sub (ws' := [oX6 wy_h wy_a wy_windows wy_goal wy_otherFrom wy_otherTo wy_least, arI G (wy_a 3) 12 wy_rest_8]) [6, 9] rfl) hK (ci := 6) (q0 := 0) rfl rfl) rfl rfl hl.1 rfl (lv_room (Nat.le_of_ble_eq_true rfl)) dX7_exchange_93 ⟨Nat.zero_le _, Nat.zero_le _⟩) hS hA hP (fun H locs hP hS => ?_)
        refine lv_istore (lv' := [(7, .int r_12), (6, .int r_10), (0, .ref t_h), (1, .int v1), (2, .int l2), (3, .int l3), (4, .int l4), (5, .int l5)]) hx hb dX7_exchange_96 hl (by decide) rfl (fun ls hl => ?_)
        refine lv_iload hx hb dX7_exchange_98 (lv_at hl 1 rfl) ?_
        refine lv_iload_n hx hb dX7_exchange_100 rfl (lv_at hl 5 rfl) ?_
        refine jn_el hf (fun k_14 ek_14 hf => ?_)
        have J117 : ∀  (H : Heap) (locs : List Loc) (ls : Array Slot), va_P G.1 vwCl [oX7 t_h t_a rd_h now_h sp_h wy_h gp_h ch_h sb_h, oX1 now_h now_a now_windows now_washes now_damp now_heard now_lines now_hour now_strings, arI G (now_a 8) 8 now_washPairs, arI G (now_a 9) 8 now_washHours, arI G (now_a 10) 21 now_pairs, arI G (now_a 11) 21 now_knots, oX6 wy_h wy_a wy_windows wy_goal wy_otherFrom wy_otherTo wy_least, arI G (wy_a 1) 12 wy_links, arI G (wy_a 2) 144 wy_prices, arI G (wy_a 3) 12 wy_rest_8] H → va_D A [oX7 t_h t_a rd_h now_h sp_h wy_h gp_h ch_h sb_h, oX1 now_h now_a now_windows now_washes now_damp now_heard now_lines now_hour now_strings, arI G (now_a 8) 8 now_washPairs, arI G (now_a 9) 8 now_washHours, arI G (now_a 10) 21 now_pairs, arI G (now_a 11) 21 now_knots, oX6 wy_h wy_a wy_windows wy_goal wy_otherFrom wy_otherTo wy_least, arI G (wy_a 1) 12 wy_links, arI G (wy_a 2) 144 wy_prices, arI G (wy_a 3) 12 wy_rest_8] → va_S A s.heap H locs → lv_has ls 8 [(0, .ref t_h), (1, .int v1), (5, .int l5), (6, .int r_10), (7, .int r_12)] → k_14 = some (r, o_wy_windows, o_wy_links, o_wy_prices, o_wy_rest) → W p l e ({ frames := 5, cells := 0, slots := 0, locals := 108 } : Room) s m args below meth c H locs 0 0 Q (F0 m 117 ls []) := by
          intro  H locs ls hP hD hS hl hf
          rw [ek_14] at hf
          refine lv_iload hx hb dX7_exchange_117 (lv_at hl 2 rfl) ?_
          refine lv_istore_n (lv' := [(2, .int l5), (0, .ref t_h), (1, .int v1), (5, .int l5), (6, .int r_10), (7, .int r_12)]) hx hb dX7_exchange_119 rfl hl (by decide) rfl (fun ls hl => ?_)
          refine lv_iload hx hb dX7_exchange_120 (lv_at hl 4 rfl) ?_
          refine lv_istore_n (lv' := [(3, .int r_10), (2, .int l5), (0, .ref t_h), (1, .int v1), (5, .int l5), (6, .int r_10), (7, .int r_12)]) hx hb dX7_exchange_122 rfl hl (by decide) rfl (fun ls hl => ?_)
          refine lv_iload hx hb dX7_exchange_123 (lv_at hl 6 rfl) ?_
          refine lv_istore (lv' := [(4, .int r_12), (3, .int r_10), (2, .int l5), (0, .ref t_h), (1, .int v1), (5, .int l5), (6, .int r_10), (7, .int r_12)]) hx hb dX7_exchange_125 hl (by decide) rfl (fun ls hl => ?_)
          refine lv_iinc (v := (l5 + 1)) (lv' := [(5, .int (l5 + 1)), (4, .int r_12), (3, .int r_10), (2, .int l5), (0, .ref t_h), (1, .int v1), (6, .int r_10), (7, .int r_12)]) hx hb dX7_exchange_127 hl (k := 5) rfl (by rfl) (by decide) rfl (fun ls hl => ?_)
          refine lv_goto (tgt := 40) hx hb dX7_exchange_130 (by decide) ?_
          exact ih _ _ _ _ _ _ _ _ hP hD hS (lv_sub hl [4, 5, 3, 2, 1, 0] rfl) hf hX
        refine lv_icmp_gt (tgt := 117) hx hb dX7_exchange_101 (by decide) (fun c_15 => ?_) (fun c_15 => ?_)
        · have hf := ip c_15 hf
          exact J117  _ _ _ hP hD hS (lv_sub hl [2, 3, 7, 1, 0] rfl) hf
        · have hf := iq c_15 hf
          refine lv_iload hx hb dX7_exchange_104 (lv_at hl 1 rfl) ?_
          refine lv_iload_n hx hb dX7_exchange_106 rfl (lv_at hl 5 rfl) ?_
          refine lv_icmp_ne (tgt := 127) hx hb dX7_exchange_107 (by decide) (fun c_16 => ?_) (fun c_16 => ?_)
          · have hf := iq c_16 hf
            refine lv_iinc (v := (l5 + 1)) (lv' := [(5, .int (l5 + 1)), (7, .int r_12), (6, .int r_10), (0, .ref t_h), (1, .int v1), (2, .int l2), (3, .int l3), (4, .int l4)]) hx hb dX7_exchange_127 hl (k := 7) rfl (by rfl) (by decide) rfl (fun ls hl => ?_)
            refine lv_goto (tgt := 40) hx hb dX7_exchange_130 (by decide) ?_
            exact ih _ _ _ _ _ _ _ _ hP hD hS (lv_sub hl [3, 4, 5, 6, 7, 0] rfl) hf hX
          · have hf := ip c_16 hf
            refine lv_iload hx hb dX7_exchange_110 (lv_at hl 0 rfl) ?_
            refine lv_iload hx hb dX7_exchange_112 (lv_at hl 6 rfl) ?_
            refine lv_icmp_ge (tgt := 127) hx hb dX7_exchange_114 (by decide) (fun c_17 => ?_) (fun c_17 => ?_)
            · have hf := ip c_17 hf
              refine lv_iinc (v := (l5 + 1)) (lv' := [(5, .int (l5 + 1)), (7, .int r_12), (6, .int r_10), (0, .ref t_h), (1, .int v1), (2, .int l2), (3, .int l3), (4, .int l4)]) hx hb dX7_exchange_127 hl (k := 7) rfl (by rfl) (by decide) rfl (fun ls hl => ?_)
              refine lv_goto (tgt := 40) hx hb dX7_exchange_130 (by decide) ?_
              exact ih _ _ _ _ _ _ _ _ hP hD hS (lv_sub hl [3, 4, 5, 6, 7, 0] rfl) hf hX
            · have hf := iq c_17 hf
              exact J117  _ _ _ hP hD hS (lv_sub hl [2, 3, 7, 1, 0] rfl) hf
  unfold fX7_exchange at hf
  refine lv_iload_n hx hb dX7_exchange_0 rfl (lv_at hl 1 rfl) ?_
  refine lv_if_lt (tgt := 9) hx hb dX7_exchange_1 (by decide) (fun c_1 => ?_) (fun c_1 => ?_)
  · have hf := ip c_1 hf
    refine lv_bipush (v := (-2)) hx hb dX7_exchange_9 (by decide) ?_
    exact hRet _ _ _ _ _ _ _ _ _ hf hP hS dX7_exchange_11
  · have hf := iq c_1 hf
    refine lv_iload_n hx hb dX7_exchange_4 rfl (lv_at hl 1 rfl) ?_
    refine lv_iconst (v := 2) hx hb dX7_exchange_5 (by decide) ?_
    refine lv_icmp_le (tgt := 12) hx hb dX7_exchange_6 (by decide) (fun c_2 => ?_) (fun c_2 => ?_)
    · have hf := ip c_2 hf
      refine lv_aload_n hx hb dX7_exchange_12 rfl (lv_at hl 0 rfl) ?_
      refine va_get (D := G.1) (ci := 7) (v := .ref wy_h) (C := RX7) (T := TX7) (N := 10) hx hb hw inW7 hown hK.1 hP 0 rfl rfl 3 (by decide) (hw _ kw_2_1) (fun _ h9 => h9) rfl dX7_exchange_13 ?_
      refine lv_aload_n hx hb dX7_exchange_16 rfl (lv_at hl 0 rfl) ?_
      refine va_get (D := G.1) (ci := 7) (v := .ref now_h) (C := RX7) (T := TX7) (N := 10) hx hb hw inW7 hown hK.1 hP 0 rfl rfl 1 (by decide) (hw _ kw_1_20) (fun _ h9 => h9) rfl dX7_exchange_17 ?_
      refine lv_aload_n hx hb dX7_exchange_20 rfl (lv_at hl 0 rfl) ?_
      refine va_get (D := G.1) (ci := 7) (v := .ref now_h) (C := RX7) (T := TX7) (N := 10) hx hb hw inW7 hown hK.1 hP 0 rfl rfl 1 (by decide) (hw _ kw_1_20) (fun _ h9 => h9) rfl dX7_exchange_21 ?_
      refine va_getN (D := G.1) (ci := 1) (v := .int now_hour) (C := RX1) (T := TX1) (N := 12) hx hb hw inW1 hown hK.1 hP 1 rfl rfl 5 (by decide) ((nf_16 hK.2).use rfl) (fun _ h9 => h9) rfl dX7_exchange_24 ?_
      obtain ⟨wy_windows_3, wy_links_4, wy_prices_5, hc_6, hf⟩ := bd3_in hf
      refine wcV (w1 := [oX6 wy_h wy_a wy_windows_3 wy_goal wy_otherFrom wy_otherTo wy_least, arI G (wy_a 1) 12 wy_links_4, arI G (wy_a 2) 144 wy_prices_5, oX1 now_h now_a now_windows now_washes now_damp now_heard now_lines now_hour now_strings, arI G (now_a 8) 8 now_washPairs, arI G (now_a 9) 8 now_washHours, arI G (now_a 10) 21 now_pairs, arI G (now_a 11) 21 now_knots]) (va_runV (As := [.ref now_h, .int now_hour]) (rest := []) ⟨hx, hb, hml, hown, hw⟩ ((ctX6_takeStrings l G wy_h wy_a now_h now_a wy_windows wy_links wy_prices wy_goal wy_otherFrom wy_otherTo wy_least now_windows now_washes now_damp now_heard now_lines now_hour now_strings now_washPairs now_washHours now_pairs now_knots now_hour _ _ _ hc_6) _) (kV hw calX6_takeStrings kw_18_10 rfl rfl ⟨Nat.le_of_ble_eq_true rfl, Nat.le_of_ble_eq_true rfl⟩) (wpV (hP.sub (ws' := [oX6 wy_h wy_a wy_windows wy_goal wy_otherFrom wy_otherTo wy_least, arI G (wy_a 1) 12 wy_links, arI G (wy_a 2) 144 wy_prices, oX1 now_h now_a now_windows now_washes now_damp now_heard now_lines now_hour now_strings, arI G (now_a 8) 8 now_washPairs, arI G (now_a 9) 8 now_washHours, arI G (now_a 10) 21 now_pairs, arI G (now_a 11) 21 now_knots]) [6, 7, 8, 1, 2, 3, 4, 5] rfl) (hD.sub (ws' := [oX6 wy_h wy_a wy_windows wy_goal wy_otherFrom wy_otherTo wy_least, arI G (wy_a 1) 12 wy_links, arI G (wy_a 2) 144 wy_prices, oX1 now_h now_a now_windows now_washes now_damp now_heard now_lines now_hour now_strings, arI G (now_a 8) 8 now_washPairs, arI G (now_a 9) 8 now_washHours, arI G (now_a 10) 21 now_pairs, arI G (now_a 11) 21 now_knots]) [6, 7, 8, 1, 2, 3, 4, 5] (by decide) rfl) hK (ci := 6) (q0 := 0) rfl rfl) rfl rfl hl.1 rfl (lv_room (Nat.le_of_ble_eq_true rfl)) dX7_exchange_27 ⟨Nat.zero_le _, Nat.zero_le _⟩) hS hA hP hD [6, 7, 8, 1, 2, 3, 4, 5] rfl rfl (fun H locs hP hD hS => ?_)
      have hP : va_P G.1 vwCl [oX7 t_h t_a rd_h now_h sp_h wy_h gp_h ch_h sb_h, oX1 now_h now_a now_windows now_washes now_damp now_heard now_lines now_hour now_strings, arI G (now_a 8) 8 now_washPairs, arI G (now_a 9) 8 now_washHours, arI G (now_a 10) 21 now_pairs, arI G (now_a 11) 21 now_knots, oX6 wy_h wy_a wy_windows_3 wy_goal wy_otherFrom wy_otherTo wy_least, arI G (wy_a 1) 12 wy_links_4, arI G (wy_a 2) 144 wy_prices_5, arI G (wy_a 3) 12 wy_rest] H := hP
      have hD : va_D A [oX7 t_h t_a rd_h now_h sp_h wy_h gp_h ch_h sb_h, oX1 now_h now_a now_windows now_washes now_damp now_heard now_lines now_hour now_strings, arI G (now_a 8) 8 now_washPairs, arI G (now_a 9) 8 now_washHours, arI G (now_a 10) 21 now_pairs, arI G (now_a 11) 21 now_knots, oX6 wy_h wy_a wy_windows_3 wy_goal wy_otherFrom wy_otherTo wy_least, arI G (wy_a 1) 12 wy_links_4, arI G (wy_a 2) 144 wy_prices_5, arI G (wy_a 3) 12 wy_rest] := hD
      refine lv_iconst (v := (-1)) hx hb dX7_exchange_30 (by decide) ?_
      refine lv_istore_n (lv' := [(2, .int (-1)), (0, .ref t_h), (1, .int v1)]) hx hb dX7_exchange_31 rfl hl (by decide) rfl (fun ls hl => ?_)
      refine lv_iconst (v := (-1)) hx hb dX7_exchange_32 (by decide) ?_
      refine lv_istore_n (lv' := [(3, .int (-1)), (2, .int (-1)), (0, .ref t_h), (1, .int v1)]) hx hb dX7_exchange_33 rfl hl (by decide) rfl (fun ls hl => ?_)
      refine lv_iconst (v := (-1)) hx hb dX7_exchange_34 (by decide) ?_
      refine lv_istore (lv' := [(4, .int (-1)), (3, .int (-1)), (2, .int (-1)), (0, .ref t_h), (1, .int v1)]) hx hb dX7_exchange_35 hl (by decide) rfl (fun ls hl => ?_)
      refine lv_iconst (v := 0) hx hb dX7_exchange_37 (by decide) ?_
      refine lv_istore (lv' := [(5, .int 0), (4, .int (-1)), (3, .int (-1)), (2, .int (-1)), (0, .ref t_h), (1, .int v1)]) hx hb dX7_exchange_38 hl (by decide) rfl (fun ls hl => ?_)
      refine L40 _ _ _ _ _ _ _ _ _ _ _ _ _ hP hD hS (lv_sub hl [4, 5, 3, 2, 1, 0] rfl) hf (fun w_18 w_19 w_20 wy_rest_21 H locs ls hP hD hS hl hf => ?_)
      refine lv_iload_n hx hb dX7_exchange_133 rfl (lv_at hl 0 rfl) ?_
      refine lv_if_ne (tgt := 139) hx hb dX7_exchange_134 (by decide) (fun c_22 => ?_) (fun c_22 => ?_)
      · have hf := iq c_22 hf
        refine lv_iload_n hx hb dX7_exchange_139 rfl (lv_at hl 0 rfl) ?_
        refine lv_iconst (v := 1) hx hb dX7_exchange_140 (by decide) ?_
        refine lv_icmp_ne (tgt := 148) hx hb dX7_exchange_141 (by decide) (fun c_23 => ?_) (fun c_23 => ?_)
        · have hf := iq c_23 hf
          refine lv_iload hx hb dX7_exchange_148 (lv_at hl 3 rfl) ?_
          exact hRet _ _ _ _ _ _ _ _ _ hf hP hS dX7_exchange_150
        · have hf := ip c_23 hf
          refine lv_iload_n hx hb dX7_exchange_144 rfl (lv_at hl 2 rfl) ?_
          refine lv_goto (tgt := 150) hx hb dX7_exchange_145 (by decide) ?_
          exact hRet _ _ _ _ _ _ _ _ _ hf hP hS dX7_exchange_150
      · have hf := ip c_22 hf
        refine lv_iload_n hx hb dX7_exchange_137 rfl (lv_at hl 1 rfl) ?_
        exact hRet _ _ _ _ _ _ _ _ _ hf hP hS dX7_exchange_138
    · have hf := iq c_2 hf
      refine lv_bipush (v := (-2)) hx hb dX7_exchange_9 (by decide) ?_
      exact hRet _ _ _ _ _ _ _ _ _ hf hP hS dX7_exchange_11
theorem calX7_missing : CalV yX7_missing cX7_missing 4 (some .int) 3 := ⟨⟨kw_38_13, kw_1_2, by decide +kernel⟩, kw_38_11, kw_38_12⟩
set_option maxHeartbeats 8000000 in
set_option maxRecDepth 100000 in
theorem ctX7_missing (l : Launch) (G : GT) (t_h : Nat) (t_a : Nat → Nat) (now_h : Nat) (now_a : Nat → Nat) (wy_h : Nat) (wy_a : Nat → Nat) (gp_h : Nat) (gp_a : Nat → Nat) (rd_h : Nat) (sp_h : Nat) (ch_h : Nat) (sb_h : Nat) (now_windows : Int32) (now_washes : Int32) (now_damp : Int32) (now_heard : Int32) (now_lines : Int32) (now_hour : Int32) (now_strings : Int32) (now_cans : Nat → Int32) (now_washPairs : Nat → Int32) (now_washHours : Nat → Int32) (now_pairs : Nat → Int32) (now_knots : Nat → Int32) (wy_windows : Int32) (wy_links : Nat → Int32) (wy_prices : Nat → Int32) (wy_goal : Int32) (wy_otherFrom : Int32) (wy_otherTo : Int32) (wy_least : Int32) (gp_size : Int32) (gp_first : Int32) (gp_second : Int32) (v1 : Int32) (v2 : Int32) (v3 : Int32) (r : Int32) (o_now_strings : Int32) (o_now_pairs : Nat → Int32) (o_now_knots : Nat → Int32) (o_wy_windows : Int32) (o_wy_links : Nat → Int32) (o_wy_prices : Nat → Int32) (o_gp_size : Int32) (o_gp_first : Int32) (o_gp_second : Int32) (hf : fX7_missing now_windows now_washes now_damp now_hour now_strings now_cans now_washPairs now_washHours now_pairs now_knots wy_windows wy_links wy_prices gp_size gp_first gp_second v1 v2 v3 = some (r, o_now_strings, o_now_pairs, o_now_knots, o_wy_windows, o_wy_links, o_wy_prices, o_gp_size, o_gp_first, o_gp_second)) : WrI l yX7_missing (Cond.code yX7_missing cX7_missing 4 (some .int)) { frames := 7, cells := 0, slots := 0, locals := 167 } G [.ref t_h, .int v1, .int v2, .int v3] [oX7 t_h t_a rd_h now_h sp_h wy_h gp_h ch_h sb_h, oX1 now_h now_a now_windows now_washes now_damp now_heard now_lines now_hour now_strings, arI G (now_a 7) 12 now_cans, arI G (now_a 8) 8 now_washPairs, arI G (now_a 9) 8 now_washHours, arI G (now_a 10) 21 now_pairs, arI G (now_a 11) 21 now_knots, oX6 wy_h wy_a wy_windows wy_goal wy_otherFrom wy_otherTo wy_least, arI G (wy_a 1) 12 wy_links, arI G (wy_a 2) 144 wy_prices, oX2 gp_h gp_a gp_size gp_first gp_second] [oX7 t_h t_a rd_h now_h sp_h wy_h gp_h ch_h sb_h, oX1 now_h now_a now_windows now_washes now_damp now_heard now_lines now_hour o_now_strings, arI G (now_a 7) 12 now_cans, arI G (now_a 8) 8 now_washPairs, arI G (now_a 9) 8 now_washHours, arI G (now_a 10) 21 o_now_pairs, arI G (now_a 11) 21 o_now_knots, oX6 wy_h wy_a o_wy_windows wy_goal wy_otherFrom wy_otherTo wy_least, arI G (wy_a 1) 12 o_wy_links, arI G (wy_a 2) 144 o_wy_prices, oX2 gp_h gp_a o_gp_size o_gp_first o_gp_second] r := by
  intro sz
  refine Met.ofW (cc := cX7_missing) (maxL := 4) (ret := (some .int)) (by decide) rfl ?_
  intro p e s m args below meth c s₁ B hml hv
  obtain ⟨hargs, hsz, hP, hD0, hK⟩ := hv
  subst hsz
  obtain ⟨hx, hb, hr, hw, hown, hlk⟩ := fwB B
  refine fw_enter hargs (Nat.le_of_ble_eq_true rfl) (fun ls hl => ?_)
  have hl : lv_has ls 4 [(0, .ref t_h), (1, .int v1), (2, .int v2), (3, .int v3)] := hl
  refine fw_Q (P := fun Q => ∃ A : Nat → Prop, va_D A [oX7 t_h t_a rd_h now_h sp_h wy_h gp_h ch_h sb_h, oX1 now_h now_a now_windows now_washes now_damp now_heard now_lines now_hour now_strings, arI G (now_a 7) 12 now_cans, arI G (now_a 8) 8 now_washPairs, arI G (now_a 9) 8 now_washHours, arI G (now_a 10) 21 now_pairs, arI G (now_a 11) 21 now_knots, oX6 wy_h wy_a wy_windows wy_goal wy_otherFrom wy_otherTo wy_least, arI G (wy_a 1) 12 wy_links, arI G (wy_a 2) 144 wy_prices, oX2 gp_h gp_a gp_size gp_first gp_second] ∧ va_S A s.heap s.heap [] ∧ (∀ q, s.heap.size ≤ q → A q) ∧ ∀ (v : Int32) (n_now_strings : Int32) (n_now_pairs : Nat → Int32) (n_now_knots : Nat → Int32) (n_wy_windows : Int32) (n_wy_links : Nat → Int32) (n_wy_prices : Nat → Int32) (n_gp_size : Int32) (n_gp_first : Int32) (n_gp_second : Int32) (H : Heap) (locs : List Loc) (pc : Nat) (ls : Array Slot), some (v, n_now_strings, n_now_pairs, n_now_knots, n_wy_windows, n_wy_links, n_wy_prices, n_gp_size, n_gp_first, n_gp_second) = some (r, o_now_strings, o_now_pairs, o_now_knots, o_wy_windows, o_wy_links, o_wy_prices, o_gp_size, o_gp_first, o_gp_second) → va_P G.1 vwCl [oX7 t_h t_a rd_h now_h sp_h wy_h gp_h ch_h sb_h, oX1 now_h now_a now_windows now_washes now_damp now_heard now_lines now_hour n_now_strings, arI G (now_a 7) 12 now_cans, arI G (now_a 8) 8 now_washPairs, arI G (now_a 9) 8 now_washHours, arI G (now_a 10) 21 n_now_pairs, arI G (now_a 11) 21 n_now_knots, oX6 wy_h wy_a n_wy_windows wy_goal wy_otherFrom wy_otherTo wy_least, arI G (wy_a 1) 12 n_wy_links, arI G (wy_a 2) 144 n_wy_prices, oX2 gp_h gp_a n_gp_size n_gp_first n_gp_second] H → va_S A s.heap H locs → decode cX7_missing pc = .ok (.ireturn, 1) → W p l e ({ frames := 7, cells := 0, slots := 0, locals := 167 } : Room) s m args below meth c H locs 0 0 Q (F0 m pc ls [.int v])) ⟨va_A [oX7 t_h t_a rd_h now_h sp_h wy_h gp_h ch_h sb_h, oX1 now_h now_a now_windows now_washes now_damp now_heard now_lines now_hour now_strings, arI G (now_a 7) 12 now_cans, arI G (now_a 8) 8 now_washPairs, arI G (now_a 9) 8 now_washHours, arI G (now_a 10) 21 now_pairs, arI G (now_a 11) 21 now_knots, oX6 wy_h wy_a wy_windows wy_goal wy_otherFrom wy_otherTo wy_least, arI G (wy_a 1) 12 wy_links, arI G (wy_a 2) 144 wy_prices, oX2 gp_h gp_a gp_size gp_first gp_second] s.heap.size, hD0.self (sz := s.heap.size), va_S.rf, fun q h => Or.inr h, ?_⟩ ?_
  · intro v n_now_strings n_now_pairs n_now_knots n_wy_windows n_wy_links n_wy_prices n_gp_size n_gp_first n_gp_second H locs pc ls h hP hS hd
    cases h
    exact retWI hx hb hr hlk hS hP rfl hd
  rintro Q ⟨A, hD, hS, hA, hRet⟩
  change W p l e ({ frames := 7, cells := 0, slots := 0, locals := 167 } : Room) s m args below meth c _ _ 0 0 Q _
  unfold fX7_missing at hf
  refine lv_aload_n hx hb dX7_missing_0 rfl (lv_at hl 0 rfl) ?_
  refine lv_iload_n hx hb dX7_missing_1 rfl (lv_at hl 1 rfl) ?_
  refine lv_iload_n hx hb dX7_missing_2 rfl (lv_at hl 2 rfl) ?_
  obtain ⟨r_1, hc_2, hf⟩ := bd1_in hf
  refine rcI (va_runV (As := [.int v1, .int v2]) (rest := []) ⟨hx, hb, hml, hown, hw⟩ ((ctX7_areTwoWindows l G t_h t_a now_h now_a rd_h sp_h wy_h gp_h ch_h sb_h now_windows now_washes now_damp now_heard now_lines now_hour now_strings v1 v2 _ hc_2) _) (kV hw calX7_areTwoWindows kw_27_17 rfl rfl ⟨Nat.le_of_ble_eq_true rfl, Nat.le_of_ble_eq_true rfl⟩) (rpV (hP.sub (ws' := [oX7 t_h t_a rd_h now_h sp_h wy_h gp_h ch_h sb_h, oX1 now_h now_a now_windows now_washes now_damp now_heard now_lines now_hour now_strings]) [0, 1] rfl) hK (ci := 7) (q0 := 0) rfl rfl) rfl rfl hl.1 rfl (lv_room (Nat.le_of_ble_eq_true rfl)) dX7_missing_3 ⟨Nat.zero_le _, Nat.zero_le _⟩) hS hA hP (fun H locs hP hS => ?_)
  refine lv_if_eq (tgt := 18) hx hb dX7_missing_6 (by decide) (fun c_3 => ?_) (fun c_3 => ?_)
  · have hf := ip c_3 hf
    refine lv_bipush (v := (-2)) hx hb dX7_missing_18 (by decide) ?_
    exact hRet _ _ _ _ _ _ _ _ _ _ _ _ _ _ hf hP hS dX7_missing_20
  · have hf := iq c_3 hf
    refine lv_iload_n hx hb dX7_missing_9 rfl (lv_at hl 3 rfl) ?_
    refine lv_if_lt (tgt := 18) hx hb dX7_missing_10 (by decide) (fun c_4 => ?_) (fun c_4 => ?_)
    · have hf := ip c_4 hf
      refine lv_bipush (v := (-2)) hx hb dX7_missing_18 (by decide) ?_
      exact hRet _ _ _ _ _ _ _ _ _ _ _ _ _ _ hf hP hS dX7_missing_20
    · have hf := iq c_4 hf
      refine lv_iload_n hx hb dX7_missing_13 rfl (lv_at hl 3 rfl) ?_
      refine lv_iconst (v := 2) hx hb dX7_missing_14 (by decide) ?_
      refine lv_icmp_le (tgt := 21) hx hb dX7_missing_15 (by decide) (fun c_5 => ?_) (fun c_5 => ?_)
      · have hf := ip c_5 hf
        refine lv_aload_n hx hb dX7_missing_21 rfl (lv_at hl 0 rfl) ?_
        refine va_get (D := G.1) (ci := 7) (v := .ref wy_h) (C := RX7) (T := TX7) (N := 10) hx hb hw inW7 hown hK.1 hP 0 rfl rfl 3 (by decide) (hw _ kw_2_1) (fun _ h9 => h9) rfl dX7_missing_22 ?_
        refine lv_aload_n hx hb dX7_missing_25 rfl (lv_at hl 0 rfl) ?_
        refine va_get (D := G.1) (ci := 7) (v := .ref now_h) (C := RX7) (T := TX7) (N := 10) hx hb hw inW7 hown hK.1 hP 0 rfl rfl 1 (by decide) (hw _ kw_1_20) (fun _ h9 => h9) rfl dX7_missing_26 ?_
        refine lv_aload_n hx hb dX7_missing_29 rfl (lv_at hl 0 rfl) ?_
        refine va_get (D := G.1) (ci := 7) (v := .ref now_h) (C := RX7) (T := TX7) (N := 10) hx hb hw inW7 hown hK.1 hP 0 rfl rfl 1 (by decide) (hw _ kw_1_20) (fun _ h9 => h9) rfl dX7_missing_30 ?_
        refine va_getN (D := G.1) (ci := 1) (v := .int now_hour) (C := RX1) (T := TX1) (N := 12) hx hb hw inW1 hown hK.1 hP 1 rfl rfl 5 (by decide) ((nf_16 hK.2).use rfl) (fun _ h9 => h9) rfl dX7_missing_33 ?_
        obtain ⟨wy_windows_6, wy_links_7, wy_prices_8, hc_9, hf⟩ := bd3_in hf
        refine wcV (w1 := [oX6 wy_h wy_a wy_windows_6 wy_goal wy_otherFrom wy_otherTo wy_least, arI G (wy_a 1) 12 wy_links_7, arI G (wy_a 2) 144 wy_prices_8, oX1 now_h now_a now_windows now_washes now_damp now_heard now_lines now_hour now_strings, arI G (now_a 8) 8 now_washPairs, arI G (now_a 9) 8 now_washHours, arI G (now_a 10) 21 now_pairs, arI G (now_a 11) 21 now_knots]) (va_runV (As := [.ref now_h, .int now_hour]) (rest := []) ⟨hx, hb, hml, hown, hw⟩ ((ctX6_takeStrings l G wy_h wy_a now_h now_a wy_windows wy_links wy_prices wy_goal wy_otherFrom wy_otherTo wy_least now_windows now_washes now_damp now_heard now_lines now_hour now_strings now_washPairs now_washHours now_pairs now_knots now_hour _ _ _ hc_9) _) (kV hw calX6_takeStrings kw_18_10 rfl rfl ⟨Nat.le_of_ble_eq_true rfl, Nat.le_of_ble_eq_true rfl⟩) (wpV (hP.sub (ws' := [oX6 wy_h wy_a wy_windows wy_goal wy_otherFrom wy_otherTo wy_least, arI G (wy_a 1) 12 wy_links, arI G (wy_a 2) 144 wy_prices, oX1 now_h now_a now_windows now_washes now_damp now_heard now_lines now_hour now_strings, arI G (now_a 8) 8 now_washPairs, arI G (now_a 9) 8 now_washHours, arI G (now_a 10) 21 now_pairs, arI G (now_a 11) 21 now_knots]) [7, 8, 9, 1, 3, 4, 5, 6] rfl) (hD.sub (ws' := [oX6 wy_h wy_a wy_windows wy_goal wy_otherFrom wy_otherTo wy_least, arI G (wy_a 1) 12 wy_links, arI G (wy_a 2) 144 wy_prices, oX1 now_h now_a now_windows now_washes now_damp now_heard now_lines now_hour now_strings, arI G (now_a 8) 8 now_washPairs, arI G (now_a 9) 8 now_washHours, arI G (now_a 10) 21 now_pairs, arI G (now_a 11) 21 now_knots]) [7, 8, 9, 1, 3, 4, 5, 6] (by decide) rfl) hK (ci := 6) (q0 := 0) rfl rfl) rfl rfl hl.1 rfl (lv_room (Nat.le_of_ble_eq_true rfl)) dX7_missing_36 ⟨Nat.zero_le _, Nat.zero_le _⟩) hS hA hP hD [7, 8, 9, 1, 3, 4, 5, 6] rfl rfl (fun H locs hP hD hS => ?_)
        have hP : va_P G.1 vwCl [oX7 t_h t_a rd_h now_h sp_h wy_h gp_h ch_h sb_h, oX1 now_h now_a now_windows now_washes now_damp now_heard now_lines now_hour now_strings, arI G (now_a 7) 12 now_cans, arI G (now_a 8) 8 now_washPairs, arI G (now_a 9) 8 now_washHours, arI G (now_a 10) 21 now_pairs, arI G (now_a 11) 21 now_knots, oX6 wy_h wy_a wy_windows_6 wy_goal wy_otherFrom wy_otherTo wy_least, arI G (wy_a 1) 12 wy_links_7, arI G (wy_a 2) 144 wy_prices_8, oX2 gp_h gp_a gp_size gp_first gp_second] H := hP
        have hD : va_D A [oX7 t_h t_a rd_h now_h sp_h wy_h gp_h ch_h sb_h, oX1 now_h now_a now_windows now_washes now_damp now_heard now_lines now_hour now_strings, arI G (now_a 7) 12 now_cans, arI G (now_a 8) 8 now_washPairs, arI G (now_a 9) 8 now_washHours, arI G (now_a 10) 21 now_pairs, arI G (now_a 11) 21 now_knots, oX6 wy_h wy_a wy_windows_6 wy_goal wy_otherFrom wy_otherTo wy_least, arI G (wy_a 1) 12 wy_links_7, arI G (wy_a 2) 144 wy_prices_8, oX2 gp_h gp_a gp_size gp_first gp_second] := hD
        refine lv_aload_n hx hb dX7_missing_39 rfl (lv_at hl 0 rfl) ?_
        refine va_get (D := G.1) (ci := 7) (v := .ref gp_h) (C := RX7) (T := TX7) (N := 10) hx hb hw inW7 hown hK.1 hP 0 rfl rfl 4 (by decide) (hw _ kw_2_5) (fun _ h9 => h9) rfl dX7_missing_40 ?_
        refine lv_aload_n hx hb dX7_missing_43 rfl (lv_at hl 0 rfl) ?_
        refine va_get (D := G.1) (ci := 7) (v := .ref now_h) (C := RX7) (T := TX7) (N := 10) hx hb hw inW7 hown hK.1 hP 0 rfl rfl 1 (by decide) (hw _ kw_1_20) (fun _ h9 => h9) rfl dX7_missing_44 ?_
        refine lv_aload_n hx hb dX7_missing_47 rfl (lv_at hl 0 rfl) ?_
        refine va_get (D := G.1) (ci := 7) (v := .ref wy_h) (C := RX7) (T := TX7) (N := 10) hx hb hw inW7 hown hK.1 hP 0 rfl rfl 3 (by decide) (hw _ kw_2_1) (fun _ h9 => h9) rfl dX7_missing_48 ?_
        refine lv_iload_n hx hb dX7_missing_51 rfl (lv_at hl 1 rfl) ?_
        refine lv_iload_n hx hb dX7_missing_52 rfl (lv_at hl 2 rfl) ?_
        obtain ⟨gp_size_10, gp_first_11, gp_second_12, now_strings_13, now_pairs_14, now_knots_15, wy_links_16, hc_17, hf⟩ := bd7_in hf
        refine wcV (w1 := [oX2 gp_h gp_a gp_size_10 gp_first_11 gp_second_12, oX1 now_h now_a now_windows now_washes now_damp now_heard now_lines now_hour now_strings_13, arI G (now_a 7) 12 now_cans, arI G (now_a 8) 8 now_washPairs, arI G (now_a 9) 8 now_washHours, arI G (now_a 10) 21 now_pairs_14, arI G (now_a 11) 21 now_knots_15, oX6 wy_h wy_a wy_windows_6 wy_goal wy_otherFrom wy_otherTo wy_least, arI G (wy_a 1) 12 wy_links_16]) (va_runV (As := [.ref now_h, .ref wy_h, .int v1, .int v2]) (rest := []) ⟨hx, hb, hml, hown, hw⟩ ((ctX2_seek l G gp_h gp_a now_h now_a wy_h wy_a gp_size gp_first gp_second now_windows now_washes now_damp now_heard now_lines now_hour now_strings now_cans now_washPairs now_washHours now_pairs now_knots wy_windows_6 wy_links_7 wy_goal wy_otherFrom wy_otherTo wy_least v1 v2 _ _ _ _ _ _ _ hc_17) _) (kV hw calX2_seek kw_38_14 rfl rfl ⟨Nat.le_of_ble_eq_true rfl, Nat.le_of_ble_eq_true rfl⟩) (wpV (hP.sub (ws' := [oX2 gp_h gp_a gp_size gp_first gp_second, oX1 now_h now_a now_windows now_washes now_damp now_heard now_lines now_hour now_strings, arI G (now_a 7) 12 now_cans, arI G (now_a 8) 8 now_washPairs, arI G (now_a 9) 8 now_washHours, arI G (now_a 10) 21 now_pairs, arI G (now_a 11) 21 now_knots, oX6 wy_h wy_a wy_windows_6 wy_goal wy_otherFrom wy_otherTo wy_least, arI G (wy_a 1) 12 wy_links_7]) [10, 1, 2, 3, 4, 5, 6, 7, 8] rfl) (hD.sub (ws' := [oX2 gp_h gp_a gp_size gp_first gp_second, oX1 now_h now_a now_windows now_washes now_damp now_heard now_lines now_hour now_strings, arI G (now_a 7) 12 now_cans, arI G (now_a 8) 8 now_washPairs, arI G (now_a 9) 8 now_washHours, arI G (now_a 10) 21 now_pairs, arI G (now_a 11) 21 now_knots, oX6 wy_h wy_a wy_windows_6 wy_goal wy_otherFrom wy_otherTo wy_least, arI G (wy_a 1) 12 wy_links_7]) [10, 1, 2, 3, 4, 5, 6, 7, 8] (by decide) rfl) hK (ci := 2) (q0 := 0) rfl rfl) rfl rfl hl.1 rfl (lv_room (Nat.le_of_ble_eq_true rfl)) dX7_missing_53 ⟨Nat.zero_le _, Nat.zero_le _⟩) hS hA hP hD [10, 1, 2, 3, 4, 5, 6, 7, 8] rfl rfl (fun H locs hP hD hS => ?_)
        have hP : va_P G.1 vwCl [oX7 t_h t_a rd_h now_h sp_h wy_h gp_h ch_h sb_h, oX1 now_h now_a now_windows now_washes now_damp now_heard now_lines now_hour now_strings_13, arI G (now_a 7) 12 now_cans, arI G (now_a 8) 8 now_washPairs, arI G (now_a 9) 8 now_washHours, arI G (now_a 10) 21 now_pairs_14, arI G (now_a 11) 21 now_knots_15, oX6 wy_h wy_a wy_windows_6 wy_goal wy_otherFrom wy_otherTo wy_least, arI G (wy_a 1) 12 wy_links_16, arI G (wy_a 2) 144 wy_prices_8, oX2 gp_h gp_a gp_size_10 gp_first_11 gp_second_12] H := hP
        have hD : va_D A [oX7 t_h t_a rd_h now_h sp_h wy_h gp_h ch_h sb_h, oX1 now_h now_a now_windows now_washes now_damp now_heard now_lines now_hour now_strings_13, arI G (now_a 7) 12 now_cans, arI G (now_a 8) 8 now_washPairs, arI G (now_a 9) 8 now_washHours, arI G (now_a 10) 21 now_pairs_14, arI G (now_a 11) 21 now_knots_15, oX6 wy_h wy_a wy_windows_6 wy_goal wy_otherFrom wy_otherTo wy_least, arI G (wy_a 1) 12 wy_links_16, arI G (wy_a 2) 144 wy_prices_8, oX2 gp_h gp_a gp_size_10 gp_first_11 gp_second_12] := hD
        refine lv_iload_n hx hb dX7_missing_56 rfl (lv_at hl 3 rfl) ?_
        refine lv_if_ne (tgt := 68) hx hb dX7_missing_57 (by decide) (fun c_18 => ?_) (fun c_18 => ?_)
        · have hf := iq c_18 hf
          refine lv_iload_n hx hb dX7_missing_68 rfl (lv_at hl 3 rfl) ?_
          refine lv_iconst (v := 1) hx hb dX7_missing_69 (by decide) ?_
          refine lv_icmp_ne (tgt := 83) hx hb dX7_missing_70 (by decide) (fun c_19 => ?_) (fun c_19 => ?_)
          · have hf := iq c_19 hf
            refine lv_aload_n hx hb dX7_missing_83 rfl (lv_at hl 0 rfl) ?_
            refine va_get (D := G.1) (ci := 7) (v := .ref gp_h) (C := RX7) (T := TX7) (N := 10) hx hb hw inW7 hown hK.1 hP 0 rfl rfl 4 (by decide) (hw _ kw_2_5) (fun _ h9 => h9) rfl dX7_missing_84 ?_
            refine va_getN (D := G.1) (ci := 2) (v := .int gp_second_12) (C := RX2) (T := TX2) (N := 3) hx hb hw inW2 hown hK.1 hP 10 rfl rfl 2 (by decide) ((nf_30 hK.2).use rfl) (fun _ h9 => h9) rfl dX7_missing_87 ?_
            exact hRet _ _ _ _ _ _ _ _ _ _ _ _ _ _ hf hP hS dX7_missing_90
          · have hf := ip c_19 hf
            refine lv_aload_n hx hb dX7_missing_73 rfl (lv_at hl 0 rfl) ?_
            refine va_get (D := G.1) (ci := 7) (v := .ref gp_h) (C := RX7) (T := TX7) (N := 10) hx hb hw inW7 hown hK.1 hP 0 rfl rfl 4 (by decide) (hw _ kw_2_5) (fun _ h9 => h9) rfl dX7_missing_74 ?_
            refine va_getN (D := G.1) (ci := 2) (v := .int gp_first_11) (C := RX2) (T := TX2) (N := 3) hx hb hw inW2 hown hK.1 hP 10 rfl rfl 1 (by decide) ((nf_29 hK.2).use rfl) (fun _ h9 => h9) rfl dX7_missing_77 ?_
            refine lv_goto (tgt := 90) hx hb dX7_missing_80 (by decide) ?_
            exact hRet _ _ _ _ _ _ _ _ _ _ _ _ _ _ hf hP hS dX7_missing_90
        · have hf := ip c_18 hf
          refine lv_aload_n hx hb dX7_missing_60 rfl (lv_at hl 0 rfl) ?_
          refine va_get (D := G.1) (ci := 7) (v := .ref gp_h) (C := RX7) (T := TX7) (N := 10) hx hb hw inW7 hown hK.1 hP 0 rfl rfl 4 (by decide) (hw _ kw_2_5) (fun _ h9 => h9) rfl dX7_missing_61 ?_
          refine va_getN (D := G.1) (ci := 2) (v := .int gp_size_10) (C := RX2) (T := TX2) (N := 3) hx hb hw inW2 hown hK.1 hP 10 rfl rfl 0 (by decide) ((nf_28 hK.2).use rfl) (fun _ h9 => h9) rfl dX7_missing_64 ?_
          exact hRet _ _ _ _ _ _ _ _ _ _ _ _ _ _ hf hP hS dX7_missing_67
      · have hf := iq c_5 hf
        refine lv_bipush (v := (-2)) hx hb dX7_missing_18 (by decide) ?_
        exact hRet _ _ _ _ _ _ _ _ _ _ _ _ _ _ hf hP hS dX7_missing_20
theorem calX7_pairsRefusal : CalV yX7_pairsRefusal cX7_pairsRefusal 4 (some .int) 1 := ⟨⟨kw_40_2, kw_1_2, by decide +kernel⟩, kw_40_0, kw_40_1⟩
set_option maxHeartbeats 8000000 in
set_option maxRecDepth 100000 in
theorem ctX7_pairsRefusal (l : Launch) (G : GT) (t_h : Nat) (t_a : Nat → Nat) (now_h : Nat) (now_a : Nat → Nat) (row_h : Nat) (row_a : Nat → Nat) (rd_h : Nat) (sp_h : Nat) (wy_h : Nat) (gp_h : Nat) (ch_h : Nat) (sb_h : Nat) (t_rows : Nat → Option Nat) (now_windows : Int32) (now_washes : Int32) (now_damp : Int32) (now_heard : Int32) (now_lines : Int32) (now_hour : Int32) (now_strings : Int32) (row_values : Nat → Int64) (row_sort : Int32) (row_size : Int32) (v1 : Int32) (h_row : vp_in v1 4 → va_rf (t_rows v1.toNatClampNeg) = .ref row_h) (r : Int32) (hf : fX7_pairsRefusal now_windows row_values row_size v1 = some r) : RdI l yX7_pairsRefusal (Cond.code yX7_pairsRefusal cX7_pairsRefusal 4 (some .int)) { frames := 2, cells := 0, slots := 0, locals := 43 } G [.ref t_h, .int v1] [oX7 t_h t_a rd_h now_h sp_h wy_h gp_h ch_h sb_h, arR G (t_a 7) 4 t_rows, oX1 now_h now_a now_windows now_washes now_damp now_heard now_lines now_hour now_strings, oX4 row_h row_a row_sort row_size, arJ G (row_a 0) 40 row_values] r := by
  intro sz
  refine Met.ofW (cc := cX7_pairsRefusal) (maxL := 4) (ret := (some .int)) (by decide) rfl ?_
  intro p e s m args below meth c s₁ B hml hv
  obtain ⟨hargs, hsz, hP, hK⟩ := hv
  subst hsz
  obtain ⟨hx, hb, hr, hw, hown, hlk⟩ := fwB B
  refine fw_enter hargs (Nat.le_of_ble_eq_true rfl) (fun ls hl => ?_)
  have hl : lv_has ls 4 [(0, .ref t_h), (1, .int v1)] := hl
  refine fw_Q (P := fun Q => ∃ A : Nat → Prop, va_S A s.heap s.heap [] ∧ (∀ q, s.heap.size ≤ q → A q) ∧ ∀ (v : Int32) (H : Heap) (locs : List Loc) (pc : Nat) (ls : Array Slot), some v = some r → va_S A s.heap H locs → decode cX7_pairsRefusal pc = .ok (.ireturn, 1) → W p l e ({ frames := 2, cells := 0, slots := 0, locals := 43 } : Room) s m args below meth c H locs 0 0 Q (F0 m pc ls [.int v])) ⟨fun q => s.heap.size ≤ q, va_S.rf, fun q h => h, fun v H locs pc ls h hS hd => retRI hx hb hr hlk hS h hd⟩ ?_
  rintro Q ⟨A, hS, hA, hRet⟩
  change W p l e ({ frames := 2, cells := 0, slots := 0, locals := 43 } : Room) s m args below meth c _ _ 0 0 Q _
  have L14 : ∀  (K : Option Int32) (n : Nat) (l3 : Int32) (H : Heap) (locs : List Loc) (ls : Array Slot), va_P G.1 vwCl [oX7 t_h t_a rd_h now_h sp_h wy_h gp_h ch_h sb_h, arR G (t_a 7) 4 t_rows, oX1 now_h now_a now_windows now_washes now_damp now_heard now_lines now_hour now_strings, oX4 row_h row_a row_sort row_size, arJ G (row_a 0) 40 row_values] H → va_S A s.heap H locs → lv_has ls 4 [(0, .ref t_h), (1, .int v1), (3, .int l3)] → fX7_pairsRefusal_14 v1 now_windows row_values row_size K n l3 = some r → (∀  (H : Heap) (locs : List Loc) (ls : Array Slot), va_P G.1 vwCl [oX7 t_h t_a rd_h now_h sp_h wy_h gp_h ch_h sb_h, arR G (t_a 7) 4 t_rows, oX1 now_h now_a now_windows now_washes now_damp now_heard now_lines now_hour now_strings, oX4 row_h row_a row_sort row_size, arJ G (row_a 0) 40 row_values] H → va_S A s.heap H locs → lv_has ls 4 [] → K = some r → W p l e ({ frames := 2, cells := 0, slots := 0, locals := 43 } : Room) s m args below meth c H locs 0 0 Q (F0 m 56 ls [])) → W p l e ({ frames := 2, cells := 0, slots := 0, locals := 43 } : Room) s m args below meth c H locs 0 0 Q (F0 m 14 ls []) := by
    intro  K n
    induction n with
    | zero => intro l3 H locs ls hP hS hl hf; rw [fX7_pairsRefusal_14] at hf; cases hf
    | succ n ih =>
      intro l3 H locs ls hP hS hl hf hX
      rw [fX7_pairsRefusal_14] at hf
      refine lv_iload_n hx hb dX7_pairsRefusal_14 rfl (lv_at hl 2 rfl) ?_
      refine lv_aload_n hx hb dX7_pairsRefusal_15 rfl (lv_at hl 0 rfl) ?_
      refine va_get (D := G.1) (ci := 7) (v := .ref (t_a 7)) (C := RX7) (T := TX7) (N := 10) hx hb hw inW7 hown hK.1 hP 0 rfl rfl 7 (by decide) (hw _ kw_2_15) (fun _ h9 => h9) rfl dX7_pairsRefusal_16 ?_
      refine lv_iload_n hx hb dX7_pairsRefusal_19 rfl (lv_at hl 1 rfl) ?_
      obtain ⟨hi_q, hf⟩ := ckI_in hf
      refine va_aldq hx hb hK.1 hP 1 5 rfl rfl hi_q dX7_pairsRefusal_20 ?_
      rw [h_row hi_q]
      refine va_getN (D := G.1) (ci := 4) (v := .int row_size) (C := RX4) (T := TX4) (N := 3) hx hb hw inW4 hown hK.1 hP 3 rfl rfl 2 (by decide) ((nf_39 hK.2).use rfl) (fun _ h9 => h9) rfl dX7_pairsRefusal_21 ?_
      refine lv_icmp_ge (tgt := 56) hx hb dX7_pairsRefusal_24 (by decide) (fun c_4 => ?_) (fun c_4 => ?_)
      · have hf := ip c_4 hf
        exact hX  _ _ _ hP hS (lv_sub hl [] rfl) hf
      · have hf := iq c_4 hf
        refine lv_aload_n hx hb dX7_pairsRefusal_27 rfl (lv_at hl 0 rfl) ?_
        refine va_get (D := G.1) (ci := 7) (v := .ref now_h) (C := RX7) (T := TX7) (N := 10) hx hb hw inW7 hown hK.1 hP 0 rfl rfl 1 (by decide) (hw _ kw_1_20) (fun _ h9 => h9) rfl dX7_pairsRefusal_28 ?_
        refine lv_aload_n hx hb dX7_pairsRefusal_31 rfl (lv_at hl 0 rfl) ?_
        refine va_get (D := G.1) (ci := 7) (v := .ref (t_a 7)) (C := RX7) (T := TX7) (N := 10) hx hb hw inW7 hown hK.1 hP 0 rfl rfl 7 (by decide) (hw _ kw_2_15) (fun _ h9 => h9) rfl dX7_pairsRefusal_32 ?_
        refine lv_iload_n hx hb dX7_pairsRefusal_35 rfl (lv_at hl 1 rfl) ?_
        obtain ⟨hi_q, hf⟩ := ckI_in hf
        refine va_aldq hx hb hK.1 hP 1 5 rfl rfl hi_q dX7_pairsRefusal_36 ?_
        rw [h_row hi_q]
        refine lv_iload_n hx hb dX7_pairsRefusal_37 rfl (lv_at hl 2 rfl) ?_
        obtain ⟨r_5, hc_6, hf⟩ := bd1_in hf
        refine rcL (va_runV (As := [.int l3]) (rest := [.ref now_h]) ⟨hx, hb, hml, hown, hw⟩ ((ctX4_numberAt l G row_h row_a row_values row_sort row_size l3 _ hc_6) _) (kV hw calX4_numberAt kw_25_9 rfl rfl ⟨Nat.le_of_ble_eq_true rfl, Nat.le_of_ble_eq_true rfl⟩) (rpV (hP.sub (ws' := [oX4 row_h row_a row_sort row_size, arJ G (row_a 0) 40 row_values]) [3, 4] rfl) hK (ci := 4) (q0 := 0) rfl rfl) rfl rfl hl.1 rfl (lv_room (Nat.le_of_ble_eq_true rfl)) dX7_pairsRefusal_38 ⟨Nat.zero_le _, Nat.zero_le _⟩) hS hA hP (fun H locs hP hS => ?_)
        obtain ⟨r_7, hc_8, hf⟩ := bd1_in hf
        refine rcI (va_runV (As := [.long r_5]) (rest := []) ⟨hx, hb, hml, hown, hw⟩ ((ctX1_hasPair l G now_h now_a now_windows now_washes now_damp now_heard now_lines now_hour now_strings r_5 _ hc_8) _) (kV hw calX1_hasPair kw_21_7 rfl rfl ⟨Nat.le_of_ble_eq_true rfl, Nat.le_of_ble_eq_true rfl⟩) (rpV (hP.sub (ws' := [oX1 now_h now_a now_windows now_washes now_damp now_heard now_lines now_hour now_strings]) [2] rfl) hK (ci := 1) (q0 := 0) rfl rfl) rfl rfl hl.1 rfl (lv_room (Nat.le_of_ble_eq_true rfl)) dX7_pairsRefusal_41 ⟨Nat.zero_le _, Nat.zero_le _⟩) hS hA hP (fun H locs hP hS => ?_)
        refine lv_if_ne (tgt := 50) hx hb dX7_pairsRefusal_44 (by decide) (fun c_9 => ?_) (fun c_9 => ?_)
        · have hf := iq c_9 hf
          refine lv_iinc (v := (l3 + 1)) (lv' := [(3, .int (l3 + 1)), (0, .ref t_h), (1, .int v1)]) hx hb dX7_pairsRefusal_50 hl (k := 2) rfl (by rfl) (by decide) rfl (fun ls hl => ?_)
          refine lv_goto (tgt := 14) hx hb dX7_pairsRefusal_53 (by decide) ?_
          exact ih _ _ _ _ hP hS (lv_sub hl [1, 2, 0] rfl) hf hX
        · have hf := ip c_9 hf
          refine lv_bipush (v := (-3)) hx hb dX7_pairsRefusal_47 (by decide) ?_
          exact hRet _ _ _ _ _ hf hS dX7_pairsRefusal_49
  unfold fX7_pairsRefusal at hf
  refine lv_aload_n hx hb dX7_pairsRefusal_0 rfl (lv_at hl 0 rfl) ?_
  refine lv_iload_n hx hb dX7_pairsRefusal_1 rfl (lv_at hl 1 rfl) ?_
  obtain ⟨r_1, hc_2, hf⟩ := bd1_in hf
  refine rcI (va_runV (As := [.int v1]) (rest := []) ⟨hx, hb, hml, hown, hw⟩ ((ctX7_rowRefusal l G t_h t_a row_h row_a rd_h now_h sp_h wy_h gp_h ch_h sb_h t_rows row_sort row_size v1 h_row _ hc_2) _) (kV hw calX7_rowRefusal kw_25_2 rfl rfl ⟨Nat.le_of_ble_eq_true rfl, Nat.le_of_ble_eq_true rfl⟩) (rpV (hP.sub (ws' := [oX7 t_h t_a rd_h now_h sp_h wy_h gp_h ch_h sb_h, arR G (t_a 7) 4 t_rows, oX4 row_h row_a row_sort row_size]) [0, 1, 3] rfl) hK (ci := 7) (q0 := 0) rfl rfl) rfl rfl hl.1 rfl (lv_room (Nat.le_of_ble_eq_true rfl)) dX7_pairsRefusal_2 ⟨Nat.zero_le _, Nat.zero_le _⟩) hS hA hP (fun H locs hP hS => ?_)
  refine lv_istore_n (lv' := [(2, .int r_1), (0, .ref t_h), (1, .int v1)]) hx hb dX7_pairsRefusal_5 rfl hl (by decide) rfl (fun ls hl => ?_)
  refine lv_iload_n hx hb dX7_pairsRefusal_6 rfl (lv_at hl 0 rfl) ?_
  refine lv_if_eq (tgt := 12) hx hb dX7_pairsRefusal_7 (by decide) (fun c_3 => ?_) (fun c_3 => ?_)
  · have hf := ip c_3 hf
    refine lv_iconst (v := 0) hx hb dX7_pairsRefusal_12 (by decide) ?_
    refine lv_istore_n (lv' := [(3, .int 0), (2, .int r_1), (0, .ref t_h), (1, .int v1)]) hx hb dX7_pairsRefusal_13 rfl hl (by decide) rfl (fun ls hl => ?_)
    refine L14  _ _ _ _ _ _ hP hS (lv_sub hl [2, 3, 0] rfl) hf (fun  H locs ls hP hS hl hf => ?_)
    refine lv_iconst (v := 0) hx hb dX7_pairsRefusal_56 (by decide) ?_
    exact hRet _ _ _ _ _ hf hS dX7_pairsRefusal_57
  · have hf := iq c_3 hf
    refine lv_iload_n hx hb dX7_pairsRefusal_10 rfl (lv_at hl 0 rfl) ?_
    exact hRet _ _ _ _ _ hf hS dX7_pairsRefusal_11
theorem calX7_shut : CalV yX7_shut cX7_shut 7 (some .int) 2 := ⟨⟨kw_41_13, kw_1_2, by decide +kernel⟩, kw_41_11, kw_41_12⟩
set_option maxHeartbeats 8000000 in
set_option maxRecDepth 100000 in
theorem ctX7_shut (l : Launch) (G : GT) (t_h : Nat) (t_a : Nat → Nat) (now_h : Nat) (now_a : Nat → Nat) (row_h : Nat) (row_a : Nat → Nat) (rd_h : Nat) (sp_h : Nat) (wy_h : Nat) (gp_h : Nat) (ch_h : Nat) (sb_h : Nat) (t_rows : Nat → Option Nat) (now_windows : Int32) (now_washes : Int32) (now_damp : Int32) (now_heard : Int32) (now_lines : Int32) (now_hour : Int32) (now_strings : Int32) (row_values : Nat → Int64) (row_sort : Int32) (row_size : Int32) (v1 : Int32) (v2 : Int32) (h_row : vp_in v1 4 → va_rf (t_rows v1.toNatClampNeg) = .ref row_h) (r : Int32) (hf : fX7_shut now_windows row_values row_size v1 v2 = some r) : RdI l yX7_shut (Cond.code yX7_shut cX7_shut 7 (some .int)) { frames := 3, cells := 0, slots := 0, locals := 66 } G [.ref t_h, .int v1, .int v2] [oX7 t_h t_a rd_h now_h sp_h wy_h gp_h ch_h sb_h, arR G (t_a 7) 4 t_rows, oX1 now_h now_a now_windows now_washes now_damp now_heard now_lines now_hour now_strings, oX4 row_h row_a row_sort row_size, arJ G (row_a 0) 40 row_values] r := by
  intro sz
  refine Met.ofW (cc := cX7_shut) (maxL := 7) (ret := (some .int)) (by decide) rfl ?_
  intro p e s m args below meth c s₁ B hml hv
  obtain ⟨hargs, hsz, hP, hK⟩ := hv
  subst hsz
  obtain ⟨hx, hb, hr, hw, hown, hlk⟩ := fwB B
  refine fw_enter hargs (Nat.le_of_ble_eq_true rfl) (fun ls hl => ?_)
  have hl : lv_has ls 7 [(0, .ref t_h), (1, .int v1), (2, .int v2)] := hl
  refine fw_Q (P := fun Q => ∃ A : Nat → Prop, va_S A s.heap s.heap [] ∧ (∀ q, s.heap.size ≤ q → A q) ∧ ∀ (v : Int32) (H : Heap) (locs : List Loc) (pc : Nat) (ls : Array Slot), some v = some r → va_S A s.heap H locs → decode cX7_shut pc = .ok (.ireturn, 1) → W p l e ({ frames := 3, cells := 0, slots := 0, locals := 66 } : Room) s m args below meth c H locs 0 0 Q (F0 m pc ls [.int v])) ⟨fun q => s.heap.size ≤ q, va_S.rf, fun q h => h, fun v H locs pc ls h hS hd => retRI hx hb hr hlk hS h hd⟩ ?_
  rintro Q ⟨A, hS, hA, hRet⟩
  change W p l e ({ frames := 3, cells := 0, slots := 0, locals := 66 } : Room) s m args below meth c _ _ 0 0 Q _
  have L54 : ∀  (K : Int32 → Option Int32) (n : Nat) (l5 : Int32) (l6 : Int32) (H : Heap) (locs : List Loc) (ls : Array Slot), va_P G.1 vwCl [oX7 t_h t_a rd_h now_h sp_h wy_h gp_h ch_h sb_h, arR G (t_a 7) 4 t_rows, oX1 now_h now_a now_windows now_washes now_damp now_heard now_lines now_hour now_strings, oX4 row_h row_a row_sort row_size, arJ G (row_a 0) 40 row_values] H → va_S A s.heap H locs → lv_has ls 7 [(2, .int v2), (4, .ref row_h), (5, .int l5), (6, .int l6)] → fX7_shut_54 v2 row_values row_size K n l5 l6 = some r → (∀ (k5 : Int32) (H : Heap) (locs : List Loc) (ls : Array Slot), va_P G.1 vwCl [oX7 t_h t_a rd_h now_h sp_h wy_h gp_h ch_h sb_h, arR G (t_a 7) 4 t_rows, oX1 now_h now_a now_windows now_washes now_damp now_heard now_lines now_hour now_strings, oX4 row_h row_a row_sort row_size, arJ G (row_a 0) 40 row_values] H → va_S A s.heap H locs → lv_has ls 7 [(5, .int k5)] → K k5 = some r → W p l e ({ frames := 3, cells := 0, slots := 0, locals := 66 } : Room) s m args below meth c H locs 0 0 Q (F0 m 94 ls [])) → W p l e ({ frames := 3, cells := 0, slots := 0, locals := 66 } : Room) s m args below meth c H locs 0 0 Q (F0 m 54 ls []) := by
    intro  K n
    induction n with
    | zero => intro l5 l6 H locs ls hP hS hl hf; rw [fX7_shut_54] at hf; cases hf
    | succ n ih =>
      intro l5 l6 H locs ls hP hS hl hf hX
      rw [fX7_shut_54] at hf
      refine lv_iload hx hb dX7_shut_54 (lv_at hl 3 rfl) ?_
      refine lv_aload hx hb dX7_shut_56 (lv_at hl 1 rfl) ?_
      refine va_getN (D := G.1) (ci := 4) (v := .int row_size) (C := RX4) (T := TX4) (N := 3) hx hb hw inW4 hown hK.1 hP 3 rfl rfl 2 (by decide) ((nf_39 hK.2).use rfl) (fun _ h9 => h9) rfl dX7_shut_58 ?_
      refine lv_icmp_ge (tgt := 94) hx hb dX7_shut_61 (by decide) (fun c_9 => ?_) (fun c_9 => ?_)
      · have hf := ip c_9 hf
        exact hX _ _ _ _ hP hS (lv_sub hl [2] rfl) hf
      · have hf := iq c_9 hf
        refine lv_aload hx hb dX7_shut_64 (lv_at hl 1 rfl) ?_
        refine lv_iload_n hx hb dX7_shut_66 rfl (lv_at hl 0 rfl) ?_
        obtain ⟨r_10, hc_11, hf⟩ := bd1_in hf
        refine rcL (va_runV (As := [.int v2]) (rest := []) ⟨hx, hb, hml, hown, hw⟩ ((ctX4_numberAt l G row_h row_a row_values row_sort row_size v2 _ hc_11) _) (kV hw calX4_numberAt kw_25_9 rfl rfl ⟨Nat.le_of_ble_eq_true rfl, Nat.le_of_ble_eq_true rfl⟩) (rpV (hP.sub (ws' := [oX4 row_h row_a row_sort row_size, arJ G (row_a 0) 40 row_values]) [3, 4] rfl) hK (ci := 4) (q0 := 0) rfl rfl) rfl rfl hl.1 rfl (lv_room (Nat.le_of_ble_eq_true rfl)) dX7_shut_67 ⟨Nat.zero_le _, Nat.zero_le _⟩) hS hA hP (fun H locs hP hS => ?_)
        refine lv_l2i hx hb dX7_shut_70 rfl ?_
        refine lv_aload hx hb dX7_shut_71 (lv_at hl 1 rfl) ?_
        refine lv_iload hx hb dX7_shut_73 (lv_at hl 3 rfl) ?_
        obtain ⟨r_12, hc_13, hf⟩ := bd1_in hf
        refine rcL (va_runV (As := [.int l6]) (rest := [.int (Int64.toInt32 r_10)]) ⟨hx, hb, hml, hown, hw⟩ ((ctX4_numberAt l G row_h row_a row_values row_sort row_size l6 _ hc_13) _) (kV hw calX4_numberAt kw_25_9 rfl rfl ⟨Nat.le_of_ble_eq_true rfl, Nat.le_of_ble_eq_true rfl⟩) (rpV (hP.sub (ws' := [oX4 row_h row_a row_sort row_size, arJ G (row_a 0) 40 row_values]) [3, 4] rfl) hK (ci := 4) (q0 := 0) rfl rfl) rfl rfl hl.1 rfl (lv_room (Nat.le_of_ble_eq_true rfl)) dX7_shut_75 ⟨Nat.zero_le _, Nat.zero_le _⟩) hS hA hP (fun H locs hP hS => ?_)
        refine lv_l2i hx hb dX7_shut_78 rfl ?_
        obtain ⟨r_14, hc_15, hf⟩ := bd1_in hf
        refine rcI (va_runS (As := [.int (Int64.toInt32 r_10), .int (Int64.toInt32 r_12)]) (rest := []) ⟨hx, hb, hml, hown, hw⟩ ((ctX7_crossing l G (Int64.toInt32 r_10) (Int64.toInt32 r_12) _ hc_15) _) (kS hw calX7_crossing kw_21_8 rfl rfl ⟨Nat.le_of_ble_eq_true rfl, Nat.le_of_ble_eq_true rfl⟩) (rpS (hP.sub (ws' := []) [] rfl) hK) rfl rfl hl.1 rfl (lv_room (Nat.le_of_ble_eq_true rfl)) dX7_shut_79 ⟨Nat.zero_le _, Nat.zero_le _⟩) hS hA hP (fun H locs hP hS => ?_)
        refine lv_if_eq (tgt := 88) hx hb dX7_shut_82 (by decide) (fun c_16 => ?_) (fun c_16 => ?_)
        · have hf := ip c_16 hf
          refine lv_iinc (v := (l6 + 1)) (lv' := [(6, .int (l6 + 1)), (2, .int v2), (4, .ref row_h), (5, .int l5)]) hx hb dX7_shut_88 hl (k := 3) rfl (by rfl) (by decide) rfl (fun ls hl => ?_)
          refine lv_goto (tgt := 54) hx hb dX7_shut_91 (by decide) ?_
          exact ih _ _ _ _ _ hP hS (lv_sub hl [1, 2, 3, 0] rfl) hf hX
        · have hf := iq c_16 hf
          refine lv_iinc (v := (l5 + 1)) (lv' := [(5, .int (l5 + 1)), (2, .int v2), (4, .ref row_h), (6, .int l6)]) hx hb dX7_shut_85 hl (k := 2) rfl (by rfl) (by decide) rfl (fun ls hl => ?_)
          refine lv_iinc (v := (l6 + 1)) (lv' := [(6, .int (l6 + 1)), (5, .int (l5 + 1)), (2, .int v2), (4, .ref row_h)]) hx hb dX7_shut_88 hl (k := 3) rfl (by rfl) (by decide) rfl (fun ls hl => ?_)
          refine lv_goto (tgt := 54) hx hb dX7_shut_91 (by decide) ?_
          exact ih _ _ _ _ _ hP hS (lv_sub hl [2, 3, 1, 0] rfl) hf hX
  unfold fX7_shut at hf
  refine lv_aload_n hx hb dX7_shut_0 rfl (lv_at hl 0 rfl) ?_
  refine lv_iload_n hx hb dX7_shut_1 rfl (lv_at hl 1 rfl) ?_
  obtain ⟨r_1, hc_2, hf⟩ := bd1_in hf
  refine rcI (va_runV (As := [.int v1]) (rest := []) ⟨hx, hb, hml, hown, hw⟩ ((ctX7_rowRefusal l G t_h t_a row_h row_a rd_h now_h sp_h wy_h gp_h ch_h sb_h t_rows row_sort row_size v1 h_row _ hc_2) _) (kV hw calX7_rowRefusal kw_25_2 rfl rfl ⟨Nat.le_of_ble_eq_true rfl, Nat.le_of_ble_eq_true rfl⟩) (rpV (hP.sub (ws' := [oX7 t_h t_a rd_h now_h sp_h wy_h gp_h ch_h sb_h, arR G (t_a 7) 4 t_rows, oX4 row_h row_a row_sort row_size]) [0, 1, 3] rfl) hK (ci := 7) (q0 := 0) rfl rfl) rfl rfl hl.1 rfl (lv_room (Nat.le_of_ble_eq_true rfl)) dX7_shut_2 ⟨Nat.zero_le _, Nat.zero_le _⟩) hS hA hP (fun H locs hP hS => ?_)
  refine lv_istore_n (lv' := [(3, .int r_1), (0, .ref t_h), (1, .int v1), (2, .int v2)]) hx hb dX7_shut_5 rfl hl (by decide) rfl (fun ls hl => ?_)
  refine lv_iload_n hx hb dX7_shut_6 rfl (lv_at hl 0 rfl) ?_
  refine lv_if_eq (tgt := 12) hx hb dX7_shut_7 (by decide) (fun c_3 => ?_) (fun c_3 => ?_)
  · have hf := ip c_3 hf
    refine lv_aload_n hx hb dX7_shut_12 rfl (lv_at hl 1 rfl) ?_
    refine va_get (D := G.1) (ci := 7) (v := .ref (t_a 7)) (C := RX7) (T := TX7) (N := 10) hx hb hw inW7 hown hK.1 hP 0 rfl rfl 7 (by decide) (hw _ kw_2_15) (fun _ h9 => h9) rfl dX7_shut_13 ?_
    refine lv_iload_n hx hb dX7_shut_16 rfl (lv_at hl 2 rfl) ?_
    obtain ⟨hi_q, hf⟩ := ckI_in hf
    refine va_aldq hx hb hK.1 hP 1 5 rfl rfl hi_q dX7_shut_17 ?_
    rw [h_row hi_q]
    refine lv_astore (lv' := [(4, .ref row_h), (3, .int r_1), (0, .ref t_h), (1, .int v1), (2, .int v2)]) hx hb dX7_shut_18 hl (by decide) rfl (fun ls hl => ?_)
    refine lv_iload_n hx hb dX7_shut_20 rfl (lv_at hl 4 rfl) ?_
    refine lv_if_lt (tgt := 33) hx hb dX7_shut_21 (by decide) (fun c_4 => ?_) (fun c_4 => ?_)
    · have hf := ip c_4 hf
      refine lv_bipush (v := (-7)) hx hb dX7_shut_33 (by decide) ?_
      exact hRet _ _ _ _ _ hf hS dX7_shut_35
    · have hf := iq c_4 hf
      refine lv_iload_n hx hb dX7_shut_24 rfl (lv_at hl 4 rfl) ?_
      refine lv_aload hx hb dX7_shut_25 (lv_at hl 0 rfl) ?_
      refine va_getN (D := G.1) (ci := 4) (v := .int row_size) (C := RX4) (T := TX4) (N := 3) hx hb hw inW4 hown hK.1 hP 3 rfl rfl 2 (by decide) ((nf_39 hK.2).use rfl) (fun _ h9 => h9) rfl dX7_shut_27 ?_
      refine lv_icmp_lt (tgt := 36) hx hb dX7_shut_30 (by decide) (fun c_5 => ?_) (fun c_5 => ?_)
      · have hf := ip c_5 hf
        refine lv_aload_n hx hb dX7_shut_36 rfl (lv_at hl 2 rfl) ?_
        refine lv_iload_n hx hb dX7_shut_37 rfl (lv_at hl 3 rfl) ?_
        obtain ⟨r_6, hc_7, hf⟩ := bd1_in hf
        refine rcI (va_runV (As := [.int v1]) (rest := []) ⟨hx, hb, hml, hown, hw⟩ ((ctX7_pairsRefusal l G t_h t_a now_h now_a row_h row_a rd_h sp_h wy_h gp_h ch_h sb_h t_rows now_windows now_washes now_damp now_heard now_lines now_hour now_strings row_values row_sort row_size v1 h_row _ hc_7) _) (kV hw calX7_pairsRefusal kw_39_23 rfl rfl ⟨Nat.le_of_ble_eq_true rfl, Nat.le_of_ble_eq_true rfl⟩) (rpV (hP.sub (ws' := [oX7 t_h t_a rd_h now_h sp_h wy_h gp_h ch_h sb_h, arR G (t_a 7) 4 t_rows, oX1 now_h now_a now_windows now_washes now_damp now_heard now_lines now_hour now_strings, oX4 row_h row_a row_sort row_size, arJ G (row_a 0) 40 row_values]) [0, 1, 2, 3, 4] rfl) hK (ci := 7) (q0 := 0) rfl rfl) rfl rfl hl.1 rfl (lv_room (Nat.le_of_ble_eq_true rfl)) dX7_shut_38 ⟨Nat.zero_le _, Nat.zero_le _⟩) hS hA hP (fun H locs hP hS => ?_)
        refine lv_istore_n (lv' := [(3, .int r_6), (4, .ref row_h), (0, .ref t_h), (1, .int v1), (2, .int v2)]) hx hb dX7_shut_41 rfl hl (by decide) rfl (fun ls hl => ?_)
        refine lv_iload_n hx hb dX7_shut_42 rfl (lv_at hl 0 rfl) ?_
        refine lv_if_eq (tgt := 48) hx hb dX7_shut_43 (by decide) (fun c_8 => ?_) (fun c_8 => ?_)
        · have hf := ip c_8 hf
          refine lv_iconst (v := 0) hx hb dX7_shut_48 (by decide) ?_
          refine lv_istore (lv' := [(5, .int 0), (3, .int r_6), (4, .ref row_h), (0, .ref t_h), (1, .int v1), (2, .int v2)]) hx hb dX7_shut_49 hl (by decide) rfl (fun ls hl => ?_)
          refine lv_iconst (v := 0) hx hb dX7_shut_51 (by decide) ?_
          refine lv_istore (lv' := [(6, .int 0), (5, .int 0), (3, .int r_6), (4, .ref row_h), (0, .ref t_h), (1, .int v1), (2, .int v2)]) hx hb dX7_shut_52 hl (by decide) rfl (fun ls hl => ?_)
          refine L54  _ _ _ _ _ _ _ hP hS (lv_sub hl [6, 3, 1, 0] rfl) hf (fun w_17 H locs ls hP hS hl hf => ?_)
          refine lv_iload hx hb dX7_shut_94 (lv_at hl 0 rfl) ?_
          exact hRet _ _ _ _ _ hf hS dX7_shut_96
        · have hf := iq c_8 hf
          refine lv_iload_n hx hb dX7_shut_46 rfl (lv_at hl 0 rfl) ?_
          exact hRet _ _ _ _ _ hf hS dX7_shut_47
      · have hf := iq c_5 hf
        refine lv_bipush (v := (-7)) hx hb dX7_shut_33 (by decide) ?_
        exact hRet _ _ _ _ _ hf hS dX7_shut_35
  · have hf := iq c_3 hf
    refine lv_iload_n hx hb dX7_shut_10 rfl (lv_at hl 0 rfl) ?_
    exact hRet _ _ _ _ _ hf hS dX7_shut_11
theorem calX7_web : CalV yX7_web cX7_web 4 (some .int) 1 := ⟨⟨kw_41_21, kw_1_2, by decide +kernel⟩, kw_41_19, kw_41_20⟩
set_option maxHeartbeats 8000000 in
set_option maxRecDepth 100000 in
theorem ctX7_web (l : Launch) (G : GT) (t_h : Nat) (t_a : Nat → Nat) (now_h : Nat) (now_a : Nat → Nat) (rd_h : Nat) (sp_h : Nat) (wy_h : Nat) (gp_h : Nat) (ch_h : Nat) (sb_h : Nat) (now_windows : Int32) (now_washes : Int32) (now_damp : Int32) (now_heard : Int32) (now_lines : Int32) (now_hour : Int32) (now_strings : Int32) (v1 : Int32) (r : Int32) (hf : fX7_web now_windows v1 = some r) : RdI l yX7_web (Cond.code yX7_web cX7_web 4 (some .int)) { frames := 0, cells := 0, slots := 0, locals := 0 } G [.ref t_h, .int v1] [oX7 t_h t_a rd_h now_h sp_h wy_h gp_h ch_h sb_h, oX1 now_h now_a now_windows now_washes now_damp now_heard now_lines now_hour now_strings] r := by
  intro sz
  refine Met.ofW (cc := cX7_web) (maxL := 4) (ret := (some .int)) (by decide) rfl ?_
  intro p e s m args below meth c s₁ B hml hv
  obtain ⟨hargs, hsz, hP, hK⟩ := hv
  subst hsz
  obtain ⟨hx, hb, hr, hw, hown, hlk⟩ := fwB B
  refine fw_enter hargs (Nat.le_of_ble_eq_true rfl) (fun ls hl => ?_)
  have hl : lv_has ls 4 [(0, .ref t_h), (1, .int v1)] := hl
  refine fw_Q (P := fun Q => ∃ A : Nat → Prop, va_S A s.heap s.heap [] ∧ (∀ q, s.heap.size ≤ q → A q) ∧ ∀ (v : Int32) (H : Heap) (locs : List Loc) (pc : Nat) (ls : Array Slot), some v = some r → va_S A s.heap H locs → decode cX7_web pc = .ok (.ireturn, 1) → W p l e ({ frames := 0, cells := 0, slots := 0, locals := 0 } : Room) s m args below meth c H locs 0 0 Q (F0 m pc ls [.int v])) ⟨fun q => s.heap.size ≤ q, va_S.rf, fun q h => h, fun v H locs pc ls h hS hd => retRI hx hb hr hlk hS h hd⟩ ?_
  rintro Q ⟨A, hS, hA, hRet⟩
  change W p l e ({ frames := 0, cells := 0, slots := 0, locals := 0 } : Room) s m args below meth c _ _ 0 0 Q _
  unfold fX7_web at hf
  refine lv_iload_n hx hb dX7_web_0 rfl (lv_at hl 1 rfl) ?_
  refine lv_if_lt (tgt := 9) hx hb dX7_web_1 (by decide) (fun c_1 => ?_) (fun c_1 => ?_)
  · have hf := ip c_1 hf
    refine lv_bipush (v := (-2)) hx hb dX7_web_9 (by decide) ?_
    exact hRet _ _ _ _ _ hf hS dX7_web_11
  · have hf := iq c_1 hf
    refine lv_iload_n hx hb dX7_web_4 rfl (lv_at hl 1 rfl) ?_
    refine lv_iconst (v := 1) hx hb dX7_web_5 (by decide) ?_
    refine lv_icmp_le (tgt := 12) hx hb dX7_web_6 (by decide) (fun c_2 => ?_) (fun c_2 => ?_)
    · have hf := ip c_2 hf
      refine lv_aload_n hx hb dX7_web_12 rfl (lv_at hl 0 rfl) ?_
      refine va_get (D := G.1) (ci := 7) (v := .ref now_h) (C := RX7) (T := TX7) (N := 10) hx hb hw inW7 hown hK.1 hP 0 rfl rfl 1 (by decide) (hw _ kw_1_20) (fun _ h9 => h9) rfl dX7_web_13 ?_
      refine va_getN (D := G.1) (ci := 1) (v := .int now_windows) (C := RX1) (T := TX1) (N := 12) hx hb hw inW1 hown hK.1 hP 1 rfl rfl 0 (by decide) ((nf_6 hK.2).use rfl) (fun _ h9 => h9) rfl dX7_web_16 ?_
      refine lv_iconst (v := 1) hx hb dX7_web_19 (by decide) ?_
      refine lv_icmp_ge (tgt := 26) hx hb dX7_web_20 (by decide) (fun c_3 => ?_) (fun c_3 => ?_)
      · have hf := ip c_3 hf
        refine lv_aload_n hx hb dX7_web_26 rfl (lv_at hl 0 rfl) ?_
        refine va_get (D := G.1) (ci := 7) (v := .ref now_h) (C := RX7) (T := TX7) (N := 10) hx hb hw inW7 hown hK.1 hP 0 rfl rfl 1 (by decide) (hw _ kw_1_20) (fun _ h9 => h9) rfl dX7_web_27 ?_
        refine va_getN (D := G.1) (ci := 1) (v := .int now_windows) (C := RX1) (T := TX1) (N := 12) hx hb hw inW1 hown hK.1 hP 1 rfl rfl 0 (by decide) ((nf_6 hK.2).use rfl) (fun _ h9 => h9) rfl dX7_web_30 ?_
        refine lv_iconst (v := 1) hx hb dX7_web_33 (by decide) ?_
        refine lv_isub hx hb dX7_web_34 ?_
        refine lv_topi (fun y_4 ey_4 => ?_)
        have hf := bnd_all hf y_4 ey_4
        refine lv_istore_n (lv' := [(2, .int y_4), (0, .ref t_h), (1, .int v1)]) hx hb dX7_web_35 rfl hl (by decide) rfl (fun ls hl => ?_)
        refine lv_aload_n hx hb dX7_web_36 rfl (lv_at hl 1 rfl) ?_
        refine va_get (D := G.1) (ci := 7) (v := .ref now_h) (C := RX7) (T := TX7) (N := 10) hx hb hw inW7 hown hK.1 hP 0 rfl rfl 1 (by decide) (hw _ kw_1_20) (fun _ h9 => h9) rfl dX7_web_37 ?_
        refine va_getN (D := G.1) (ci := 1) (v := .int now_windows) (C := RX1) (T := TX1) (N := 12) hx hb hw inW1 hown hK.1 hP 1 rfl rfl 0 (by decide) ((nf_6 hK.2).use rfl) (fun _ h9 => h9) rfl dX7_web_40 ?_
        refine lv_iconst (v := 1) hx hb dX7_web_43 (by decide) ?_
        refine lv_isub hx hb dX7_web_44 ?_
        refine lv_topi (fun y_5 ey_5 => ?_)
        have hf := bnd_all hf y_5 ey_5
        refine lv_istore_n (lv' := [(3, .int y_5), (2, .int y_4), (0, .ref t_h), (1, .int v1)]) hx hb dX7_web_45 rfl hl (by decide) rfl (fun ls hl => ?_)
        refine lv_iload_n hx hb dX7_web_46 rfl (lv_at hl 3 rfl) ?_
        refine lv_if_ne (tgt := 56) hx hb dX7_web_47 (by decide) (fun c_6 => ?_) (fun c_6 => ?_)
        · have hf := iq c_6 hf
          refine lv_aload_n hx hb dX7_web_56 rfl (lv_at hl 2 rfl) ?_
          refine va_get (D := G.1) (ci := 7) (v := .ref now_h) (C := RX7) (T := TX7) (N := 10) hx hb hw inW7 hown hK.1 hP 0 rfl rfl 1 (by decide) (hw _ kw_1_20) (fun _ h9 => h9) rfl dX7_web_57 ?_
          refine va_getN (D := G.1) (ci := 1) (v := .int now_windows) (C := RX1) (T := TX1) (N := 12) hx hb hw inW1 hown hK.1 hP 1 rfl rfl 0 (by decide) ((nf_6 hK.2).use rfl) (fun _ h9 => h9) rfl dX7_web_60 ?_
          exact hRet _ _ _ _ _ hf hS dX7_web_63
        · have hf := ip c_6 hf
          refine lv_iload_n hx hb dX7_web_50 rfl (lv_at hl 1 rfl) ?_
          refine lv_iload_n hx hb dX7_web_51 rfl (lv_at hl 0 rfl) ?_
          refine lv_imul hx hb dX7_web_52 ?_
          refine lv_goto (tgt := 63) hx hb dX7_web_53 (by decide) ?_
          exact hRet _ _ _ _ _ hf hS dX7_web_63
      · have hf := iq c_3 hf
        refine lv_bipush (v := (-5)) hx hb dX7_web_23 (by decide) ?_
        exact hRet _ _ _ _ _ hf hS dX7_web_25
    · have hf := iq c_2 hf
      refine lv_bipush (v := (-2)) hx hb dX7_web_9 (by decide) ?_
      exact hRet _ _ _ _ _ hf hS dX7_web_11
theorem calX7_more : CalV yX7_more cX7_more 3 (some .int) 0 := ⟨⟨kw_42_12, kw_1_2, by decide +kernel⟩, kw_42_10, kw_42_11⟩
set_option maxHeartbeats 8000000 in
set_option maxRecDepth 100000 in
theorem ctX7_more (l : Launch) (G : GT) (t_h : Nat) (t_a : Nat → Nat) (now_h : Nat) (now_a : Nat → Nat) (sp_h : Nat) (sp_a : Nat → Nat) (rd_h : Nat) (wy_h : Nat) (gp_h : Nat) (ch_h : Nat) (sb_h : Nat) (now_windows : Int32) (now_washes : Int32) (now_damp : Int32) (now_heard : Int32) (now_lines : Int32) (now_hour : Int32) (now_strings : Int32) (now_cans : Nat → Int32) (now_washPairs : Nat → Int32) (now_washHours : Nat → Int32) (now_pairs : Nat → Int32) (now_knots : Nat → Int32) (sp_windows : Int32) (sp_washes : Int32) (sp_damp : Int32) (sp_heard : Int32) (sp_lines : Int32) (sp_hour : Int32) (sp_strings : Int32) (sp_cans : Nat → Int32) (sp_washPairs : Nat → Int32) (sp_washHours : Nat → Int32) (sp_pairs : Nat → Int32) (sp_knots : Nat → Int32) (r : Int32) (o_sp_windows : Int32) (o_sp_washes : Int32) (o_sp_damp : Int32) (o_sp_heard : Int32) (o_sp_lines : Int32) (o_sp_hour : Int32) (o_sp_strings : Int32) (o_sp_cans : Nat → Int32) (o_sp_washPairs : Nat → Int32) (o_sp_washHours : Nat → Int32) (o_sp_pairs : Nat → Int32) (o_sp_knots : Nat → Int32) (hf : fX7_more now_windows now_washes now_damp now_heard now_lines now_hour now_strings now_cans now_washPairs now_washHours now_pairs now_knots sp_windows sp_washes sp_damp sp_heard sp_lines sp_hour sp_strings sp_cans sp_washPairs sp_washHours sp_pairs sp_knots = some (r, o_sp_windows, o_sp_washes, o_sp_damp, o_sp_heard, o_sp_lines, o_sp_hour, o_sp_strings, o_sp_cans, o_sp_washPairs, o_sp_washHours, o_sp_pairs, o_sp_knots)) : WrI l yX7_more (Cond.code yX7_more cX7_more 3 (some .int)) { frames := 3, cells := 0, slots := 0, locals := 85 } G [.ref t_h] [oX7 t_h t_a rd_h now_h sp_h wy_h gp_h ch_h sb_h, oX1 now_h now_a now_windows now_washes now_damp now_heard now_lines now_hour now_strings, arI G (now_a 7) 12 now_cans, arI G (now_a 8) 8 now_washPairs, arI G (now_a 9) 8 now_washHours, arI G (now_a 10) 21 now_pairs, arI G (now_a 11) 21 now_knots, oX1 sp_h sp_a sp_windows sp_washes sp_damp sp_heard sp_lines sp_hour sp_strings, arI G (sp_a 7) 12 sp_cans, arI G (sp_a 8) 8 sp_washPairs, arI G (sp_a 9) 8 sp_washHours, arI G (sp_a 10) 21 sp_pairs, arI G (sp_a 11) 21 sp_knots] [oX7 t_h t_a rd_h now_h sp_h wy_h gp_h ch_h sb_h, oX1 now_h now_a now_windows now_washes now_damp now_heard now_lines now_hour now_strings, arI G (now_a 7) 12 now_cans, arI G (now_a 8) 8 now_washPairs, arI G (now_a 9) 8 now_washHours, arI G (now_a 10) 21 now_pairs, arI G (now_a 11) 21 now_knots, oX1 sp_h sp_a o_sp_windows o_sp_washes o_sp_damp o_sp_heard o_sp_lines o_sp_hour o_sp_strings, arI G (sp_a 7) 12 o_sp_cans, arI G (sp_a 8) 8 o_sp_washPairs, arI G (sp_a 9) 8 o_sp_washHours, arI G (sp_a 10) 21 o_sp_pairs, arI G (sp_a 11) 21 o_sp_knots] r := by
  intro sz
  refine Met.ofW (cc := cX7_more) (maxL := 3) (ret := (some .int)) (by decide) rfl ?_
  intro p e s m args below meth c s₁ B hml hv
  obtain ⟨hargs, hsz, hP, hD0, hK⟩ := hv
  subst hsz
  obtain ⟨hx, hb, hr, hw, hown, hlk⟩ := fwB B
  refine fw_enter hargs (Nat.le_of_ble_eq_true rfl) (fun ls hl => ?_)
  have hl : lv_has ls 3 [(0, .ref t_h)] := hl
  refine fw_Q (P := fun Q => ∃ A : Nat → Prop, va_D A [oX7 t_h t_a rd_h now_h sp_h wy_h gp_h ch_h sb_h, oX1 now_h now_a now_windows now_washes now_damp now_heard now_lines now_hour now_strings, arI G (now_a 7) 12 now_cans, arI G (now_a 8) 8 now_washPairs, arI G (now_a 9) 8 now_washHours, arI G (now_a 10) 21 now_pairs, arI G (now_a 11) 21 now_knots, oX1 sp_h sp_a sp_windows sp_washes sp_damp sp_heard sp_lines sp_hour sp_strings, arI G (sp_a 7) 12 sp_cans, arI G (sp_a 8) 8 sp_washPairs, arI G (sp_a 9) 8 sp_washHours, arI G (sp_a 10) 21 sp_pairs, arI G (sp_a 11) 21 sp_knots] ∧ va_S A s.heap s.heap [] ∧ (∀ q, s.heap.size ≤ q → A q) ∧ ∀ (v : Int32) (n_sp_windows : Int32) (n_sp_washes : Int32) (n_sp_damp : Int32) (n_sp_heard : Int32) (n_sp_lines : Int32) (n_sp_hour : Int32) (n_sp_strings : Int32) (n_sp_cans : Nat → Int32) (n_sp_washPairs : Nat → Int32) (n_sp_washHours : Nat → Int32) (n_sp_pairs : Nat → Int32) (n_sp_knots : Nat → Int32) (H : Heap) (locs : List Loc) (pc : Nat) (ls : Array Slot), some (v, n_sp_windows, n_sp_washes, n_sp_damp, n_sp_heard, n_sp_lines, n_sp_hour, n_sp_strings, n_sp_cans, n_sp_washPairs, n_sp_washHours, n_sp_pairs, n_sp_knots) = some (r, o_sp_windows, o_sp_washes, o_sp_damp, o_sp_heard, o_sp_lines, o_sp_hour, o_sp_strings, o_sp_cans, o_sp_washPairs, o_sp_washHours, o_sp_pairs, o_sp_knots) → va_P G.1 vwCl [oX7 t_h t_a rd_h now_h sp_h wy_h gp_h ch_h sb_h, oX1 now_h now_a now_windows now_washes now_damp now_heard now_lines now_hour now_strings, arI G (now_a 7) 12 now_cans, arI G (now_a 8) 8 now_washPairs, arI G (now_a 9) 8 now_washHours, arI G (now_a 10) 21 now_pairs, arI G (now_a 11) 21 now_knots, oX1 sp_h sp_a n_sp_windows n_sp_washes n_sp_damp n_sp_heard n_sp_lines n_sp_hour n_sp_strings, arI G (sp_a 7) 12 n_sp_cans, arI G (sp_a 8) 8 n_sp_washPairs, arI G (sp_a 9) 8 n_sp_washHours, arI G (sp_a 10) 21 n_sp_pairs, arI G (sp_a 11) 21 n_sp_knots] H → va_S A s.heap H locs → decode cX7_more pc = .ok (.ireturn, 1) → W p l e ({ frames := 3, cells := 0, slots := 0, locals := 85 } : Room) s m args below meth c H locs 0 0 Q (F0 m pc ls [.int v])) ⟨va_A [oX7 t_h t_a rd_h now_h sp_h wy_h gp_h ch_h sb_h, oX1 now_h now_a now_windows now_washes now_damp now_heard now_lines now_hour now_strings, arI G (now_a 7) 12 now_cans, arI G (now_a 8) 8 now_washPairs, arI G (now_a 9) 8 now_washHours, arI G (now_a 10) 21 now_pairs, arI G (now_a 11) 21 now_knots, oX1 sp_h sp_a sp_windows sp_washes sp_damp sp_heard sp_lines sp_hour sp_strings, arI G (sp_a 7) 12 sp_cans, arI G (sp_a 8) 8 sp_washPairs, arI G (sp_a 9) 8 sp_washHours, arI G (sp_a 10) 21 sp_pairs, arI G (sp_a 11) 21 sp_knots] s.heap.size, hD0.self (sz := s.heap.size), va_S.rf, fun q h => Or.inr h, ?_⟩ ?_
  · intro v n_sp_windows n_sp_washes n_sp_damp n_sp_heard n_sp_lines n_sp_hour n_sp_strings n_sp_cans n_sp_washPairs n_sp_washHours n_sp_pairs n_sp_knots H locs pc ls h hP hS hd
    cases h
    exact retWI hx hb hr hlk hS hP rfl hd
  rintro Q ⟨A, hD, hS, hA, hRet⟩
  change W p l e ({ frames := 3, cells := 0, slots := 0, locals := 85 } : Room) s m args below meth c _ _ 0 0 Q _
  have L28 : ∀ (l1 : Int32) (sp_windows : Int32) (sp_washes : Int32) (sp_damp : Int32) (sp_heard : Int32) (sp_lines : Int32) (sp_hour : Int32) (sp_cans : Nat → Int32) (sp_washPairs : Nat → Int32) (sp_washHours : Nat → Int32) (K : Int32 → (Nat → Int32) → (Nat → Int32) → Option (Int32 × Int32 × Int32 × Int32 × Int32 × Int32 × Int32 × Int32 × (Nat → Int32) × (Nat → Int32) × (Nat → Int32) × (Nat → Int32) × (Nat → Int32))) (n : Nat) (l2 : Int32) (sp_strings : Int32) (sp_pairs : Nat → Int32) (sp_knots : Nat → Int32) (H : Heap) (locs : List Loc) (ls : Array Slot), va_P G.1 vwCl [oX7 t_h t_a rd_h now_h sp_h wy_h gp_h ch_h sb_h, oX1 now_h now_a now_windows now_washes now_damp now_heard now_lines now_hour now_strings, arI G (now_a 7) 12 now_cans, arI G (now_a 8) 8 now_washPairs, arI G (now_a 9) 8 now_washHours, arI G (now_a 10) 21 now_pairs, arI G (now_a 11) 21 now_knots, oX1 sp_h sp_a sp_windows sp_washes sp_damp sp_heard sp_lines sp_hour sp_strings, arI G (sp_a 7) 12 sp_cans, arI G (sp_a 8) 8 sp_washPairs, arI G (sp_a 9) 8 sp_washHours, arI G (sp_a 10) 21 sp_pairs, arI G (sp_a 11) 21 sp_knots] H → va_D A [oX7 t_h t_a rd_h now_h sp_h wy_h gp_h ch_h sb_h, oX1 now_h now_a now_windows now_washes now_damp now_heard now_lines now_hour now_strings, arI G (now_a 7) 12 now_cans, arI G (now_a 8) 8 now_washPairs, arI G (now_a 9) 8 now_washHours, arI G (now_a 10) 21 now_pairs, arI G (now_a 11) 21 now_knots, oX1 sp_h sp_a sp_windows sp_washes sp_damp sp_heard sp_lines sp_hour sp_strings, arI G (sp_a 7) 12 sp_cans, arI G (sp_a 8) 8 sp_washPairs, arI G (sp_a 9) 8 sp_washHours, arI G (sp_a 10) 21 sp_pairs, arI G (sp_a 11) 21 sp_knots] → va_S A s.heap H locs → lv_has ls 3 [(0, .ref t_h), (1, .int l1), (2, .int l2)] → fX7_more_28 l1 sp_windows sp_cans K n l2 sp_strings sp_pairs sp_knots = some (r, o_sp_windows, o_sp_washes, o_sp_damp, o_sp_heard, o_sp_lines, o_sp_hour, o_sp_strings, o_sp_cans, o_sp_washPairs, o_sp_washHours, o_sp_pairs, o_sp_knots) → (∀ (ksp_strings : Int32) (ksp_pairs : Nat → Int32) (ksp_knots : Nat → Int32) (H : Heap) (locs : List Loc) (ls : Array Slot), va_P G.1 vwCl [oX7 t_h t_a rd_h now_h sp_h wy_h gp_h ch_h sb_h, oX1 now_h now_a now_windows now_washes now_damp now_heard now_lines now_hour now_strings, arI G (now_a 7) 12 now_cans, arI G (now_a 8) 8 now_washPairs, arI G (now_a 9) 8 now_washHours, arI G (now_a 10) 21 now_pairs, arI G (now_a 11) 21 now_knots, oX1 sp_h sp_a sp_windows sp_washes sp_damp sp_heard sp_lines sp_hour ksp_strings, arI G (sp_a 7) 12 sp_cans, arI G (sp_a 8) 8 sp_washPairs, arI G (sp_a 9) 8 sp_washHours, arI G (sp_a 10) 21 ksp_pairs, arI G (sp_a 11) 21 ksp_knots] H → va_D A [oX7 t_h t_a rd_h now_h sp_h wy_h gp_h ch_h sb_h, oX1 now_h now_a now_windows now_washes now_damp now_heard now_lines now_hour now_strings, arI G (now_a 7) 12 now_cans, arI G (now_a 8) 8 now_washPairs, arI G (now_a 9) 8 now_washHours, arI G (now_a 10) 21 now_pairs, arI G (now_a 11) 21 now_knots, oX1 sp_h sp_a sp_windows sp_washes sp_damp sp_heard sp_lines sp_hour ksp_strings, arI G (sp_a 7) 12 sp_cans, arI G (sp_a 8) 8 sp_washPairs, arI G (sp_a 9) 8 sp_washHours, arI G (sp_a 10) 21 ksp_pairs, arI G (sp_a 11) 21 ksp_knots] → va_S A s.heap H locs → lv_has ls 3 [(0, .ref t_h), (1, .int l1)] → K ksp_strings ksp_pairs ksp_knots = some (r, o_sp_windows, o_sp_washes, o_sp_damp, o_sp_heard, o_sp_lines, o_sp_hour, o_sp_strings, o_sp_cans, o_sp_washPairs, o_sp_washHours, o_sp_pairs, o_sp_knots) → W p l e ({ frames := 3, cells := 0, slots := 0, locals := 85 } : Room) s m args below meth c H locs 0 0 Q (F0 m 73 ls [])) → W p l e ({ frames := 3, cells := 0, slots := 0, locals := 85 } : Room) s m args below meth c H locs 0 0 Q (F0 m 28 ls []) := by
    intro l1 sp_windows sp_washes sp_damp sp_heard sp_lines sp_hour sp_cans sp_washPairs sp_washHours K n
    induction n with
    | zero => intro l2 sp_strings sp_pairs sp_knots H locs ls hP hD hS hl hf; rw [fX7_more_28] at hf; cases hf
    | succ n ih =>
      intro l2 sp_strings sp_pairs sp_knots H locs ls hP hD hS hl hf hX
      rw [fX7_more_28] at hf
      refine lv_iload_n hx hb dX7_more_28 rfl (lv_at hl 2 rfl) ?_
      refine lv_aload_n hx hb dX7_more_29 rfl (lv_at hl 0 rfl) ?_
      refine va_get (D := G.1) (ci := 7) (v := .ref sp_h) (C := RX7) (T := TX7) (N := 10) hx hb hw inW7 hown hK.1 hP 0 rfl rfl 2 (by decide) (hw _ kw_1_21) (fun _ h9 => h9) rfl dX7_more_30 ?_
      refine va_getN (D := G.1) (ci := 1) (v := .int sp_windows) (C := RX1) (T := TX1) (N := 12) hx hb hw inW1 hown hK.1 hP 7 rfl rfl 0 (by decide) ((nf_6 hK.2).use rfl) (fun _ h9 => h9) rfl dX7_more_33 ?_
      refine lv_icmp_ge (tgt := 73) hx hb dX7_more_36 (by decide) (fun c_16 => ?_) (fun c_16 => ?_)
      · have hf := ip c_16 hf
        exact hX _ _ _ _ _ _ hP hD hS (lv_sub hl [0, 1] rfl) hf
      · have hf := iq c_16 hf
        refine lv_aload_n hx hb dX7_more_39 rfl (lv_at hl 0 rfl) ?_
        refine va_get (D := G.1) (ci := 7) (v := .ref sp_h) (C := RX7) (T := TX7) (N := 10) hx hb hw inW7 hown hK.1 hP 0 rfl rfl 2 (by decide) (hw _ kw_1_21) (fun _ h9 => h9) rfl dX7_more_40 ?_
        refine lv_iload_n hx hb dX7_more_43 rfl (lv_at hl 1 rfl) ?_
        refine lv_iload_n hx hb dX7_more_44 rfl (lv_at hl 2 rfl) ?_
        obtain ⟨r_17, hc_18, hf⟩ := bd1_in hf
        refine rcI (va_runS (As := [.int l1, .int l2]) (rest := [.ref sp_h]) ⟨hx, hb, hml, hown, hw⟩ ((ctX7_pairOf l G l1 l2 _ hc_18) _) (kS hw calX7_pairOf kw_27_1 rfl rfl ⟨Nat.le_of_ble_eq_true rfl, Nat.le_of_ble_eq_true rfl⟩) (rpS (hP.sub (ws' := []) [] rfl) hK) rfl rfl hl.1 rfl (lv_room (Nat.le_of_ble_eq_true rfl)) dX7_more_45 ⟨Nat.zero_le _, Nat.zero_le _⟩) hS hA hP (fun H locs hP hS => ?_)
        obtain ⟨r_19, hc_20, hf⟩ := bd1_in hf
        refine rcI (va_runV (As := [.int r_17]) (rest := []) ⟨hx, hb, hml, hown, hw⟩ ((ctX1_whyNot l G sp_h sp_a sp_windows sp_washes sp_damp sp_heard sp_lines sp_hour sp_strings sp_cans sp_pairs r_17 _ hc_20) _) (kV hw calX1_whyNot kw_23_3 rfl rfl ⟨Nat.le_of_ble_eq_true rfl, Nat.le_of_ble_eq_true rfl⟩) (rpV (hP.sub (ws' := [oX1 sp_h sp_a sp_windows sp_washes sp_damp sp_heard sp_lines sp_hour sp_strings, arI G (sp_a 7) 12 sp_cans, arI G (sp_a 10) 21 sp_pairs]) [7, 8, 11] rfl) hK (ci := 1) (q0 := 0) rfl rfl) rfl rfl hl.1 rfl (lv_room (Nat.le_of_ble_eq_true rfl)) dX7_more_48 ⟨Nat.zero_le _, Nat.zero_le _⟩) hS hA hP (fun H locs hP hS => ?_)
        refine lv_if_ne (tgt := 67) hx hb dX7_more_51 (by decide) (fun c_21 => ?_) (fun c_21 => ?_)
        · have hf := iq c_21 hf
          refine lv_iinc (v := (l2 + 1)) (lv' := [(2, .int (l2 + 1)), (0, .ref t_h), (1, .int l1)]) hx hb dX7_more_67 hl (k := 2) rfl (by rfl) (by decide) rfl (fun ls hl => ?_)
          refine lv_goto (tgt := 28) hx hb dX7_more_70 (by decide) ?_
          exact ih _ _ _ _ _ _ _ hP hD hS (lv_sub hl [1, 2, 0] rfl) hf hX
        · have hf := ip c_21 hf
          refine lv_aload_n hx hb dX7_more_54 rfl (lv_at hl 0 rfl) ?_
          refine va_get (D := G.1) (ci := 7) (v := .ref sp_h) (C := RX7) (T := TX7) (N := 10) hx hb hw inW7 hown hK.1 hP 0 rfl rfl 2 (by decide) (hw _ kw_1_21) (fun _ h9 => h9) rfl dX7_more_55 ?_
          refine lv_iload_n hx hb dX7_more_58 rfl (lv_at hl 1 rfl) ?_
          refine lv_iload_n hx hb dX7_more_59 rfl (lv_at hl 2 rfl) ?_
          obtain ⟨r_22, hc_23, hf⟩ := bd1_in hf
          refine rcI (va_runS (As := [.int l1, .int l2]) (rest := [.ref sp_h]) ⟨hx, hb, hml, hown, hw⟩ ((ctX7_pairOf l G l1 l2 _ hc_23) _) (kS hw calX7_pairOf kw_27_1 rfl rfl ⟨Nat.le_of_ble_eq_true rfl, Nat.le_of_ble_eq_true rfl⟩) (rpS (hP.sub (ws' := []) [] rfl) hK) rfl rfl hl.1 rfl (lv_room (Nat.le_of_ble_eq_true rfl)) dX7_more_60 ⟨Nat.zero_le _, Nat.zero_le _⟩) hS hA hP (fun H locs hP hS => ?_)
          refine lv_iconst (v := 0) hx hb dX7_more_63 (by decide) ?_
          obtain ⟨sp_strings_24, sp_pairs_25, sp_knots_26, hc_27, hf⟩ := bd3_in hf
          refine wcV (w1 := [oX1 sp_h sp_a sp_windows sp_washes sp_damp sp_heard sp_lines sp_hour sp_strings_24, arI G (sp_a 10) 21 sp_pairs_25, arI G (sp_a 11) 21 sp_knots_26]) (va_runV (As := [.int r_22, .int 0]) (rest := []) ⟨hx, hb, hml, hown, hw⟩ ((ctX1_addString l G sp_h sp_a sp_windows sp_washes sp_damp sp_heard sp_lines sp_hour sp_strings sp_pairs sp_knots r_22 0 _ _ _ hc_27) _) (kV hw calX1_addString kw_23_16 rfl rfl ⟨Nat.le_of_ble_eq_true rfl, Nat.le_of_ble_eq_true rfl⟩) (wpV (hP.sub (ws' := [oX1 sp_h sp_a sp_windows sp_washes sp_damp sp_heard sp_lines sp_hour sp_strings, arI G (sp_a 10) 21 sp_pairs, arI G (sp_a 11) 21 sp_knots]) [7, 11, 12] rfl) (hD.sub (ws' := [oX1 sp_h sp_a sp_windows sp_washes sp_damp sp_heard sp_lines sp_hour sp_strings, arI G (sp_a 10) 21 sp_pairs, arI G (sp_a 11) 21 sp_knots]) [7, 11, 12] (by decide) rfl) hK (ci := 1) (q0 := 0) rfl rfl) rfl rfl hl.1 rfl (lv_room (Nat.le_of_ble_eq_true rfl)) dX7_more_64 ⟨Nat.zero_le _, Nat.zero_le _⟩) hS hA hP hD [7, 11, 12] rfl rfl (fun H locs hP hD hS => ?_)
          have hP : va_P G.1 vwCl [oX7 t_h t_a rd_h now_h sp_h wy_h gp_h ch_h sb_h, oX1 now_h now_a now_windows now_washes now_damp now_heard now_lines now_hour now_strings, arI G (now_a 7) 12 now_cans, arI G (now_a 8) 8 now_washPairs, arI G (now_a 9) 8 now_washHours, arI G (now_a 10) 21 now_pairs, arI G (now_a 11) 21 now_knots, oX1 sp_h sp_a sp_windows sp_washes sp_damp sp_heard sp_lines sp_hour sp_strings_24, arI G (sp_a 7) 12 sp_cans, arI G (sp_a 8) 8 sp_washPairs, arI G (sp_a 9) 8 sp_washHours, arI G (sp_a 10) 21 sp_pairs_25, arI G (sp_a 11) 21 sp_knots_26] H := hP
          have hD : va_D A [oX7 t_h t_a rd_h now_h sp_h wy_h gp_h ch_h sb_h, oX1 now_h now_a now_windows now_washes now_damp now_heard now_lines now_hour now_strings, arI G (now_a 7) 12 now_cans, arI G (now_a 8) 8 now_washPairs, arI G (now_a 9) 8 now_washHours, arI G (now_a 10) 21 now_pairs, arI G (now_a 11) 21 now_knots, oX1 sp_h sp_a sp_windows sp_washes sp_damp sp_heard sp_lines sp_hour sp_strings_24, arI G (sp_a 7) 12 sp_cans, arI G (sp_a 8) 8 sp_washPairs, arI G (sp_a 9) 8 sp_washHours, arI G (sp_a 10) 21 sp_pairs_25, arI G (sp_a 11) 21 sp_knots_26] := hD
          refine lv_iinc (v := (l2 + 1)) (lv' := [(2, .int (l2 + 1)), (0, .ref t_h), (1, .int l1)]) hx hb dX7_more_67 hl (k := 2) rfl (by rfl) (by decide) rfl (fun ls hl => ?_)
          refine lv_goto (tgt := 28) hx hb dX7_more_70 (by decide) ?_
          exact ih _ _ _ _ _ _ _ hP hD hS (lv_sub hl [1, 2, 0] rfl) hf hX
  have L13 : ∀ (sp_windows : Int32) (sp_washes : Int32) (sp_damp : Int32) (sp_heard : Int32) (sp_lines : Int32) (sp_hour : Int32) (sp_cans : Nat → Int32) (sp_washPairs : Nat → Int32) (sp_washHours : Nat → Int32) (K : Int32 → (Nat → Int32) → (Nat → Int32) → Option (Int32 × Int32 × Int32 × Int32 × Int32 × Int32 × Int32 × Int32 × (Nat → Int32) × (Nat → Int32) × (Nat → Int32) × (Nat → Int32) × (Nat → Int32))) (n : Nat) (l1 : Int32) (sp_strings : Int32) (sp_pairs : Nat → Int32) (sp_knots : Nat → Int32) (H : Heap) (locs : List Loc) (ls : Array Slot), va_P G.1 vwCl [oX7 t_h t_a rd_h now_h sp_h wy_h gp_h ch_h sb_h, oX1 now_h now_a now_windows now_washes now_damp now_heard now_lines now_hour now_strings, arI G (now_a 7) 12 now_cans, arI G (now_a 8) 8 now_washPairs, arI G (now_a 9) 8 now_washHours, arI G (now_a 10) 21 now_pairs, arI G (now_a 11) 21 now_knots, oX1 sp_h sp_a sp_windows sp_washes sp_damp sp_heard sp_lines sp_hour sp_strings, arI G (sp_a 7) 12 sp_cans, arI G (sp_a 8) 8 sp_washPairs, arI G (sp_a 9) 8 sp_washHours, arI G (sp_a 10) 21 sp_pairs, arI G (sp_a 11) 21 sp_knots] H → va_D A [oX7 t_h t_a rd_h now_h sp_h wy_h gp_h ch_h sb_h, oX1 now_h now_a now_windows now_washes now_damp now_heard now_lines now_hour now_strings, arI G (now_a 7) 12 now_cans, arI G (now_a 8) 8 now_washPairs, arI G (now_a 9) 8 now_washHours, arI G (now_a 10) 21 now_pairs, arI G (now_a 11) 21 now_knots, oX1 sp_h sp_a sp_windows sp_washes sp_damp sp_heard sp_lines sp_hour sp_strings, arI G (sp_a 7) 12 sp_cans, arI G (sp_a 8) 8 sp_washPairs, arI G (sp_a 9) 8 sp_washHours, arI G (sp_a 10) 21 sp_pairs, arI G (sp_a 11) 21 sp_knots] → va_S A s.heap H locs → lv_has ls 3 [(0, .ref t_h), (1, .int l1)] → fX7_more_13 sp_windows sp_cans K n l1 sp_strings sp_pairs sp_knots = some (r, o_sp_windows, o_sp_washes, o_sp_damp, o_sp_heard, o_sp_lines, o_sp_hour, o_sp_strings, o_sp_cans, o_sp_washPairs, o_sp_washHours, o_sp_pairs, o_sp_knots) → (∀ (ksp_strings : Int32) (ksp_pairs : Nat → Int32) (ksp_knots : Nat → Int32) (H : Heap) (locs : List Loc) (ls : Array Slot), va_P G.1 vwCl [oX7 t_h t_a rd_h now_h sp_h wy_h gp_h ch_h sb_h, oX1 now_h now_a now_windows now_washes now_damp now_heard now_lines now_hour now_strings, arI G (now_a 7) 12 now_cans, arI G (now_a 8) 8 now_washPairs, arI G (now_a 9) 8 now_washHours, arI G (now_a 10) 21 now_pairs, arI G (now_a 11) 21 now_knots, oX1 sp_h sp_a sp_windows sp_washes sp_damp sp_heard sp_lines sp_hour ksp_strings, arI G (sp_a 7) 12 sp_cans, arI G (sp_a 8) 8 sp_washPairs, arI G (sp_a 9) 8 sp_washHours, arI G (sp_a 10) 21 ksp_pairs, arI G (sp_a 11) 21 ksp_knots] H → va_D A [oX7 t_h t_a rd_h now_h sp_h wy_h gp_h ch_h sb_h, oX1 now_h now_a now_windows now_washes now_damp now_heard now_lines now_hour now_strings, arI G (now_a 7) 12 now_cans, arI G (now_a 8) 8 now_washPairs, arI G (now_a 9) 8 now_washHours, arI G (now_a 10) 21 now_pairs, arI G (now_a 11) 21 now_knots, oX1 sp_h sp_a sp_windows sp_washes sp_damp sp_heard sp_lines sp_hour ksp_strings, arI G (sp_a 7) 12 sp_cans, arI G (sp_a 8) 8 sp_washPairs, arI G (sp_a 9) 8 sp_washHours, arI G (sp_a 10) 21 ksp_pairs, arI G (sp_a 11) 21 ksp_knots] → va_S A s.heap H locs → lv_has ls 3 [(0, .ref t_h)] → K ksp_strings ksp_pairs ksp_knots = some (r, o_sp_windows, o_sp_washes, o_sp_damp, o_sp_heard, o_sp_lines, o_sp_hour, o_sp_strings, o_sp_cans, o_sp_washPairs, o_sp_washHours, o_sp_pairs, o_sp_knots) → W p l e ({ frames := 3, cells := 0, slots := 0, locals := 85 } : Room) s m args below meth c H locs 0 0 Q (F0 m 79 ls [])) → W p l e ({ frames := 3, cells := 0, slots := 0, locals := 85 } : Room) s m args below meth c H locs 0 0 Q (F0 m 13 ls []) := by
    intro sp_windows sp_washes sp_damp sp_heard sp_lines sp_hour sp_cans sp_washPairs sp_washHours K n
    induction n with
    | zero => intro l1 sp_strings sp_pairs sp_knots H locs ls hP hD hS hl hf; rw [fX7_more_13] at hf; cases hf
    | succ n ih =>
      intro l1 sp_strings sp_pairs sp_knots H locs ls hP hD hS hl hf hX
      rw [fX7_more_13] at hf
      refine lv_iload_n hx hb dX7_more_13 rfl (lv_at hl 1 rfl) ?_
      refine lv_aload_n hx hb dX7_more_14 rfl (lv_at hl 0 rfl) ?_
      refine va_get (D := G.1) (ci := 7) (v := .ref sp_h) (C := RX7) (T := TX7) (N := 10) hx hb hw inW7 hown hK.1 hP 0 rfl rfl 2 (by decide) (hw _ kw_1_21) (fun _ h9 => h9) rfl dX7_more_15 ?_
      refine va_getN (D := G.1) (ci := 1) (v := .int sp_windows) (C := RX1) (T := TX1) (N := 12) hx hb hw inW1 hown hK.1 hP 7 rfl rfl 0 (by decide) ((nf_6 hK.2).use rfl) (fun _ h9 => h9) rfl dX7_more_18 ?_
      refine lv_icmp_ge (tgt := 79) hx hb dX7_more_21 (by decide) (fun c_14 => ?_) (fun c_14 => ?_)
      · have hf := ip c_14 hf
        exact hX _ _ _ _ _ _ hP hD hS (lv_sub hl [0] rfl) hf
      · have hf := iq c_14 hf
        refine lv_iload_n hx hb dX7_more_24 rfl (lv_at hl 1 rfl) ?_
        refine lv_iconst (v := 1) hx hb dX7_more_25 (by decide) ?_
        refine lv_iadd hx hb dX7_more_26 ?_
        refine lv_topi (fun y_15 ey_15 => ?_)
        have hf := bnd_all hf y_15 ey_15
        refine lv_istore_n (lv' := [(2, .int y_15), (0, .ref t_h), (1, .int l1)]) hx hb dX7_more_27 rfl hl (by decide) rfl (fun ls hl => ?_)
        refine L28 _ _ _ _ _ _ _ _ _ _ _ _ _ _ _ _ _ _ _ hP hD hS (lv_sub hl [1, 2, 0] rfl) hf (fun sp_strings_28 sp_pairs_29 sp_knots_30 H locs ls hP hD hS hl hf => ?_)
        refine lv_iinc (v := (l1 + 1)) (lv' := [(1, .int (l1 + 1)), (0, .ref t_h)]) hx hb dX7_more_73 hl (k := 1) rfl (by rfl) (by decide) rfl (fun ls hl => ?_)
        refine lv_goto (tgt := 13) hx hb dX7_more_76 (by decide) ?_
        exact ih _ _ _ _ _ _ _ hP hD hS (lv_sub hl [1, 0] rfl) hf hX
  unfold fX7_more at hf
  refine lv_aload_n hx hb dX7_more_0 rfl (lv_at hl 0 rfl) ?_
  refine va_get (D := G.1) (ci := 7) (v := .ref sp_h) (C := RX7) (T := TX7) (N := 10) hx hb hw inW7 hown hK.1 hP 0 rfl rfl 2 (by decide) (hw _ kw_1_21) (fun _ h9 => h9) rfl dX7_more_1 ?_
  refine lv_aload_n hx hb dX7_more_4 rfl (lv_at hl 0 rfl) ?_
  refine va_get (D := G.1) (ci := 7) (v := .ref now_h) (C := RX7) (T := TX7) (N := 10) hx hb hw inW7 hown hK.1 hP 0 rfl rfl 1 (by decide) (hw _ kw_1_20) (fun _ h9 => h9) rfl dX7_more_5 ?_
  obtain ⟨sp_windows_1, sp_washes_2, sp_damp_3, sp_heard_4, sp_lines_5, sp_hour_6, sp_strings_7, sp_cans_8, sp_washPairs_9, sp_washHours_10, sp_pairs_11, sp_knots_12, hc_13, hf⟩ := bd12_in hf
  refine wcV (w1 := [oX1 sp_h sp_a sp_windows_1 sp_washes_2 sp_damp_3 sp_heard_4 sp_lines_5 sp_hour_6 sp_strings_7, arI G (sp_a 7) 12 sp_cans_8, arI G (sp_a 8) 8 sp_washPairs_9, arI G (sp_a 9) 8 sp_washHours_10, arI G (sp_a 10) 21 sp_pairs_11, arI G (sp_a 11) 21 sp_knots_12, oX1 now_h now_a now_windows now_washes now_damp now_heard now_lines now_hour now_strings, arI G (now_a 7) 12 now_cans, arI G (now_a 8) 8 now_washPairs, arI G (now_a 9) 8 now_washHours, arI G (now_a 10) 21 now_pairs, arI G (now_a 11) 21 now_knots]) (va_runV (As := [.ref now_h]) (rest := []) ⟨hx, hb, hml, hown, hw⟩ ((ctX1_takeFrom l G sp_h sp_a now_h now_a sp_windows sp_washes sp_damp sp_heard sp_lines sp_hour sp_strings sp_cans sp_washPairs sp_washHours sp_pairs sp_knots now_windows now_washes now_damp now_heard now_lines now_hour now_strings now_cans now_washPairs now_washHours now_pairs now_knots _ _ _ _ _ _ _ _ _ _ _ _ hc_13) _) (kV hw calX1_takeFrom kw_42_13 rfl rfl ⟨Nat.le_of_ble_eq_true rfl, Nat.le_of_ble_eq_true rfl⟩) (wpV (hP.sub (ws' := [oX1 sp_h sp_a sp_windows sp_washes sp_damp sp_heard sp_lines sp_hour sp_strings, arI G (sp_a 7) 12 sp_cans, arI G (sp_a 8) 8 sp_washPairs, arI G (sp_a 9) 8 sp_washHours, arI G (sp_a 10) 21 sp_pairs, arI G (sp_a 11) 21 sp_knots, oX1 now_h now_a now_windows now_washes now_damp now_heard now_lines now_hour now_strings, arI G (now_a 7) 12 now_cans, arI G (now_a 8) 8 now_washPairs, arI G (now_a 9) 8 now_washHours, arI G (now_a 10) 21 now_pairs, arI G (now_a 11) 21 now_knots]) [7, 8, 9, 10, 11, 12, 1, 2, 3, 4, 5, 6] rfl) (hD.sub (ws' := [oX1 sp_h sp_a sp_windows sp_washes sp_damp sp_heard sp_lines sp_hour sp_strings, arI G (sp_a 7) 12 sp_cans, arI G (sp_a 8) 8 sp_washPairs, arI G (sp_a 9) 8 sp_washHours, arI G (sp_a 10) 21 sp_pairs, arI G (sp_a 11) 21 sp_knots, oX1 now_h now_a now_windows now_washes now_damp now_heard now_lines now_hour now_strings, arI G (now_a 7) 12 now_cans, arI G (now_a 8) 8 now_washPairs, arI G (now_a 9) 8 now_washHours, arI G (now_a 10) 21 now_pairs, arI G (now_a 11) 21 now_knots]) [7, 8, 9, 10, 11, 12, 1, 2, 3, 4, 5, 6] (by decide) rfl) hK (ci := 1) (q0 := 0) rfl rfl) rfl rfl hl.1 rfl (lv_room (Nat.le_of_ble_eq_true rfl)) dX7_more_8 ⟨Nat.zero_le _, Nat.zero_le _⟩) hS hA hP hD [7, 8, 9, 10, 11, 12, 1, 2, 3, 4, 5, 6] rfl rfl (fun H locs hP hD hS => ?_)
  have hP : va_P G.1 vwCl [oX7 t_h t_a rd_h now_h sp_h wy_h gp_h ch_h sb_h, oX1 now_h now_a now_windows now_washes now_damp now_heard now_lines now_hour now_strings, arI G (now_a 7) 12 now_cans, arI G (now_a 8) 8 now_washPairs, arI G (now_a 9) 8 now_washHours, arI G (now_a 10) 21 now_pairs, arI G (now_a 11) 21 now_knots, oX1 sp_h sp_a sp_windows_1 sp_washes_2 sp_damp_3 sp_heard_4 sp_lines_5 sp_hour_6 sp_strings_7, arI G (sp_a 7) 12 sp_cans_8, arI G (sp_a 8) 8 sp_washPairs_9, arI G (sp_a 9) 8 sp_washHours_10, arI G (sp_a 10) 21 sp_pairs_11, arI G (sp_a 11) 21 sp_knots_12] H := hP
  have hD : va_D A [oX7 t_h t_a rd_h now_h sp_h wy_h gp_h ch_h sb_h, oX1 now_h now_a now_windows now_washes now_damp now_heard now_lines now_hour now_strings, arI G (now_a 7) 12 now_cans, arI G (now_a 8) 8 now_washPairs, arI G (now_a 9) 8 now_washHours, arI G (now_a 10) 21 now_pairs, arI G (now_a 11) 21 now_knots, oX1 sp_h sp_a sp_windows_1 sp_washes_2 sp_damp_3 sp_heard_4 sp_lines_5 sp_hour_6 sp_strings_7, arI G (sp_a 7) 12 sp_cans_8, arI G (sp_a 8) 8 sp_washPairs_9, arI G (sp_a 9) 8 sp_washHours_10, arI G (sp_a 10) 21 sp_pairs_11, arI G (sp_a 11) 21 sp_knots_12] := hD
  refine lv_iconst (v := 0) hx hb dX7_more_11 (by decide) ?_
  refine lv_istore_n (lv' := [(1, .int 0), (0, .ref t_h)]) hx hb dX7_more_12 rfl hl (by decide) rfl (fun ls hl => ?_)
  refine L13 _ _ _ _ _ _ _ _ _ _ _ _ _ _ _ _ _ _ hP hD hS (lv_sub hl [1, 0] rfl) hf (fun sp_strings_31 sp_pairs_32 sp_knots_33 H locs ls hP hD hS hl hf => ?_)
  refine lv_aload_n hx hb dX7_more_79 rfl (lv_at hl 0 rfl) ?_
  refine va_get (D := G.1) (ci := 7) (v := .ref sp_h) (C := RX7) (T := TX7) (N := 10) hx hb hw inW7 hown hK.1 hP 0 rfl rfl 2 (by decide) (hw _ kw_1_21) (fun _ h9 => h9) rfl dX7_more_80 ?_
  refine va_getN (D := G.1) (ci := 1) (v := .int sp_strings_31) (C := RX1) (T := TX1) (N := 12) hx hb hw inW1 hown hK.1 hP 7 rfl rfl 6 (by decide) ((nf_18 hK.2).use rfl) (fun _ h9 => h9) rfl dX7_more_83 ?_
  refine lv_aload_n hx hb dX7_more_86 rfl (lv_at hl 0 rfl) ?_
  refine va_get (D := G.1) (ci := 7) (v := .ref now_h) (C := RX7) (T := TX7) (N := 10) hx hb hw inW7 hown hK.1 hP 0 rfl rfl 1 (by decide) (hw _ kw_1_20) (fun _ h9 => h9) rfl dX7_more_87 ?_
  refine va_getN (D := G.1) (ci := 1) (v := .int now_strings) (C := RX1) (T := TX1) (N := 12) hx hb hw inW1 hown hK.1 hP 1 rfl rfl 6 (by decide) ((nf_18 hK.2).use rfl) (fun _ h9 => h9) rfl dX7_more_90 ?_
  refine lv_isub hx hb dX7_more_93 ?_
  exact hRet _ _ _ _ _ _ _ _ _ _ _ _ _ _ _ _ _ hf hP hS dX7_more_94
theorem calX7_calls : CalV yX7_calls cX7_calls 5 (some .int) 2 := ⟨⟨kw_43_4, kw_1_2, by decide +kernel⟩, kw_43_2, kw_43_3⟩
set_option maxHeartbeats 8000000 in
set_option maxRecDepth 100000 in
theorem ctX7_calls (l : Launch) (G : GT) (t_h : Nat) (t_a : Nat → Nat) (now_h : Nat) (now_a : Nat → Nat) (wy_h : Nat) (wy_a : Nat → Nat) (sb_h : Nat) (sb_a : Nat → Nat) (row_h : Nat) (row_a : Nat → Nat) (rd_h : Nat) (sp_h : Nat) (gp_h : Nat) (ch_h : Nat) (t_rows : Nat → Option Nat) (now_windows : Int32) (now_washes : Int32) (now_damp : Int32) (now_heard : Int32) (now_lines : Int32) (now_hour : Int32) (now_strings : Int32) (now_washPairs : Nat → Int32) (now_washHours : Nat → Int32) (now_pairs : Nat → Int32) (now_knots : Nat → Int32) (wy_windows : Int32) (wy_links : Nat → Int32) (wy_prices : Nat → Int32) (wy_rest : Nat → Int32) (wy_goal : Int32) (wy_otherFrom : Int32) (wy_otherTo : Int32) (wy_least : Int32) (sb_taken : Nat → Int32) (sb_begins : Nat → Int32) (sb_route : Nat → Int32) (sb_placed : Int32) (sb_ended : Int32) (sb_waited : Int32) (row_values : Nat → Int64) (row_sort : Int32) (row_size : Int32) (v1 : Int32) (v2 : Int32) (h_row : vp_in v1 4 → va_rf (t_rows v1.toNatClampNeg) = .ref row_h) (r : Int32) (o_wy_windows : Int32) (o_wy_links : Nat → Int32) (o_wy_prices : Nat → Int32) (o_wy_rest : Nat → Int32) (o_sb_taken : Nat → Int32) (o_sb_begins : Nat → Int32) (o_sb_route : Nat → Int32) (o_sb_placed : Int32) (o_sb_ended : Int32) (o_sb_waited : Int32) (hf : fX7_calls now_windows now_washes now_damp now_heard now_hour now_strings now_washPairs now_washHours now_pairs now_knots wy_windows wy_links wy_prices wy_rest sb_taken sb_begins sb_route sb_placed sb_ended sb_waited row_values row_size v1 v2 = some (r, o_wy_windows, o_wy_links, o_wy_prices, o_wy_rest, o_sb_taken, o_sb_begins, o_sb_route, o_sb_placed, o_sb_ended, o_sb_waited)) : WrI l yX7_calls (Cond.code yX7_calls cX7_calls 5 (some .int)) { frames := 5, cells := 0, slots := 0, locals := 120 } G [.ref t_h, .int v1, .int v2] [oX7 t_h t_a rd_h now_h sp_h wy_h gp_h ch_h sb_h, arR G (t_a 7) 4 t_rows, oX1 now_h now_a now_windows now_washes now_damp now_heard now_lines now_hour now_strings, arI G (now_a 8) 8 now_washPairs, arI G (now_a 9) 8 now_washHours, arI G (now_a 10) 21 now_pairs, arI G (now_a 11) 21 now_knots, oX6 wy_h wy_a wy_windows wy_goal wy_otherFrom wy_otherTo wy_least, arI G (wy_a 1) 12 wy_links, arI G (wy_a 2) 144 wy_prices, arI G (wy_a 3) 12 wy_rest, oX5 sb_h sb_a sb_placed sb_ended sb_waited, arI G (sb_a 0) 492 sb_taken, arI G (sb_a 1) 40 sb_begins, arI G (sb_a 2) 12 sb_route, oX4 row_h row_a row_sort row_size, arJ G (row_a 0) 40 row_values] [oX7 t_h t_a rd_h now_h sp_h wy_h gp_h ch_h sb_h, arR G (t_a 7) 4 t_rows, oX1 now_h now_a now_windows now_washes now_damp now_heard now_lines now_hour now_strings, arI G (now_a 8) 8 now_washPairs, arI G (now_a 9) 8 now_washHours, arI G (now_a 10) 21 now_pairs, arI G (now_a 11) 21 now_knots, oX6 wy_h wy_a o_wy_windows wy_goal wy_otherFrom wy_otherTo wy_least, arI G (wy_a 1) 12 o_wy_links, arI G (wy_a 2) 144 o_wy_prices, arI G (wy_a 3) 12 o_wy_rest, oX5 sb_h sb_a o_sb_placed o_sb_ended o_sb_waited, arI G (sb_a 0) 492 o_sb_taken, arI G (sb_a 1) 40 o_sb_begins, arI G (sb_a 2) 12 o_sb_route, oX4 row_h row_a row_sort row_size, arJ G (row_a 0) 40 row_values] r := by
  intro sz
  refine Met.ofW (cc := cX7_calls) (maxL := 5) (ret := (some .int)) (by decide) rfl ?_
  intro p e s m args below meth c s₁ B hml hv
  obtain ⟨hargs, hsz, hP, hD0, hK⟩ := hv
  subst hsz
  obtain ⟨hx, hb, hr, hw, hown, hlk⟩ := fwB B
  refine fw_enter hargs (Nat.le_of_ble_eq_true rfl) (fun ls hl => ?_)
  have hl : lv_has ls 5 [(0, .ref t_h), (1, .int v1), (2, .int v2)] := hl
  refine fw_Q (P := fun Q => ∃ A : Nat → Prop, va_D A [oX7 t_h t_a rd_h now_h sp_h wy_h gp_h ch_h sb_h, arR G (t_a 7) 4 t_rows, oX1 now_h now_a now_windows now_washes now_damp now_heard now_lines now_hour now_strings, arI G (now_a 8) 8 now_washPairs, arI G (now_a 9) 8 now_washHours, arI G (now_a 10) 21 now_pairs, arI G (now_a 11) 21 now_knots, oX6 wy_h wy_a wy_windows wy_goal wy_otherFrom wy_otherTo wy_least, arI G (wy_a 1) 12 wy_links, arI G (wy_a 2) 144 wy_prices, arI G (wy_a 3) 12 wy_rest, oX5 sb_h sb_a sb_placed sb_ended sb_waited, arI G (sb_a 0) 492 sb_taken, arI G (sb_a 1) 40 sb_begins, arI G (sb_a 2) 12 sb_route, oX4 row_h row_a row_sort row_size, arJ G (row_a 0) 40 row_values] ∧ va_S A s.heap s.heap [] ∧ (∀ q, s.heap.size ≤ q → A q) ∧ ∀ (v : Int32) (n_wy_windows : Int32) (n_wy_links : Nat → Int32) (n_wy_prices : Nat → Int32) (n_wy_rest : Nat → Int32) (n_sb_taken : Nat → Int32) (n_sb_begins : Nat → Int32) (n_sb_route : Nat → Int32) (n_sb_placed : Int32) (n_sb_ended : Int32) (n_sb_waited : Int32) (H : Heap) (locs : List Loc) (pc : Nat) (ls : Array Slot), some (v, n_wy_windows, n_wy_links, n_wy_prices, n_wy_rest, n_sb_taken, n_sb_begins, n_sb_route, n_sb_placed, n_sb_ended, n_sb_waited) = some (r, o_wy_windows, o_wy_links, o_wy_prices, o_wy_rest, o_sb_taken, o_sb_begins, o_sb_route, o_sb_placed, o_sb_ended, o_sb_waited) → va_P G.1 vwCl [oX7 t_h t_a rd_h now_h sp_h wy_h gp_h ch_h sb_h, arR G (t_a 7) 4 t_rows, oX1 now_h now_a now_windows now_washes now_damp now_heard now_lines now_hour now_strings, arI G (now_a 8) 8 now_washPairs, arI G (now_a 9) 8 now_washHours, arI G (now_a 10) 21 now_pairs, arI G (now_a 11) 21 now_knots, oX6 wy_h wy_a n_wy_windows wy_goal wy_otherFrom wy_otherTo wy_least, arI G (wy_a 1) 12 n_wy_links, arI G (wy_a 2) 144 n_wy_prices, arI G (wy_a 3) 12 n_wy_rest, oX5 sb_h sb_a n_sb_placed n_sb_ended n_sb_waited, arI G (sb_a 0) 492 n_sb_taken, arI G (sb_a 1) 40 n_sb_begins, arI G (sb_a 2) 12 n_sb_route, oX4 row_h row_a row_sort row_size, arJ G (row_a 0) 40 row_values] H → va_S A s.heap H locs → decode cX7_calls pc = .ok (.ireturn, 1) → W p l e ({ frames := 5, cells := 0, slots := 0, locals := 120 } : Room) s m args below meth c H locs 0 0 Q (F0 m pc ls [.int v])) ⟨va_A [oX7 t_h t_a rd_h now_h sp_h wy_h gp_h ch_h sb_h, arR G (t_a 7) 4 t_rows, oX1 now_h now_a now_windows now_washes now_damp now_heard now_lines now_hour now_strings, arI G (now_a 8) 8 now_washPairs, arI G (now_a 9) 8 now_washHours, arI G (now_a 10) 21 now_pairs, arI G (now_a 11) 21 now_knots, oX6 wy_h wy_a wy_windows wy_goal wy_otherFrom wy_otherTo wy_least, arI G (wy_a 1) 12 wy_links, arI G (wy_a 2) 144 wy_prices, arI G (wy_a 3) 12 wy_rest, oX5 sb_h sb_a sb_placed sb_ended sb_waited, arI G (sb_a 0) 492 sb_taken, arI G (sb_a 1) 40 sb_begins, arI G (sb_a 2) 12 sb_route, oX4 row_h row_a row_sort row_size, arJ G (row_a 0) 40 row_values] s.heap.size, hD0.self (sz := s.heap.size), va_S.rf, fun q h => Or.inr h, ?_⟩ ?_
  · intro v n_wy_windows n_wy_links n_wy_prices n_wy_rest n_sb_taken n_sb_begins n_sb_route n_sb_placed n_sb_ended n_sb_waited H locs pc ls h hP hS hd
    cases h
    exact retWI hx hb hr hlk hS hP rfl hd
  rintro Q ⟨A, hD, hS, hA, hRet⟩
  change W p l e ({ frames := 5, cells := 0, slots := 0, locals := 120 } : Room) s m args below meth c _ _ 0 0 Q _
  unfold fX7_calls at hf
  refine lv_iload_n hx hb dX7_calls_0 rfl (lv_at hl 2 rfl) ?_
  refine lv_bipush (v := 10) hx hb dX7_calls_1 (by decide) ?_
  refine jn_el hf (fun k_2 ek_2 hf => ?_)
  have J17 : ∀ (z_1 : Int32) (H : Heap) (locs : List Loc) (ls : Array Slot), va_P G.1 vwCl [oX7 t_h t_a rd_h now_h sp_h wy_h gp_h ch_h sb_h, arR G (t_a 7) 4 t_rows, oX1 now_h now_a now_windows now_washes now_damp now_heard now_lines now_hour now_strings, arI G (now_a 8) 8 now_washPairs, arI G (now_a 9) 8 now_washHours, arI G (now_a 10) 21 now_pairs, arI G (now_a 11) 21 now_knots, oX6 wy_h wy_a wy_windows wy_goal wy_otherFrom wy_otherTo wy_least, arI G (wy_a 1) 12 wy_links, arI G (wy_a 2) 144 wy_prices, arI G (wy_a 3) 12 wy_rest, oX5 sb_h sb_a sb_placed sb_ended sb_waited, arI G (sb_a 0) 492 sb_taken, arI G (sb_a 1) 40 sb_begins, arI G (sb_a 2) 12 sb_route, oX4 row_h row_a row_sort row_size, arJ G (row_a 0) 40 row_values] H → va_D A [oX7 t_h t_a rd_h now_h sp_h wy_h gp_h ch_h sb_h, arR G (t_a 7) 4 t_rows, oX1 now_h now_a now_windows now_washes now_damp now_heard now_lines now_hour now_strings, arI G (now_a 8) 8 now_washPairs, arI G (now_a 9) 8 now_washHours, arI G (now_a 10) 21 now_pairs, arI G (now_a 11) 21 now_knots, oX6 wy_h wy_a wy_windows wy_goal wy_otherFrom wy_otherTo wy_least, arI G (wy_a 1) 12 wy_links, arI G (wy_a 2) 144 wy_prices, arI G (wy_a 3) 12 wy_rest, oX5 sb_h sb_a sb_placed sb_ended sb_waited, arI G (sb_a 0) 492 sb_taken, arI G (sb_a 1) 40 sb_begins, arI G (sb_a 2) 12 sb_route, oX4 row_h row_a row_sort row_size, arJ G (row_a 0) 40 row_values] → va_S A s.heap H locs → lv_has ls 5 [(0, .ref t_h), (1, .int v1), (2, .int v2)] → k_2 z_1 = some (r, o_wy_windows, o_wy_links, o_wy_prices, o_wy_rest, o_sb_taken, o_sb_begins, o_sb_route, o_sb_placed, o_sb_ended, o_sb_waited) → W p l e ({ frames := 5, cells := 0, slots := 0, locals := 120 } : Room) s m args below meth c H locs 0 0 Q (F0 m 17 ls [.int z_1]) := by
    intro z_1 H locs ls hP hD hS hl hf
    rw [ek_2] at hf
    refine lv_istore_n (lv' := [(3, .int z_1), (0, .ref t_h), (1, .int v1), (2, .int v2)]) hx hb dX7_calls_17 rfl hl (by decide) rfl (fun ls hl => ?_)
    refine lv_iload_n hx hb dX7_calls_18 rfl (lv_at hl 2 rfl) ?_
    obtain ⟨r_3, hc_4, hf⟩ := bd1_in hf
    refine rcI (va_runS (As := [.int v1]) (rest := []) ⟨hx, hb, hml, hown, hw⟩ ((ctX7_isRow l G v1 _ hc_4) _) (kS hw calX7_isRow kw_25_6 rfl rfl ⟨Nat.le_of_ble_eq_true rfl, Nat.le_of_ble_eq_true rfl⟩) (rpS (hP.sub (ws' := []) [] rfl) hK) rfl rfl hl.1 rfl (lv_room (Nat.le_of_ble_eq_true rfl)) dX7_calls_19 ⟨Nat.zero_le _, Nat.zero_le _⟩) hS hA hP (fun H locs hP hS => ?_)
    refine lv_if_eq (tgt := 38) hx hb dX7_calls_22 (by decide) (fun c_5 => ?_) (fun c_5 => ?_)
    · have hf := ip c_5 hf
      refine lv_bipush (v := (-2)) hx hb dX7_calls_38 (by decide) ?_
      exact hRet _ _ _ _ _ _ _ _ _ _ _ _ _ _ _ hf hP hS dX7_calls_40
    · have hf := iq c_5 hf
      refine lv_iload_n hx hb dX7_calls_25 rfl (lv_at hl 3 rfl) ?_
      refine jn_el hf (fun k_6 ek_6 hf => ?_)
      have J41 : ∀  (H : Heap) (locs : List Loc) (ls : Array Slot), va_P G.1 vwCl [oX7 t_h t_a rd_h now_h sp_h wy_h gp_h ch_h sb_h, arR G (t_a 7) 4 t_rows, oX1 now_h now_a now_windows now_washes now_damp now_heard now_lines now_hour now_strings, arI G (now_a 8) 8 now_washPairs, arI G (now_a 9) 8 now_washHours, arI G (now_a 10) 21 now_pairs, arI G (now_a 11) 21 now_knots, oX6 wy_h wy_a wy_windows wy_goal wy_otherFrom wy_otherTo wy_least, arI G (wy_a 1) 12 wy_links, arI G (wy_a 2) 144 wy_prices, arI G (wy_a 3) 12 wy_rest, oX5 sb_h sb_a sb_placed sb_ended sb_waited, arI G (sb_a 0) 492 sb_taken, arI G (sb_a 1) 40 sb_begins, arI G (sb_a 2) 12 sb_route, oX4 row_h row_a row_sort row_size, arJ G (row_a 0) 40 row_values] H → va_D A [oX7 t_h t_a rd_h now_h sp_h wy_h gp_h ch_h sb_h, arR G (t_a 7) 4 t_rows, oX1 now_h now_a now_windows now_washes now_damp now_heard now_lines now_hour now_strings, arI G (now_a 8) 8 now_washPairs, arI G (now_a 9) 8 now_washHours, arI G (now_a 10) 21 now_pairs, arI G (now_a 11) 21 now_knots, oX6 wy_h wy_a wy_windows wy_goal wy_otherFrom wy_otherTo wy_least, arI G (wy_a 1) 12 wy_links, arI G (wy_a 2) 144 wy_prices, arI G (wy_a 3) 12 wy_rest, oX5 sb_h sb_a sb_placed sb_ended sb_waited, arI G (sb_a 0) 492 sb_taken, arI G (sb_a 1) 40 sb_begins, arI G (sb_a 2) 12 sb_route, oX4 row_h row_a row_sort row_size, arJ G (row_a 0) 40 row_values] → va_S A s.heap H locs → lv_has ls 5 [(0, .ref t_h), (1, .int v1), (2, .int v2)] → k_6 = some (r, o_wy_windows, o_wy_links, o_wy_prices, o_wy_rest, o_sb_taken, o_sb_begins, o_sb_route, o_sb_placed, o_sb_ended, o_sb_waited) → W p l e ({ frames := 5, cells := 0, slots := 0, locals := 120 } : Room) s m args below meth c H locs 0 0 Q (F0 m 41 ls []) := by
        intro  H locs ls hP hD hS hl hf
        rw [ek_6] at hf
        refine lv_aload_n hx hb dX7_calls_41 rfl (lv_at hl 0 rfl) ?_
        refine lv_iload_n hx hb dX7_calls_42 rfl (lv_at hl 1 rfl) ?_
        obtain ⟨r_7, hc_8, hf⟩ := bd1_in hf
        refine rcI (va_runV (As := [.int v1]) (rest := []) ⟨hx, hb, hml, hown, hw⟩ ((ctX7_pairsRefusal l G t_h t_a now_h now_a row_h row_a rd_h sp_h wy_h gp_h ch_h sb_h t_rows now_windows now_washes now_damp now_heard now_lines now_hour now_strings row_values row_sort row_size v1 h_row _ hc_8) _) (kV hw calX7_pairsRefusal kw_39_23 rfl rfl ⟨Nat.le_of_ble_eq_true rfl, Nat.le_of_ble_eq_true rfl⟩) (rpV (hP.sub (ws' := [oX7 t_h t_a rd_h now_h sp_h wy_h gp_h ch_h sb_h, arR G (t_a 7) 4 t_rows, oX1 now_h now_a now_windows now_washes now_damp now_heard now_lines now_hour now_strings, oX4 row_h row_a row_sort row_size, arJ G (row_a 0) 40 row_values]) [0, 1, 2, 15, 16] rfl) hK (ci := 7) (q0 := 0) rfl rfl) rfl rfl hl.1 rfl (lv_room (Nat.le_of_ble_eq_true rfl)) dX7_calls_43 ⟨Nat.zero_le _, Nat.zero_le _⟩) hS hA hP (fun H locs hP hS => ?_)
        refine lv_istore (lv' := [(4, .int r_7), (0, .ref t_h), (1, .int v1), (2, .int v2)]) hx hb dX7_calls_46 hl (by decide) rfl (fun ls hl => ?_)
        refine lv_iload hx hb dX7_calls_48 (lv_at hl 0 rfl) ?_
        refine lv_if_eq (tgt := 56) hx hb dX7_calls_50 (by decide) (fun c_9 => ?_) (fun c_9 => ?_)
        · have hf := ip c_9 hf
          refine lv_aload_n hx hb dX7_calls_56 rfl (lv_at hl 1 rfl) ?_
          refine va_get (D := G.1) (ci := 7) (v := .ref wy_h) (C := RX7) (T := TX7) (N := 10) hx hb hw inW7 hown hK.1 hP 0 rfl rfl 3 (by decide) (hw _ kw_2_1) (fun _ h9 => h9) rfl dX7_calls_57 ?_
          refine lv_aload_n hx hb dX7_calls_60 rfl (lv_at hl 1 rfl) ?_
          refine va_get (D := G.1) (ci := 7) (v := .ref now_h) (C := RX7) (T := TX7) (N := 10) hx hb hw inW7 hown hK.1 hP 0 rfl rfl 1 (by decide) (hw _ kw_1_20) (fun _ h9 => h9) rfl dX7_calls_61 ?_
          refine lv_aload_n hx hb dX7_calls_64 rfl (lv_at hl 1 rfl) ?_
          refine va_get (D := G.1) (ci := 7) (v := .ref now_h) (C := RX7) (T := TX7) (N := 10) hx hb hw inW7 hown hK.1 hP 0 rfl rfl 1 (by decide) (hw _ kw_1_20) (fun _ h9 => h9) rfl dX7_calls_65 ?_
          refine va_getN (D := G.1) (ci := 1) (v := .int now_hour) (C := RX1) (T := TX1) (N := 12) hx hb hw inW1 hown hK.1 hP 2 rfl rfl 5 (by decide) ((nf_16 hK.2).use rfl) (fun _ h9 => h9) rfl dX7_calls_68 ?_
          obtain ⟨wy_windows_10, wy_links_11, wy_prices_12, hc_13, hf⟩ := bd3_in hf
          refine wcV (w1 := [oX6 wy_h wy_a wy_windows_10 wy_goal wy_otherFrom wy_otherTo wy_least, arI G (wy_a 1) 12 wy_links_11, arI G (wy_a 2) 144 wy_prices_12, oX1 now_h now_a now_windows now_washes now_damp now_heard now_lines now_hour now_strings, arI G (now_a 8) 8 now_washPairs, arI G (now_a 9) 8 now_washHours, arI G (now_a 10) 21 now_pairs, arI G (now_a 11) 21 now_knots]) (va_runV (As := [.ref now_h, .int now_hour]) (rest := []) ⟨hx, hb, hml, hown, hw⟩ ((ctX6_takeStrings l G wy_h wy_a now_h now_a wy_windows wy_links wy_prices wy_goal wy_otherFrom wy_otherTo wy_least now_windows now_washes now_damp now_heard now_lines now_hour now_strings now_washPairs now_washHours now_pairs now_knots now_hour _ _ _ hc_13) _) (kV hw calX6_takeStrings kw_18_10 rfl rfl ⟨Nat.le_of_ble_eq_true rfl, Nat.le_of_ble_eq_true rfl⟩) (wpV (hP.sub (ws' := [oX6 wy_h wy_a wy_windows wy_goal wy_otherFrom wy_otherTo wy_least, arI G (wy_a 1) 12 wy_links, arI G (wy_a 2) 144 wy_prices, oX1 now_h now_a now_windows now_washes now_damp now_heard now_lines now_hour now_strings, arI G (now_a 8) 8 now_washPairs, arI G (now_a 9) 8 now_washHours, arI G (now_a 10) 21 now_pairs, arI G (now_a 11) 21 now_knots]) [7, 8, 9, 2, 3, 4, 5, 6] rfl) (hD.sub (ws' := [oX6 wy_h wy_a wy_windows wy_goal wy_otherFrom wy_otherTo wy_least, arI G (wy_a 1) 12 wy_links, arI G (wy_a 2) 144 wy_prices, oX1 now_h now_a now_windows now_washes now_damp now_heard now_lines now_hour now_strings, arI G (now_a 8) 8 now_washPairs, arI G (now_a 9) 8 now_washHours, arI G (now_a 10) 21 now_pairs, arI G (now_a 11) 21 now_knots]) [7, 8, 9, 2, 3, 4, 5, 6] (by decide) rfl) hK (ci := 6) (q0 := 0) rfl rfl) rfl rfl hl.1 rfl (lv_room (Nat.le_of_ble_eq_true rfl)) dX7_calls_71 ⟨Nat.zero_le _, Nat.zero_le _⟩) hS hA hP hD [7, 8, 9, 2, 3, 4, 5, 6] rfl rfl (fun H locs hP hD hS => ?_)
          have hP : va_P G.1 vwCl [oX7 t_h t_a rd_h now_h sp_h wy_h gp_h ch_h sb_h, arR G (t_a 7) 4 t_rows, oX1 now_h now_a now_windows now_washes now_damp now_heard now_lines now_hour now_strings, arI G (now_a 8) 8 now_washPairs, arI G (now_a 9) 8 now_washHours, arI G (now_a 10) 21 now_pairs, arI G (now_a 11) 21 now_knots, oX6 wy_h wy_a wy_windows_10 wy_goal wy_otherFrom wy_otherTo wy_least, arI G (wy_a 1) 12 wy_links_11, arI G (wy_a 2) 144 wy_prices_12, arI G (wy_a 3) 12 wy_rest, oX5 sb_h sb_a sb_placed sb_ended sb_waited, arI G (sb_a 0) 492 sb_taken, arI G (sb_a 1) 40 sb_begins, arI G (sb_a 2) 12 sb_route, oX4 row_h row_a row_sort row_size, arJ G (row_a 0) 40 row_values] H := hP
          have hD : va_D A [oX7 t_h t_a rd_h now_h sp_h wy_h gp_h ch_h sb_h, arR G (t_a 7) 4 t_rows, oX1 now_h now_a now_windows now_washes now_damp now_heard now_lines now_hour now_strings, arI G (now_a 8) 8 now_washPairs, arI G (now_a 9) 8 now_washHours, arI G (now_a 10) 21 now_pairs, arI G (now_a 11) 21 now_knots, oX6 wy_h wy_a wy_windows_10 wy_goal wy_otherFrom wy_otherTo wy_least, arI G (wy_a 1) 12 wy_links_11, arI G (wy_a 2) 144 wy_prices_12, arI G (wy_a 3) 12 wy_rest, oX5 sb_h sb_a sb_placed sb_ended sb_waited, arI G (sb_a 0) 492 sb_taken, arI G (sb_a 1) 40 sb_begins, arI G (sb_a 2) 12 sb_route, oX4 row_h row_a row_sort row_size, arJ G (row_a 0) 40 row_values] := hD
          refine lv_aload_n hx hb dX7_calls_74 rfl (lv_at hl 1 rfl) ?_
          refine va_get (D := G.1) (ci := 7) (v := .ref sb_h) (C := RX7) (T := TX7) (N := 10) hx hb hw inW7 hown hK.1 hP 0 rfl rfl 6 (by decide) (hw _ kw_2_13) (fun _ h9 => h9) rfl dX7_calls_75 ?_
          refine lv_aload_n hx hb dX7_calls_78 rfl (lv_at hl 1 rfl) ?_
          refine va_get (D := G.1) (ci := 7) (v := .ref now_h) (C := RX7) (T := TX7) (N := 10) hx hb hw inW7 hown hK.1 hP 0 rfl rfl 1 (by decide) (hw _ kw_1_20) (fun _ h9 => h9) rfl dX7_calls_79 ?_
          refine lv_aload_n hx hb dX7_calls_82 rfl (lv_at hl 1 rfl) ?_
          refine va_get (D := G.1) (ci := 7) (v := .ref wy_h) (C := RX7) (T := TX7) (N := 10) hx hb hw inW7 hown hK.1 hP 0 rfl rfl 3 (by decide) (hw _ kw_2_1) (fun _ h9 => h9) rfl dX7_calls_83 ?_
          refine lv_aload_n hx hb dX7_calls_86 rfl (lv_at hl 1 rfl) ?_
          refine va_get (D := G.1) (ci := 7) (v := .ref (t_a 7)) (C := RX7) (T := TX7) (N := 10) hx hb hw inW7 hown hK.1 hP 0 rfl rfl 7 (by decide) (hw _ kw_2_15) (fun _ h9 => h9) rfl dX7_calls_87 ?_
          refine lv_iload_n hx hb dX7_calls_90 rfl (lv_at hl 2 rfl) ?_
          obtain ⟨hi_q, hf⟩ := ckI_in hf
          refine va_aldq hx hb hK.1 hP 1 5 rfl rfl hi_q dX7_calls_91 ?_
          rw [h_row hi_q]
          obtain ⟨sb_taken_14, sb_begins_15, sb_route_16, sb_placed_17, sb_ended_18, sb_waited_19, wy_rest_20, hc_21, hf⟩ := bd7_in hf
          refine wcV (w1 := [oX5 sb_h sb_a sb_placed_17 sb_ended_18 sb_waited_19, arI G (sb_a 0) 492 sb_taken_14, arI G (sb_a 1) 40 sb_begins_15, arI G (sb_a 2) 12 sb_route_16, oX1 now_h now_a now_windows now_washes now_damp now_heard now_lines now_hour now_strings, arI G (now_a 10) 21 now_pairs, oX6 wy_h wy_a wy_windows_10 wy_goal wy_otherFrom wy_otherTo wy_least, arI G (wy_a 1) 12 wy_links_11, arI G (wy_a 2) 144 wy_prices_12, arI G (wy_a 3) 12 wy_rest_20, oX4 row_h row_a row_sort row_size, arJ G (row_a 0) 40 row_values]) (va_runV (As := [.ref now_h, .ref wy_h, .ref row_h]) (rest := []) ⟨hx, hb, hml, hown, hw⟩ ((ctX5_placeCalls l G sb_h sb_a now_h now_a wy_h wy_a row_h row_a sb_taken sb_begins sb_route sb_placed sb_ended sb_waited now_windows now_washes now_damp now_heard now_lines now_hour now_strings now_pairs wy_windows_10 wy_links_11 wy_prices_12 wy_rest wy_goal wy_otherFrom wy_otherTo wy_least row_values row_sort row_size _ _ _ _ _ _ _ hc_21) _) (kV hw calX5_placeCalls kw_43_5 rfl rfl ⟨Nat.le_of_ble_eq_true rfl, Nat.le_of_ble_eq_true rfl⟩) (wpV (hP.sub (ws' := [oX5 sb_h sb_a sb_placed sb_ended sb_waited, arI G (sb_a 0) 492 sb_taken, arI G (sb_a 1) 40 sb_begins, arI G (sb_a 2) 12 sb_route, oX1 now_h now_a now_windows now_washes now_damp now_heard now_lines now_hour now_strings, arI G (now_a 10) 21 now_pairs, oX6 wy_h wy_a wy_windows_10 wy_goal wy_otherFrom wy_otherTo wy_least, arI G (wy_a 1) 12 wy_links_11, arI G (wy_a 2) 144 wy_prices_12, arI G (wy_a 3) 12 wy_rest, oX4 row_h row_a row_sort row_size, arJ G (row_a 0) 40 row_values]) [11, 12, 13, 14, 2, 5, 7, 8, 9, 10, 15, 16] rfl) (hD.sub (ws' := [oX5 sb_h sb_a sb_placed sb_ended sb_waited, arI G (sb_a 0) 492 sb_taken, arI G (sb_a 1) 40 sb_begins, arI G (sb_a 2) 12 sb_route, oX1 now_h now_a now_windows now_washes now_damp now_heard now_lines now_hour now_strings, arI G (now_a 10) 21 now_pairs, oX6 wy_h wy_a wy_windows_10 wy_goal wy_otherFrom wy_otherTo wy_least, arI G (wy_a 1) 12 wy_links_11, arI G (wy_a 2) 144 wy_prices_12, arI G (wy_a 3) 12 wy_rest, oX4 row_h row_a row_sort row_size, arJ G (row_a 0) 40 row_values]) [11, 12, 13, 14, 2, 5, 7, 8, 9, 10, 15, 16] (by decide) rfl) hK (ci := 5) (q0 := 0) rfl rfl) rfl rfl hl.1 rfl (lv_room (Nat.le_of_ble_eq_true rfl)) dX7_calls_92 ⟨Nat.zero_le _, Nat.zero_le _⟩) hS hA hP hD [11, 12, 13, 14, 2, 5, 7, 8, 9, 10, 15, 16] rfl rfl (fun H locs hP hD hS => ?_)
          have hP : va_P G.1 vwCl [oX7 t_h t_a rd_h now_h sp_h wy_h gp_h ch_h sb_h, arR G (t_a 7) 4 t_rows, oX1 now_h now_a now_windows now_washes now_damp now_heard now_lines now_hour now_strings, arI G (now_a 8) 8 now_washPairs, arI G (now_a 9) 8 now_washHours, arI G (now_a 10) 21 now_pairs, arI G (now_a 11) 21 now_knots, oX6 wy_h wy_a wy_windows_10 wy_goal wy_otherFrom wy_otherTo wy_least, arI G (wy_a 1) 12 wy_links_11, arI G (wy_a 2) 144 wy_prices_12, arI G (wy_a 3) 12 wy_rest_20, oX5 sb_h sb_a sb_placed_17 sb_ended_18 sb_waited_19, arI G (sb_a 0) 492 sb_taken_14, arI G (sb_a 1) 40 sb_begins_15, arI G (sb_a 2) 12 sb_route_16, oX4 row_h row_a row_sort row_size, arJ G (row_a 0) 40 row_values] H := hP
          have hD : va_D A [oX7 t_h t_a rd_h now_h sp_h wy_h gp_h ch_h sb_h, arR G (t_a 7) 4 t_rows, oX1 now_h now_a now_windows now_washes now_damp now_heard now_lines now_hour now_strings, arI G (now_a 8) 8 now_washPairs, arI G (now_a 9) 8 now_washHours, arI G (now_a 10) 21 now_pairs, arI G (now_a 11) 21 now_knots, oX6 wy_h wy_a wy_windows_10 wy_goal wy_otherFrom wy_otherTo wy_least, arI G (wy_a 1) 12 wy_links_11, arI G (wy_a 2) 144 wy_prices_12, arI G (wy_a 3) 12 wy_rest_20, oX5 sb_h sb_a sb_placed_17 sb_ended_18 sb_waited_19, arI G (sb_a 0) 492 sb_taken_14, arI G (sb_a 1) 40 sb_begins_15, arI G (sb_a 2) 12 sb_route_16, oX4 row_h row_a row_sort row_size, arJ G (row_a 0) 40 row_values] := hD
          refine lv_iload_n hx hb dX7_calls_95 rfl (lv_at hl 3 rfl) ?_
          by_cases c_22 : v2 = 0
          · have hf := ip c_22 hf
            refine lv_tableIn (tgt := 124) hx hb dX7_calls_96 (by rw [c_22]; decide) (by rw [c_22]; decide) (by rw [c_22]; rfl) (by decide) ?_
            refine lv_aload_n hx hb dX7_calls_124 rfl (lv_at hl 1 rfl) ?_
            refine va_get (D := G.1) (ci := 7) (v := .ref sb_h) (C := RX7) (T := TX7) (N := 10) hx hb hw inW7 hown hK.1 hP 0 rfl rfl 6 (by decide) (hw _ kw_2_13) (fun _ h9 => h9) rfl dX7_calls_125 ?_
            refine va_getN (D := G.1) (ci := 5) (v := .int sb_placed_17) (C := RX5) (T := TX5) (N := 6) hx hb hw inW5 hown hK.1 hP 11 rfl rfl 3 (by decide) ((nf_34 hK.2).use rfl) (fun _ h9 => h9) rfl dX7_calls_128 ?_
            exact hRet _ _ _ _ _ _ _ _ _ _ _ _ _ _ _ hf hP hS dX7_calls_131
          have hf := iq c_22 hf
          by_cases c_23 : v2 = 1
          · have hf := ip c_23 hf
            refine lv_tableIn (tgt := 132) hx hb dX7_calls_96 (by rw [c_23]; decide) (by rw [c_23]; decide) (by rw [c_23]; rfl) (by decide) ?_
            refine lv_aload_n hx hb dX7_calls_132 rfl (lv_at hl 1 rfl) ?_
            refine va_get (D := G.1) (ci := 7) (v := .ref sb_h) (C := RX7) (T := TX7) (N := 10) hx hb hw inW7 hown hK.1 hP 0 rfl rfl 6 (by decide) (hw _ kw_2_13) (fun _ h9 => h9) rfl dX7_calls_133 ?_
            refine va_getN (D := G.1) (ci := 5) (v := .int sb_ended_18) (C := RX5) (T := TX5) (N := 6) hx hb hw inW5 hown hK.1 hP 11 rfl rfl 4 (by decide) ((nf_35 hK.2).use rfl) (fun _ h9 => h9) rfl dX7_calls_136 ?_
            exact hRet _ _ _ _ _ _ _ _ _ _ _ _ _ _ _ hf hP hS dX7_calls_139
          have hf := iq c_23 hf
          by_cases c_24 : v2 = 2
          · have hf := ip c_24 hf
            refine lv_tableIn (tgt := 140) hx hb dX7_calls_96 (by rw [c_24]; decide) (by rw [c_24]; decide) (by rw [c_24]; rfl) (by decide) ?_
            refine lv_aload_n hx hb dX7_calls_140 rfl (lv_at hl 1 rfl) ?_
            refine va_get (D := G.1) (ci := 7) (v := .ref sb_h) (C := RX7) (T := TX7) (N := 10) hx hb hw inW7 hown hK.1 hP 0 rfl rfl 6 (by decide) (hw _ kw_2_13) (fun _ h9 => h9) rfl dX7_calls_141 ?_
            refine va_getN (D := G.1) (ci := 5) (v := .int sb_waited_19) (C := RX5) (T := TX5) (N := 6) hx hb hw inW5 hown hK.1 hP 11 rfl rfl 5 (by decide) ((nf_36 hK.2).use rfl) (fun _ h9 => h9) rfl dX7_calls_144 ?_
            exact hRet _ _ _ _ _ _ _ _ _ _ _ _ _ _ _ hf hP hS dX7_calls_147
          have hf := iq c_24 hf
          refine lv_tableOut (tgt := 148) hx hb dX7_calls_96 (by have c_22_t : (v2 : Int32).toInt ≠ 0 := ne_toInt c_22; have c_23_t : (v2 : Int32).toInt ≠ 1 := ne_toInt c_23; have c_24_t : (v2 : Int32).toInt ≠ 2 := ne_toInt c_24; omega) (by decide) ?_
          refine lv_aload_n hx hb dX7_calls_148 rfl (lv_at hl 1 rfl) ?_
          refine va_get (D := G.1) (ci := 7) (v := .ref sb_h) (C := RX7) (T := TX7) (N := 10) hx hb hw inW7 hown hK.1 hP 0 rfl rfl 6 (by decide) (hw _ kw_2_13) (fun _ h9 => h9) rfl dX7_calls_149 ?_
          refine lv_iload_n hx hb dX7_calls_152 rfl (lv_at hl 3 rfl) ?_
          refine lv_bipush (v := 10) hx hb dX7_calls_153 (by decide) ?_
          refine lv_isub hx hb dX7_calls_155 ?_
          obtain ⟨r_25, hc_26, hf⟩ := bd1_in hf
          refine rcI (va_runV (As := [.int (v2 - 10)]) (rest := []) ⟨hx, hb, hml, hown, hw⟩ ((ctX5_beginOf l G sb_h sb_a sb_begins_15 sb_placed_17 sb_ended_18 sb_waited_19 (v2 - 10) _ hc_26) _) (kV hw calX5_beginOf kw_44_9 rfl rfl ⟨Nat.le_of_ble_eq_true rfl, Nat.le_of_ble_eq_true rfl⟩) (rpV (hP.sub (ws' := [oX5 sb_h sb_a sb_placed_17 sb_ended_18 sb_waited_19, arI G (sb_a 1) 40 sb_begins_15]) [11, 13] rfl) hK (ci := 5) (q0 := 0) rfl rfl) rfl rfl hl.1 rfl (lv_room (Nat.le_of_ble_eq_true rfl)) dX7_calls_156 ⟨Nat.zero_le _, Nat.zero_le _⟩) hS hA hP (fun H locs hP hS => ?_)
          exact hRet _ _ _ _ _ _ _ _ _ _ _ _ _ _ _ hf hP hS dX7_calls_159
        · have hf := iq c_9 hf
          refine lv_iload hx hb dX7_calls_53 (lv_at hl 0 rfl) ?_
          exact hRet _ _ _ _ _ _ _ _ _ _ _ _ _ _ _ hf hP hS dX7_calls_55
      refine jn_el hf (fun k_27 ek_27 hf => ?_)
      have J34 : ∀  (H : Heap) (locs : List Loc) (ls : Array Slot), va_P G.1 vwCl [oX7 t_h t_a rd_h now_h sp_h wy_h gp_h ch_h sb_h, arR G (t_a 7) 4 t_rows, oX1 now_h now_a now_windows now_washes now_damp now_heard now_lines now_hour now_strings, arI G (now_a 8) 8 now_washPairs, arI G (now_a 9) 8 now_washHours, arI G (now_a 10) 21 now_pairs, arI G (now_a 11) 21 now_knots, oX6 wy_h wy_a wy_windows wy_goal wy_otherFrom wy_otherTo wy_least, arI G (wy_a 1) 12 wy_links, arI G (wy_a 2) 144 wy_prices, arI G (wy_a 3) 12 wy_rest, oX5 sb_h sb_a sb_placed sb_ended sb_waited, arI G (sb_a 0) 492 sb_taken, arI G (sb_a 1) 40 sb_begins, arI G (sb_a 2) 12 sb_route, oX4 row_h row_a row_sort row_size, arJ G (row_a 0) 40 row_values] H → va_D A [oX7 t_h t_a rd_h now_h sp_h wy_h gp_h ch_h sb_h, arR G (t_a 7) 4 t_rows, oX1 now_h now_a now_windows now_washes now_damp now_heard now_lines now_hour now_strings, arI G (now_a 8) 8 now_washPairs, arI G (now_a 9) 8 now_washHours, arI G (now_a 10) 21 now_pairs, arI G (now_a 11) 21 now_knots, oX6 wy_h wy_a wy_windows wy_goal wy_otherFrom wy_otherTo wy_least, arI G (wy_a 1) 12 wy_links, arI G (wy_a 2) 144 wy_prices, arI G (wy_a 3) 12 wy_rest, oX5 sb_h sb_a sb_placed sb_ended sb_waited, arI G (sb_a 0) 492 sb_taken, arI G (sb_a 1) 40 sb_begins, arI G (sb_a 2) 12 sb_route, oX4 row_h row_a row_sort row_size, arJ G (row_a 0) 40 row_values] → va_S A s.heap H locs → lv_has ls 5 [(0, .ref t_h), (1, .int v1), (2, .int v2), (3, .int z_1)] → k_27 = some (r, o_wy_windows, o_wy_links, o_wy_prices, o_wy_rest, o_sb_taken, o_sb_begins, o_sb_route, o_sb_placed, o_sb_ended, o_sb_waited) → W p l e ({ frames := 5, cells := 0, slots := 0, locals := 120 } : Room) s m args below meth c H locs 0 0 Q (F0 m 34 ls []) := by
        intro  H locs ls hP hD hS hl hf
        rw [ek_27] at hf
        refine lv_iload_n hx hb dX7_calls_34 rfl (lv_at hl 3 rfl) ?_
        refine lv_if_ne (tgt := 41) hx hb dX7_calls_35 (by decide) (fun c_28 => ?_) (fun c_28 => ?_)
        · have hf := iq c_28 hf
          exact J41  _ _ _ hP hD hS (lv_sub hl [0, 1, 2] rfl) hf
        · have hf := ip c_28 hf
          refine lv_bipush (v := (-2)) hx hb dX7_calls_38 (by decide) ?_
          exact hRet _ _ _ _ _ _ _ _ _ _ _ _ _ _ _ hf hP hS dX7_calls_40
      refine lv_if_lt (tgt := 34) hx hb dX7_calls_26 (by decide) (fun c_29 => ?_) (fun c_29 => ?_)
      · have hf := ip c_29 hf
        exact J34  _ _ _ hP hD hS (lv_sub hl [1, 2, 3, 0] rfl) hf
      · have hf := iq c_29 hf
        refine lv_iload_n hx hb dX7_calls_29 rfl (lv_at hl 3 rfl) ?_
        refine lv_iconst (v := 2) hx hb dX7_calls_30 (by decide) ?_
        refine lv_icmp_le (tgt := 41) hx hb dX7_calls_31 (by decide) (fun c_30 => ?_) (fun c_30 => ?_)
        · have hf := ip c_30 hf
          exact J41  _ _ _ hP hD hS (lv_sub hl [1, 2, 3] rfl) hf
        · have hf := iq c_30 hf
          exact J34  _ _ _ hP hD hS (lv_sub hl [1, 2, 3, 0] rfl) hf
  refine lv_icmp_lt (tgt := 16) hx hb dX7_calls_3 (by decide) (fun c_31 => ?_) (fun c_31 => ?_)
  · have hf := ip c_31 hf
    refine lv_iconst (v := 0) hx hb dX7_calls_16 (by decide) ?_
    exact J17 _ _ _ _ hP hD hS (lv_sub hl [0, 1, 2] rfl) hf
  · have hf := iq c_31 hf
    refine lv_iload_n hx hb dX7_calls_6 rfl (lv_at hl 2 rfl) ?_
    refine lv_bipush (v := 50) hx hb dX7_calls_7 (by decide) ?_
    refine lv_icmp_ge (tgt := 16) hx hb dX7_calls_9 (by decide) (fun c_32 => ?_) (fun c_32 => ?_)
    · have hf := ip c_32 hf
      refine lv_iconst (v := 0) hx hb dX7_calls_16 (by decide) ?_
      exact J17 _ _ _ _ hP hD hS (lv_sub hl [0, 1, 2] rfl) hf
    · have hf := iq c_32 hf
      refine lv_iconst (v := 1) hx hb dX7_calls_12 (by decide) ?_
      refine lv_goto (tgt := 17) hx hb dX7_calls_13 (by decide) ?_
      exact J17 _ _ _ _ hP hD hS (lv_sub hl [0, 1, 2] rfl) hf
theorem calX7_echo : CalV yX7_echo cX7_echo 3 (some .int) 2 := ⟨⟨kw_45_4, kw_1_2, by decide +kernel⟩, kw_45_2, kw_45_3⟩
set_option maxHeartbeats 8000000 in
set_option maxRecDepth 100000 in
theorem ctX7_echo (l : Launch) (G : GT) (t_h : Nat) (t_a : Nat → Nat) (now_h : Nat) (now_a : Nat → Nat) (wy_h : Nat) (wy_a : Nat → Nat) (rd_h : Nat) (sp_h : Nat) (gp_h : Nat) (ch_h : Nat) (sb_h : Nat) (now_windows : Int32) (now_washes : Int32) (now_damp : Int32) (now_heard : Int32) (now_lines : Int32) (now_hour : Int32) (now_strings : Int32) (now_washPairs : Nat → Int32) (now_washHours : Nat → Int32) (now_pairs : Nat → Int32) (now_knots : Nat → Int32) (wy_windows : Int32) (wy_links : Nat → Int32) (wy_prices : Nat → Int32) (wy_breaths : Nat → Int32) (wy_goal : Int32) (wy_otherFrom : Int32) (wy_otherTo : Int32) (wy_least : Int32) (v1 : Int32) (v2 : Int32) (r : Int32) (o_wy_windows : Int32) (o_wy_links : Nat → Int32) (o_wy_prices : Nat → Int32) (o_wy_breaths : Nat → Int32) (hf : fX7_echo now_windows now_washes now_damp now_hour now_strings now_washPairs now_washHours now_pairs now_knots wy_windows wy_links wy_prices wy_breaths v1 v2 = some (r, o_wy_windows, o_wy_links, o_wy_prices, o_wy_breaths)) : WrI l yX7_echo (Cond.code yX7_echo cX7_echo 3 (some .int)) { frames := 5, cells := 0, slots := 0, locals := 108 } G [.ref t_h, .int v1, .int v2] [oX7 t_h t_a rd_h now_h sp_h wy_h gp_h ch_h sb_h, oX1 now_h now_a now_windows now_washes now_damp now_heard now_lines now_hour now_strings, arI G (now_a 8) 8 now_washPairs, arI G (now_a 9) 8 now_washHours, arI G (now_a 10) 21 now_pairs, arI G (now_a 11) 21 now_knots, oX6 wy_h wy_a wy_windows wy_goal wy_otherFrom wy_otherTo wy_least, arI G (wy_a 1) 12 wy_links, arI G (wy_a 2) 144 wy_prices, arI G (wy_a 4) 12 wy_breaths] [oX7 t_h t_a rd_h now_h sp_h wy_h gp_h ch_h sb_h, oX1 now_h now_a now_windows now_washes now_damp now_heard now_lines now_hour now_strings, arI G (now_a 8) 8 now_washPairs, arI G (now_a 9) 8 now_washHours, arI G (now_a 10) 21 now_pairs, arI G (now_a 11) 21 now_knots, oX6 wy_h wy_a o_wy_windows wy_goal wy_otherFrom wy_otherTo wy_least, arI G (wy_a 1) 12 o_wy_links, arI G (wy_a 2) 144 o_wy_prices, arI G (wy_a 4) 12 o_wy_breaths] r := by
  intro sz
  refine Met.ofW (cc := cX7_echo) (maxL := 3) (ret := (some .int)) (by decide) rfl ?_
  intro p e s m args below meth c s₁ B hml hv
  obtain ⟨hargs, hsz, hP, hD0, hK⟩ := hv
  subst hsz
  obtain ⟨hx, hb, hr, hw, hown, hlk⟩ := fwB B
  refine fw_enter hargs (Nat.le_of_ble_eq_true rfl) (fun ls hl => ?_)
  have hl : lv_has ls 3 [(0, .ref t_h), (1, .int v1), (2, .int v2)] := hl
  refine fw_Q (P := fun Q => ∃ A : Nat → Prop, va_D A [oX7 t_h t_a rd_h now_h sp_h wy_h gp_h ch_h sb_h, oX1 now_h now_a now_windows now_washes now_damp now_heard now_lines now_hour now_strings, arI G (now_a 8) 8 now_washPairs, arI G (now_a 9) 8 now_washHours, arI G (now_a 10) 21 now_pairs, arI G (now_a 11) 21 now_knots, oX6 wy_h wy_a wy_windows wy_goal wy_otherFrom wy_otherTo wy_least, arI G (wy_a 1) 12 wy_links, arI G (wy_a 2) 144 wy_prices, arI G (wy_a 4) 12 wy_breaths] ∧ va_S A s.heap s.heap [] ∧ (∀ q, s.heap.size ≤ q → A q) ∧ ∀ (v : Int32) (n_wy_windows : Int32) (n_wy_links : Nat → Int32) (n_wy_prices : Nat → Int32) (n_wy_breaths : Nat → Int32) (H : Heap) (locs : List Loc) (pc : Nat) (ls : Array Slot), some (v, n_wy_windows, n_wy_links, n_wy_prices, n_wy_breaths) = some (r, o_wy_windows, o_wy_links, o_wy_prices, o_wy_breaths) → va_P G.1 vwCl [oX7 t_h t_a rd_h now_h sp_h wy_h gp_h ch_h sb_h, oX1 now_h now_a now_windows now_washes now_damp now_heard now_lines now_hour now_strings, arI G (now_a 8) 8 now_washPairs, arI G (now_a 9) 8 now_washHours, arI G (now_a 10) 21 now_pairs, arI G (now_a 11) 21 now_knots, oX6 wy_h wy_a n_wy_windows wy_goal wy_otherFrom wy_otherTo wy_least, arI G (wy_a 1) 12 n_wy_links, arI G (wy_a 2) 144 n_wy_prices, arI G (wy_a 4) 12 n_wy_breaths] H → va_S A s.heap H locs → decode cX7_echo pc = .ok (.ireturn, 1) → W p l e ({ frames := 5, cells := 0, slots := 0, locals := 108 } : Room) s m args below meth c H locs 0 0 Q (F0 m pc ls [.int v])) ⟨va_A [oX7 t_h t_a rd_h now_h sp_h wy_h gp_h ch_h sb_h, oX1 now_h now_a now_windows now_washes now_damp now_heard now_lines now_hour now_strings, arI G (now_a 8) 8 now_washPairs, arI G (now_a 9) 8 now_washHours, arI G (now_a 10) 21 now_pairs, arI G (now_a 11) 21 now_knots, oX6 wy_h wy_a wy_windows wy_goal wy_otherFrom wy_otherTo wy_least, arI G (wy_a 1) 12 wy_links, arI G (wy_a 2) 144 wy_prices, arI G (wy_a 4) 12 wy_breaths] s.heap.size, hD0.self (sz := s.heap.size), va_S.rf, fun q h => Or.inr h, ?_⟩ ?_
  · intro v n_wy_windows n_wy_links n_wy_prices n_wy_breaths H locs pc ls h hP hS hd
    cases h
    exact retWI hx hb hr hlk hS hP rfl hd
  rintro Q ⟨A, hD, hS, hA, hRet⟩
  change W p l e ({ frames := 5, cells := 0, slots := 0, locals := 108 } : Room) s m args below meth c _ _ 0 0 Q _
  unfold fX7_echo at hf
  refine lv_aload_n hx hb dX7_echo_0 rfl (lv_at hl 0 rfl) ?_
  refine va_get (D := G.1) (ci := 7) (v := .ref now_h) (C := RX7) (T := TX7) (N := 10) hx hb hw inW7 hown hK.1 hP 0 rfl rfl 1 (by decide) (hw _ kw_1_20) (fun _ h9 => h9) rfl dX7_echo_1 ?_
  refine lv_iload_n hx hb dX7_echo_4 rfl (lv_at hl 1 rfl) ?_
  obtain ⟨r_1, hc_2, hf⟩ := bd1_in hf
  refine rcI (va_runV (As := [.int v1]) (rest := []) ⟨hx, hb, hml, hown, hw⟩ ((ctX1_hasWindow l G now_h now_a now_windows now_washes now_damp now_heard now_lines now_hour now_strings v1 _ hc_2) _) (kV hw calX1_hasWindow kw_18_1 rfl rfl ⟨Nat.le_of_ble_eq_true rfl, Nat.le_of_ble_eq_true rfl⟩) (rpV (hP.sub (ws' := [oX1 now_h now_a now_windows now_washes now_damp now_heard now_lines now_hour now_strings]) [1] rfl) hK (ci := 1) (q0 := 0) rfl rfl) rfl rfl hl.1 rfl (lv_room (Nat.le_of_ble_eq_true rfl)) dX7_echo_5 ⟨Nat.zero_le _, Nat.zero_le _⟩) hS hA hP (fun H locs hP hS => ?_)
  refine lv_if_eq (tgt := 22) hx hb dX7_echo_8 (by decide) (fun c_3 => ?_) (fun c_3 => ?_)
  · have hf := ip c_3 hf
    refine lv_bipush (v := (-2)) hx hb dX7_echo_22 (by decide) ?_
    exact hRet _ _ _ _ _ _ _ _ _ hf hP hS dX7_echo_24
  · have hf := iq c_3 hf
    refine lv_aload_n hx hb dX7_echo_11 rfl (lv_at hl 0 rfl) ?_
    refine va_get (D := G.1) (ci := 7) (v := .ref now_h) (C := RX7) (T := TX7) (N := 10) hx hb hw inW7 hown hK.1 hP 0 rfl rfl 1 (by decide) (hw _ kw_1_20) (fun _ h9 => h9) rfl dX7_echo_12 ?_
    refine lv_iload_n hx hb dX7_echo_15 rfl (lv_at hl 2 rfl) ?_
    obtain ⟨r_4, hc_5, hf⟩ := bd1_in hf
    refine rcI (va_runV (As := [.int v2]) (rest := []) ⟨hx, hb, hml, hown, hw⟩ ((ctX1_hasWindow l G now_h now_a now_windows now_washes now_damp now_heard now_lines now_hour now_strings v2 _ hc_5) _) (kV hw calX1_hasWindow kw_18_1 rfl rfl ⟨Nat.le_of_ble_eq_true rfl, Nat.le_of_ble_eq_true rfl⟩) (rpV (hP.sub (ws' := [oX1 now_h now_a now_windows now_washes now_damp now_heard now_lines now_hour now_strings]) [1] rfl) hK (ci := 1) (q0 := 0) rfl rfl) rfl rfl hl.1 rfl (lv_room (Nat.le_of_ble_eq_true rfl)) dX7_echo_16 ⟨Nat.zero_le _, Nat.zero_le _⟩) hS hA hP (fun H locs hP hS => ?_)
    refine lv_if_ne (tgt := 25) hx hb dX7_echo_19 (by decide) (fun c_6 => ?_) (fun c_6 => ?_)
    · have hf := iq c_6 hf
      refine lv_aload_n hx hb dX7_echo_25 rfl (lv_at hl 0 rfl) ?_
      refine va_get (D := G.1) (ci := 7) (v := .ref wy_h) (C := RX7) (T := TX7) (N := 10) hx hb hw inW7 hown hK.1 hP 0 rfl rfl 3 (by decide) (hw _ kw_2_1) (fun _ h9 => h9) rfl dX7_echo_26 ?_
      refine lv_aload_n hx hb dX7_echo_29 rfl (lv_at hl 0 rfl) ?_
      refine va_get (D := G.1) (ci := 7) (v := .ref now_h) (C := RX7) (T := TX7) (N := 10) hx hb hw inW7 hown hK.1 hP 0 rfl rfl 1 (by decide) (hw _ kw_1_20) (fun _ h9 => h9) rfl dX7_echo_30 ?_
      refine lv_aload_n hx hb dX7_echo_33 rfl (lv_at hl 0 rfl) ?_
      refine va_get (D := G.1) (ci := 7) (v := .ref now_h) (C := RX7) (T := TX7) (N := 10) hx hb hw inW7 hown hK.1 hP 0 rfl rfl 1 (by decide) (hw _ kw_1_20) (fun _ h9 => h9) rfl dX7_echo_34 ?_
      refine va_getN (D := G.1) (ci := 1) (v := .int now_hour) (C := RX1) (T := TX1) (N := 12) hx hb hw inW1 hown hK.1 hP 1 rfl rfl 5 (by decide) ((nf_16 hK.2).use rfl) (fun _ h9 => h9) rfl dX7_echo_37 ?_
      obtain ⟨wy_windows_7, wy_links_8, wy_prices_9, hc_10, hf⟩ := bd3_in hf
      refine wcV (w1 := [oX6 wy_h wy_a wy_windows_7 wy_goal wy_otherFrom wy_otherTo wy_least, arI G (wy_a 1) 12 wy_links_8, arI G (wy_a 2) 144 wy_prices_9, oX1 now_h now_a now_windows now_washes now_damp now_heard now_lines now_hour now_strings, arI G (now_a 8) 8 now_washPairs, arI G (now_a 9) 8 now_washHours, arI G (now_a 10) 21 now_pairs, arI G (now_a 11) 21 now_knots]) (va_runV (As := [.ref now_h, .int now_hour]) (rest := []) ⟨hx, hb, hml, hown, hw⟩ ((ctX6_takeStrings l G wy_h wy_a now_h now_a wy_windows wy_links wy_prices wy_goal wy_otherFrom wy_otherTo wy_least now_windows now_washes now_damp now_heard now_lines now_hour now_strings now_washPairs now_washHours now_pairs now_knots now_hour _ _ _ hc_10) _) (kV hw calX6_takeStrings kw_18_10 rfl rfl ⟨Nat.le_of_ble_eq_true rfl, Nat.le_of_ble_eq_true rfl⟩) (wpV (hP.sub (ws' := [oX6 wy_h wy_a wy_windows wy_goal wy_otherFrom wy_otherTo wy_least, arI G (wy_a 1) 12 wy_links, arI G (wy_a 2) 144 wy_prices, oX1 now_h now_a now_windows now_washes now_damp now_heard now_lines now_hour now_strings, arI G (now_a 8) 8 now_washPairs, arI G (now_a 9) 8 now_washHours, arI G (now_a 10) 21 now_pairs, arI G (now_a 11) 21 now_knots]) [6, 7, 8, 1, 2, 3, 4, 5] rfl) (hD.sub (ws' := [oX6 wy_h wy_a wy_windows wy_goal wy_otherFrom wy_otherTo wy_least, arI G (wy_a 1) 12 wy_links, arI G (wy_a 2) 144 wy_prices, oX1 now_h now_a now_windows now_washes now_damp now_heard now_lines now_hour now_strings, arI G (now_a 8) 8 now_washPairs, arI G (now_a 9) 8 now_washHours, arI G (now_a 10) 21 now_pairs, arI G (now_a 11) 21 now_knots]) [6, 7, 8, 1, 2, 3, 4, 5] (by decide) rfl) hK (ci := 6) (q0 := 0) rfl rfl) rfl rfl hl.1 rfl (lv_room (Nat.le_of_ble_eq_true rfl)) dX7_echo_40 ⟨Nat.zero_le _, Nat.zero_le _⟩) hS hA hP hD [6, 7, 8, 1, 2, 3, 4, 5] rfl rfl (fun H locs hP hD hS => ?_)
      have hP : va_P G.1 vwCl [oX7 t_h t_a rd_h now_h sp_h wy_h gp_h ch_h sb_h, oX1 now_h now_a now_windows now_washes now_damp now_heard now_lines now_hour now_strings, arI G (now_a 8) 8 now_washPairs, arI G (now_a 9) 8 now_washHours, arI G (now_a 10) 21 now_pairs, arI G (now_a 11) 21 now_knots, oX6 wy_h wy_a wy_windows_7 wy_goal wy_otherFrom wy_otherTo wy_least, arI G (wy_a 1) 12 wy_links_8, arI G (wy_a 2) 144 wy_prices_9, arI G (wy_a 4) 12 wy_breaths] H := hP
      have hD : va_D A [oX7 t_h t_a rd_h now_h sp_h wy_h gp_h ch_h sb_h, oX1 now_h now_a now_windows now_washes now_damp now_heard now_lines now_hour now_strings, arI G (now_a 8) 8 now_washPairs, arI G (now_a 9) 8 now_washHours, arI G (now_a 10) 21 now_pairs, arI G (now_a 11) 21 now_knots, oX6 wy_h wy_a wy_windows_7 wy_goal wy_otherFrom wy_otherTo wy_least, arI G (wy_a 1) 12 wy_links_8, arI G (wy_a 2) 144 wy_prices_9, arI G (wy_a 4) 12 wy_breaths] := hD
      refine lv_aload_n hx hb dX7_echo_43 rfl (lv_at hl 0 rfl) ?_
      refine va_get (D := G.1) (ci := 7) (v := .ref wy_h) (C := RX7) (T := TX7) (N := 10) hx hb hw inW7 hown hK.1 hP 0 rfl rfl 3 (by decide) (hw _ kw_2_1) (fun _ h9 => h9) rfl dX7_echo_44 ?_
      refine lv_iload_n hx hb dX7_echo_47 rfl (lv_at hl 1 rfl) ?_
      obtain ⟨wy_breaths_11, hc_12, hf⟩ := bd1_in hf
      refine wcV (w1 := [oX6 wy_h wy_a wy_windows_7 wy_goal wy_otherFrom wy_otherTo wy_least, arI G (wy_a 1) 12 wy_links_8, arI G (wy_a 4) 12 wy_breaths_11]) (va_runV (As := [.int v1]) (rest := []) ⟨hx, hb, hml, hown, hw⟩ ((ctX6_spread l G wy_h wy_a wy_windows_7 wy_links_8 wy_breaths wy_goal wy_otherFrom wy_otherTo wy_least v1 _ hc_12) _) (kV hw calX6_spread kw_45_5 rfl rfl ⟨Nat.le_of_ble_eq_true rfl, Nat.le_of_ble_eq_true rfl⟩) (wpV (hP.sub (ws' := [oX6 wy_h wy_a wy_windows_7 wy_goal wy_otherFrom wy_otherTo wy_least, arI G (wy_a 1) 12 wy_links_8, arI G (wy_a 4) 12 wy_breaths]) [6, 7, 9] rfl) (hD.sub (ws' := [oX6 wy_h wy_a wy_windows_7 wy_goal wy_otherFrom wy_otherTo wy_least, arI G (wy_a 1) 12 wy_links_8, arI G (wy_a 4) 12 wy_breaths]) [6, 7, 9] (by decide) rfl) hK (ci := 6) (q0 := 0) rfl rfl) rfl rfl hl.1 rfl (lv_room (Nat.le_of_ble_eq_true rfl)) dX7_echo_48 ⟨Nat.zero_le _, Nat.zero_le _⟩) hS hA hP hD [6, 7, 9] rfl rfl (fun H locs hP hD hS => ?_)
      have hP : va_P G.1 vwCl [oX7 t_h t_a rd_h now_h sp_h wy_h gp_h ch_h sb_h, oX1 now_h now_a now_windows now_washes now_damp now_heard now_lines now_hour now_strings, arI G (now_a 8) 8 now_washPairs, arI G (now_a 9) 8 now_washHours, arI G (now_a 10) 21 now_pairs, arI G (now_a 11) 21 now_knots, oX6 wy_h wy_a wy_windows_7 wy_goal wy_otherFrom wy_otherTo wy_least, arI G (wy_a 1) 12 wy_links_8, arI G (wy_a 2) 144 wy_prices_9, arI G (wy_a 4) 12 wy_breaths_11] H := hP
      have hD : va_D A [oX7 t_h t_a rd_h now_h sp_h wy_h gp_h ch_h sb_h, oX1 now_h now_a now_windows now_washes now_damp now_heard now_lines now_hour now_strings, arI G (now_a 8) 8 now_washPairs, arI G (now_a 9) 8 now_washHours, arI G (now_a 10) 21 now_pairs, arI G (now_a 11) 21 now_knots, oX6 wy_h wy_a wy_windows_7 wy_goal wy_otherFrom wy_otherTo wy_least, arI G (wy_a 1) 12 wy_links_8, arI G (wy_a 2) 144 wy_prices_9, arI G (wy_a 4) 12 wy_breaths_11] := hD
      refine lv_aload_n hx hb dX7_echo_51 rfl (lv_at hl 0 rfl) ?_
      refine va_get (D := G.1) (ci := 7) (v := .ref wy_h) (C := RX7) (T := TX7) (N := 10) hx hb hw inW7 hown hK.1 hP 0 rfl rfl 3 (by decide) (hw _ kw_2_1) (fun _ h9 => h9) rfl dX7_echo_52 ?_
      refine va_getN (D := G.1) (ci := 6) (v := .ref (wy_a 4)) (C := RX6) (T := TX6) (N := 9) hx hb hw inW6 hown hK.1 hP 6 rfl rfl 4 (by decide) ((nf_27 hK.2).use rfl) (fun _ h9 => h9) rfl dX7_echo_55 ?_
      refine lv_iload_n hx hb dX7_echo_58 rfl (lv_at hl 2 rfl) ?_
      obtain ⟨hi_14, hf⟩ := rdI_in hf
      refine va_iald hx hb hK.1 hP 9 0 rfl rfl hi_14 dX7_echo_59 ?_
      refine lv_topi (fun x_13 ex_13 => ?_)
      have hf := hf x_13 ex_13
      exact hRet _ _ _ _ _ _ _ _ _ hf hP hS dX7_echo_60
    · have hf := ip c_6 hf
      refine lv_bipush (v := (-2)) hx hb dX7_echo_22 (by decide) ?_
      exact hRet _ _ _ _ _ _ _ _ _ hf hP hS dX7_echo_24
theorem calX7_stringTooMany : CalV yX7_stringTooMany cX7_stringTooMany 6 (some .int) 2 := ⟨⟨kw_46_6, kw_1_2, by decide +kernel⟩, kw_46_4, kw_46_5⟩
set_option maxHeartbeats 8000000 in
set_option maxRecDepth 100000 in
theorem ctX7_stringTooMany (l : Launch) (G : GT) (t_h : Nat) (t_a : Nat → Nat) (p2_h : Nat) (p2_a : Nat → Nat) (now_h : Nat) (now_a : Nat → Nat) (wy_h : Nat) (wy_a : Nat → Nat) (rd_h : Nat) (sp_h : Nat) (gp_h : Nat) (ch_h : Nat) (sb_h : Nat) (p2_values : Nat → Int64) (p2_sort : Int32) (p2_size : Int32) (now_windows : Int32) (now_washes : Int32) (now_damp : Int32) (now_heard : Int32) (now_lines : Int32) (now_hour : Int32) (now_strings : Int32) (wy_windows : Int32) (wy_links : Nat → Int32) (wy_breaths : Nat → Int32) (wy_goal : Int32) (wy_otherFrom : Int32) (wy_otherTo : Int32) (wy_least : Int32) (v1 : Int32) (r : Int32) (o_wy_links : Nat → Int32) (o_wy_breaths : Nat → Int32) (hf : fX7_stringTooMany p2_values p2_size now_windows wy_windows wy_links wy_breaths v1 = some (r, o_wy_links, o_wy_breaths)) : WrI l yX7_stringTooMany (Cond.code yX7_stringTooMany cX7_stringTooMany 6 (some .int)) { frames := 3, cells := 0, slots := 0, locals := 71 } G [.ref t_h, .int v1, .ref p2_h] [oX7 t_h t_a rd_h now_h sp_h wy_h gp_h ch_h sb_h, oX4 p2_h p2_a p2_sort p2_size, arJ G (p2_a 0) 40 p2_values, oX1 now_h now_a now_windows now_washes now_damp now_heard now_lines now_hour now_strings, oX6 wy_h wy_a wy_windows wy_goal wy_otherFrom wy_otherTo wy_least, arI G (wy_a 1) 12 wy_links, arI G (wy_a 4) 12 wy_breaths] [oX7 t_h t_a rd_h now_h sp_h wy_h gp_h ch_h sb_h, oX4 p2_h p2_a p2_sort p2_size, arJ G (p2_a 0) 40 p2_values, oX1 now_h now_a now_windows now_washes now_damp now_heard now_lines now_hour now_strings, oX6 wy_h wy_a wy_windows wy_goal wy_otherFrom wy_otherTo wy_least, arI G (wy_a 1) 12 o_wy_links, arI G (wy_a 4) 12 o_wy_breaths] r := by
  intro sz
  refine Met.ofW (cc := cX7_stringTooMany) (maxL := 6) (ret := (some .int)) (by decide) rfl ?_
  intro p e s m args below meth c s₁ B hml hv
  obtain ⟨hargs, hsz, hP, hD0, hK⟩ := hv
  subst hsz
  obtain ⟨hx, hb, hr, hw, hown, hlk⟩ := fwB B
  refine fw_enter hargs (Nat.le_of_ble_eq_true rfl) (fun ls hl => ?_)
  have hl : lv_has ls 6 [(0, .ref t_h), (1, .int v1), (2, .ref p2_h)] := hl
  refine fw_Q (P := fun Q => ∃ A : Nat → Prop, va_D A [oX7 t_h t_a rd_h now_h sp_h wy_h gp_h ch_h sb_h, oX4 p2_h p2_a p2_sort p2_size, arJ G (p2_a 0) 40 p2_values, oX1 now_h now_a now_windows now_washes now_damp now_heard now_lines now_hour now_strings, oX6 wy_h wy_a wy_windows wy_goal wy_otherFrom wy_otherTo wy_least, arI G (wy_a 1) 12 wy_links, arI G (wy_a 4) 12 wy_breaths] ∧ va_S A s.heap s.heap [] ∧ (∀ q, s.heap.size ≤ q → A q) ∧ ∀ (v : Int32) (n_wy_links : Nat → Int32) (n_wy_breaths : Nat → Int32) (H : Heap) (locs : List Loc) (pc : Nat) (ls : Array Slot), some (v, n_wy_links, n_wy_breaths) = some (r, o_wy_links, o_wy_breaths) → va_P G.1 vwCl [oX7 t_h t_a rd_h now_h sp_h wy_h gp_h ch_h sb_h, oX4 p2_h p2_a p2_sort p2_size, arJ G (p2_a 0) 40 p2_values, oX1 now_h now_a now_windows now_washes now_damp now_heard now_lines now_hour now_strings, oX6 wy_h wy_a wy_windows wy_goal wy_otherFrom wy_otherTo wy_least, arI G (wy_a 1) 12 n_wy_links, arI G (wy_a 4) 12 n_wy_breaths] H → va_S A s.heap H locs → decode cX7_stringTooMany pc = .ok (.ireturn, 1) → W p l e ({ frames := 3, cells := 0, slots := 0, locals := 71 } : Room) s m args below meth c H locs 0 0 Q (F0 m pc ls [.int v])) ⟨va_A [oX7 t_h t_a rd_h now_h sp_h wy_h gp_h ch_h sb_h, oX4 p2_h p2_a p2_sort p2_size, arJ G (p2_a 0) 40 p2_values, oX1 now_h now_a now_windows now_washes now_damp now_heard now_lines now_hour now_strings, oX6 wy_h wy_a wy_windows wy_goal wy_otherFrom wy_otherTo wy_least, arI G (wy_a 1) 12 wy_links, arI G (wy_a 4) 12 wy_breaths] s.heap.size, hD0.self (sz := s.heap.size), va_S.rf, fun q h => Or.inr h, ?_⟩ ?_
  · intro v n_wy_links n_wy_breaths H locs pc ls h hP hS hd
    cases h
    exact retWI hx hb hr hlk hS hP rfl hd
  rintro Q ⟨A, hD, hS, hA, hRet⟩
  change W p l e ({ frames := 3, cells := 0, slots := 0, locals := 71 } : Room) s m args below meth c _ _ 0 0 Q _
  have L18 : ∀ (l3 : Int32) (K : (Nat → Int32) → (Nat → Int32) → Option (Int32 × (Nat → Int32) × (Nat → Int32))) (n : Nat) (l4 : Int32) (wy_links : Nat → Int32) (wy_breaths : Nat → Int32) (H : Heap) (locs : List Loc) (ls : Array Slot), va_P G.1 vwCl [oX7 t_h t_a rd_h now_h sp_h wy_h gp_h ch_h sb_h, oX4 p2_h p2_a p2_sort p2_size, arJ G (p2_a 0) 40 p2_values, oX1 now_h now_a now_windows now_washes now_damp now_heard now_lines now_hour now_strings, oX6 wy_h wy_a wy_windows wy_goal wy_otherFrom wy_otherTo wy_least, arI G (wy_a 1) 12 wy_links, arI G (wy_a 4) 12 wy_breaths] H → va_D A [oX7 t_h t_a rd_h now_h sp_h wy_h gp_h ch_h sb_h, oX4 p2_h p2_a p2_sort p2_size, arJ G (p2_a 0) 40 p2_values, oX1 now_h now_a now_windows now_washes now_damp now_heard now_lines now_hour now_strings, oX6 wy_h wy_a wy_windows wy_goal wy_otherFrom wy_otherTo wy_least, arI G (wy_a 1) 12 wy_links, arI G (wy_a 4) 12 wy_breaths] → va_S A s.heap H locs → lv_has ls 6 [(0, .ref t_h), (1, .int v1), (2, .ref p2_h), (3, .int l3), (4, .int l4)] → fX7_stringTooMany_18 v1 l3 p2_values p2_size now_windows wy_windows K n l4 wy_links wy_breaths = some (r, o_wy_links, o_wy_breaths) → (∀ (kwy_links : Nat → Int32) (kwy_breaths : Nat → Int32) (H : Heap) (locs : List Loc) (ls : Array Slot), va_P G.1 vwCl [oX7 t_h t_a rd_h now_h sp_h wy_h gp_h ch_h sb_h, oX4 p2_h p2_a p2_sort p2_size, arJ G (p2_a 0) 40 p2_values, oX1 now_h now_a now_windows now_washes now_damp now_heard now_lines now_hour now_strings, oX6 wy_h wy_a wy_windows wy_goal wy_otherFrom wy_otherTo wy_least, arI G (wy_a 1) 12 kwy_links, arI G (wy_a 4) 12 kwy_breaths] H → va_D A [oX7 t_h t_a rd_h now_h sp_h wy_h gp_h ch_h sb_h, oX4 p2_h p2_a p2_sort p2_size, arJ G (p2_a 0) 40 p2_values, oX1 now_h now_a now_windows now_washes now_damp now_heard now_lines now_hour now_strings, oX6 wy_h wy_a wy_windows wy_goal wy_otherFrom wy_otherTo wy_least, arI G (wy_a 1) 12 kwy_links, arI G (wy_a 4) 12 kwy_breaths] → va_S A s.heap H locs → lv_has ls 6 [(0, .ref t_h), (1, .int v1), (2, .ref p2_h), (3, .int l3)] → K kwy_links kwy_breaths = some (r, o_wy_links, o_wy_breaths) → W p l e ({ frames := 3, cells := 0, slots := 0, locals := 71 } : Room) s m args below meth c H locs 0 0 Q (F0 m 95 ls [])) → W p l e ({ frames := 3, cells := 0, slots := 0, locals := 71 } : Room) s m args below meth c H locs 0 0 Q (F0 m 18 ls []) := by
    intro l3 K n
    induction n with
    | zero => intro l4 wy_links wy_breaths H locs ls hP hD hS hl hf; rw [fX7_stringTooMany_18] at hf; cases hf
    | succ n ih =>
      intro l4 wy_links wy_breaths H locs ls hP hD hS hl hf hX
      rw [fX7_stringTooMany_18] at hf
      refine lv_iload hx hb dX7_stringTooMany_18 (lv_at hl 4 rfl) ?_
      refine lv_aload_n hx hb dX7_stringTooMany_20 rfl (lv_at hl 0 rfl) ?_
      refine va_get (D := G.1) (ci := 7) (v := .ref now_h) (C := RX7) (T := TX7) (N := 10) hx hb hw inW7 hown hK.1 hP 0 rfl rfl 1 (by decide) (hw _ kw_1_20) (fun _ h9 => h9) rfl dX7_stringTooMany_21 ?_
      refine va_getN (D := G.1) (ci := 1) (v := .int now_windows) (C := RX1) (T := TX1) (N := 12) hx hb hw inW1 hown hK.1 hP 3 rfl rfl 0 (by decide) ((nf_6 hK.2).use rfl) (fun _ h9 => h9) rfl dX7_stringTooMany_24 ?_
      refine lv_icmp_ge (tgt := 95) hx hb dX7_stringTooMany_27 (by decide) (fun c_3 => ?_) (fun c_3 => ?_)
      · have hf := ip c_3 hf
        exact hX _ _ _ _ _ hP hD hS (lv_sub hl [0, 1, 2, 3] rfl) hf
      · have hf := iq c_3 hf
        refine lv_aload_n hx hb dX7_stringTooMany_30 rfl (lv_at hl 0 rfl) ?_
        refine va_get (D := G.1) (ci := 7) (v := .ref wy_h) (C := RX7) (T := TX7) (N := 10) hx hb hw inW7 hown hK.1 hP 0 rfl rfl 3 (by decide) (hw _ kw_2_1) (fun _ h9 => h9) rfl dX7_stringTooMany_31 ?_
        refine lv_iload_n hx hb dX7_stringTooMany_34 rfl (lv_at hl 3 rfl) ?_
        refine lv_iload hx hb dX7_stringTooMany_35 (lv_at hl 4 rfl) ?_
        obtain ⟨r_4, hc_5, hf⟩ := bd1_in hf
        refine rcI (va_runV (As := [.int l3, .int l4]) (rest := []) ⟨hx, hb, hml, hown, hw⟩ ((ctX6_areLinked l G wy_h wy_a wy_windows wy_links wy_goal wy_otherFrom wy_otherTo wy_least l3 l4 _ hc_5) _) (kV hw calX6_areLinked kw_46_7 rfl rfl ⟨Nat.le_of_ble_eq_true rfl, Nat.le_of_ble_eq_true rfl⟩) (rpV (hP.sub (ws' := [oX6 wy_h wy_a wy_windows wy_goal wy_otherFrom wy_otherTo wy_least, arI G (wy_a 1) 12 wy_links]) [4, 5] rfl) hK (ci := 6) (q0 := 0) rfl rfl) rfl rfl hl.1 rfl (lv_room (Nat.le_of_ble_eq_true rfl)) dX7_stringTooMany_37 ⟨Nat.zero_le _, Nat.zero_le _⟩) hS hA hP (fun H locs hP hS => ?_)
        refine lv_if_ne (tgt := 46) hx hb dX7_stringTooMany_40 (by decide) (fun c_6 => ?_) (fun c_6 => ?_)
        · have hf := iq c_6 hf
          refine lv_aload_n hx hb dX7_stringTooMany_46 rfl (lv_at hl 0 rfl) ?_
          refine va_get (D := G.1) (ci := 7) (v := .ref wy_h) (C := RX7) (T := TX7) (N := 10) hx hb hw inW7 hown hK.1 hP 0 rfl rfl 3 (by decide) (hw _ kw_2_1) (fun _ h9 => h9) rfl dX7_stringTooMany_47 ?_
          refine lv_iload_n hx hb dX7_stringTooMany_50 rfl (lv_at hl 3 rfl) ?_
          refine lv_iload hx hb dX7_stringTooMany_51 (lv_at hl 4 rfl) ?_
          obtain ⟨wy_links_7, hc_8, hf⟩ := bd1_in hf
          refine wcV (w1 := [oX6 wy_h wy_a wy_windows wy_goal wy_otherFrom wy_otherTo wy_least, arI G (wy_a 1) 12 wy_links_7]) (va_runV (As := [.int l3, .int l4]) (rest := []) ⟨hx, hb, hml, hown, hw⟩ ((ctX6_sever l G wy_h wy_a wy_windows wy_links wy_goal wy_otherFrom wy_otherTo wy_least l3 l4 _ hc_8) _) (kV hw calX6_sever kw_35_13 rfl rfl ⟨Nat.le_of_ble_eq_true rfl, Nat.le_of_ble_eq_true rfl⟩) (wpV (hP.sub (ws' := [oX6 wy_h wy_a wy_windows wy_goal wy_otherFrom wy_otherTo wy_least, arI G (wy_a 1) 12 wy_links]) [4, 5] rfl) (hD.sub (ws' := [oX6 wy_h wy_a wy_windows wy_goal wy_otherFrom wy_otherTo wy_least, arI G (wy_a 1) 12 wy_links]) [4, 5] (by decide) rfl) hK (ci := 6) (q0 := 0) rfl rfl) rfl rfl hl.1 rfl (lv_room (Nat.le_of_ble_eq_true rfl)) dX7_stringTooMany_53 ⟨Nat.zero_le _, Nat.zero_le _⟩) hS hA hP hD [4, 5] rfl rfl (fun H locs hP hD hS => ?_)
          have hP : va_P G.1 vwCl [oX7 t_h t_a rd_h now_h sp_h wy_h gp_h ch_h sb_h, oX4 p2_h p2_a p2_sort p2_size, arJ G (p2_a 0) 40 p2_values, oX1 now_h now_a now_windows now_washes now_damp now_heard now_lines now_hour now_strings, oX6 wy_h wy_a wy_windows wy_goal wy_otherFrom wy_otherTo wy_least, arI G (wy_a 1) 12 wy_links_7, arI G (wy_a 4) 12 wy_breaths] H := hP
          have hD : va_D A [oX7 t_h t_a rd_h now_h sp_h wy_h gp_h ch_h sb_h, oX4 p2_h p2_a p2_sort p2_size, arJ G (p2_a 0) 40 p2_values, oX1 now_h now_a now_windows now_washes now_damp now_heard now_lines now_hour now_strings, oX6 wy_h wy_a wy_windows wy_goal wy_otherFrom wy_otherTo wy_least, arI G (wy_a 1) 12 wy_links_7, arI G (wy_a 4) 12 wy_breaths] := hD
          refine lv_aload_n hx hb dX7_stringTooMany_56 rfl (lv_at hl 0 rfl) ?_
          refine va_get (D := G.1) (ci := 7) (v := .ref wy_h) (C := RX7) (T := TX7) (N := 10) hx hb hw inW7 hown hK.1 hP 0 rfl rfl 3 (by decide) (hw _ kw_2_1) (fun _ h9 => h9) rfl dX7_stringTooMany_57 ?_
          refine lv_iload_n hx hb dX7_stringTooMany_60 rfl (lv_at hl 1 rfl) ?_
          refine lv_aload_n hx hb dX7_stringTooMany_61 rfl (lv_at hl 2 rfl) ?_
          obtain ⟨r_10, wy_breaths_9, hc_11, hf⟩ := bd2_in hf
          refine wcI (w1 := [oX6 wy_h wy_a wy_windows wy_goal wy_otherFrom wy_otherTo wy_least, arI G (wy_a 1) 12 wy_links_7, arI G (wy_a 4) 12 wy_breaths_9, oX4 p2_h p2_a p2_sort p2_size, arJ G (p2_a 0) 40 p2_values]) (va_runV (As := [.int v1, .ref p2_h]) (rest := []) ⟨hx, hb, hml, hown, hw⟩ ((ctX6_spreadsAs l G wy_h wy_a p2_h p2_a wy_windows wy_links_7 wy_breaths wy_goal wy_otherFrom wy_otherTo wy_least p2_values p2_sort p2_size v1 _ _ hc_11) _) (kV hw calX6_spreadsAs kw_45_21 rfl rfl ⟨Nat.le_of_ble_eq_true rfl, Nat.le_of_ble_eq_true rfl⟩) (wpV (hP.sub (ws' := [oX6 wy_h wy_a wy_windows wy_goal wy_otherFrom wy_otherTo wy_least, arI G (wy_a 1) 12 wy_links_7, arI G (wy_a 4) 12 wy_breaths, oX4 p2_h p2_a p2_sort p2_size, arJ G (p2_a 0) 40 p2_values]) [4, 5, 6, 1, 2] rfl) (hD.sub (ws' := [oX6 wy_h wy_a wy_windows wy_goal wy_otherFrom wy_otherTo wy_least, arI G (wy_a 1) 12 wy_links_7, arI G (wy_a 4) 12 wy_breaths, oX4 p2_h p2_a p2_sort p2_size, arJ G (p2_a 0) 40 p2_values]) [4, 5, 6, 1, 2] (by decide) rfl) hK (ci := 6) (q0 := 0) rfl rfl) rfl rfl hl.1 rfl (lv_room (Nat.le_of_ble_eq_true rfl)) dX7_stringTooMany_62 ⟨Nat.zero_le _, Nat.zero_le _⟩) hS hA hP hD [4, 5, 6, 1, 2] rfl rfl (fun H locs hP hD hS => ?_)
          have hP : va_P G.1 vwCl [oX7 t_h t_a rd_h now_h sp_h wy_h gp_h ch_h sb_h, oX4 p2_h p2_a p2_sort p2_size, arJ G (p2_a 0) 40 p2_values, oX1 now_h now_a now_windows now_washes now_damp now_heard now_lines now_hour now_strings, oX6 wy_h wy_a wy_windows wy_goal wy_otherFrom wy_otherTo wy_least, arI G (wy_a 1) 12 wy_links_7, arI G (wy_a 4) 12 wy_breaths_9] H := hP
          have hD : va_D A [oX7 t_h t_a rd_h now_h sp_h wy_h gp_h ch_h sb_h, oX4 p2_h p2_a p2_sort p2_size, arJ G (p2_a 0) 40 p2_values, oX1 now_h now_a now_windows now_washes now_damp now_heard now_lines now_hour now_strings, oX6 wy_h wy_a wy_windows wy_goal wy_otherFrom wy_otherTo wy_least, arI G (wy_a 1) 12 wy_links_7, arI G (wy_a 4) 12 wy_breaths_9] := hD
          refine lv_istore (lv' := [(5, .int r_10), (0, .ref t_h), (1, .int v1), (2, .ref p2_h), (3, .int l3), (4, .int l4)]) hx hb dX7_stringTooMany_65 hl (by decide) rfl (fun ls hl => ?_)
          refine lv_aload_n hx hb dX7_stringTooMany_67 rfl (lv_at hl 1 rfl) ?_
          refine va_get (D := G.1) (ci := 7) (v := .ref wy_h) (C := RX7) (T := TX7) (N := 10) hx hb hw inW7 hown hK.1 hP 0 rfl rfl 3 (by decide) (hw _ kw_2_1) (fun _ h9 => h9) rfl dX7_stringTooMany_68 ?_
          refine lv_iload_n hx hb dX7_stringTooMany_71 rfl (lv_at hl 4 rfl) ?_
          refine lv_iload hx hb dX7_stringTooMany_72 (lv_at hl 5 rfl) ?_
          obtain ⟨wy_links_12, hc_13, hf⟩ := bd1_in hf
          refine wcV (w1 := [oX6 wy_h wy_a wy_windows wy_goal wy_otherFrom wy_otherTo wy_least, arI G (wy_a 1) 12 wy_links_12]) (va_runV (As := [.int l3, .int l4]) (rest := []) ⟨hx, hb, hml, hown, hw⟩ ((ctX6_join l G wy_h wy_a wy_windows wy_links_7 wy_goal wy_otherFrom wy_otherTo wy_least l3 l4 _ hc_13) _) (kV hw calX6_join kw_35_12 rfl rfl ⟨Nat.le_of_ble_eq_true rfl, Nat.le_of_ble_eq_true rfl⟩) (wpV (hP.sub (ws' := [oX6 wy_h wy_a wy_windows wy_goal wy_otherFrom wy_otherTo wy_least, arI G (wy_a 1) 12 wy_links_7]) [4, 5] rfl) (hD.sub (ws' := [oX6 wy_h wy_a wy_windows wy_goal wy_otherFrom wy_otherTo wy_least, arI G (wy_a 1) 12 wy_links_7]) [4, 5] (by decide) rfl) hK (ci := 6) (q0 := 0) rfl rfl) rfl rfl hl.1 rfl (lv_room (Nat.le_of_ble_eq_true rfl)) dX7_stringTooMany_74 ⟨Nat.zero_le _, Nat.zero_le _⟩) hS hA hP hD [4, 5] rfl rfl (fun H locs hP hD hS => ?_)
          have hP : va_P G.1 vwCl [oX7 t_h t_a rd_h now_h sp_h wy_h gp_h ch_h sb_h, oX4 p2_h p2_a p2_sort p2_size, arJ G (p2_a 0) 40 p2_values, oX1 now_h now_a now_windows now_washes now_damp now_heard now_lines now_hour now_strings, oX6 wy_h wy_a wy_windows wy_goal wy_otherFrom wy_otherTo wy_least, arI G (wy_a 1) 12 wy_links_12, arI G (wy_a 4) 12 wy_breaths_9] H := hP
          have hD : va_D A [oX7 t_h t_a rd_h now_h sp_h wy_h gp_h ch_h sb_h, oX4 p2_h p2_a p2_sort p2_size, arJ G (p2_a 0) 40 p2_values, oX1 now_h now_a now_windows now_washes now_damp now_heard now_lines now_hour now_strings, oX6 wy_h wy_a wy_windows wy_goal wy_otherFrom wy_otherTo wy_least, arI G (wy_a 1) 12 wy_links_12, arI G (wy_a 4) 12 wy_breaths_9] := hD
          refine lv_iload hx hb dX7_stringTooMany_77 (lv_at hl 0 rfl) ?_
          refine lv_if_eq (tgt := 89) hx hb dX7_stringTooMany_79 (by decide) (fun c_14 => ?_) (fun c_14 => ?_)
          · have hf := ip c_14 hf
            refine lv_iinc (v := (l4 + 1)) (lv' := [(4, .int (l4 + 1)), (5, .int r_10), (0, .ref t_h), (1, .int v1), (2, .ref p2_h), (3, .int l3)]) hx hb dX7_stringTooMany_89 hl (k := 5) rfl (by rfl) (by decide) rfl (fun ls hl => ?_)
            refine lv_goto (tgt := 18) hx hb dX7_stringTooMany_92 (by decide) ?_
            exact ih _ _ _ _ _ _ hP hD hS (lv_sub hl [2, 3, 4, 5, 0] rfl) hf hX
          · have hf := iq c_14 hf
            refine lv_iload_n hx hb dX7_stringTooMany_82 rfl (lv_at hl 4 rfl) ?_
            refine lv_iload hx hb dX7_stringTooMany_83 (lv_at hl 5 rfl) ?_
            obtain ⟨r_15, hc_16, hf⟩ := bd1_in hf
            refine rcI (va_runS (As := [.int l3, .int l4]) (rest := []) ⟨hx, hb, hml, hown, hw⟩ ((ctX7_pairOf l G l3 l4 _ hc_16) _) (kS hw calX7_pairOf kw_27_1 rfl rfl ⟨Nat.le_of_ble_eq_true rfl, Nat.le_of_ble_eq_true rfl⟩) (rpS (hP.sub (ws' := []) [] rfl) hK) rfl rfl hl.1 rfl (lv_room (Nat.le_of_ble_eq_true rfl)) dX7_stringTooMany_85 ⟨Nat.zero_le _, Nat.zero_le _⟩) hS hA hP (fun H locs hP hS => ?_)
            exact hRet _ _ _ _ _ _ _ hf hP hS dX7_stringTooMany_88
        · have hf := ip c_6 hf
          refine lv_goto (tgt := 89) hx hb dX7_stringTooMany_43 (by decide) ?_
          refine lv_iinc (v := (l4 + 1)) (lv' := [(4, .int (l4 + 1)), (0, .ref t_h), (1, .int v1), (2, .ref p2_h), (3, .int l3)]) hx hb dX7_stringTooMany_89 hl (k := 4) rfl (by rfl) (by decide) rfl (fun ls hl => ?_)
          refine lv_goto (tgt := 18) hx hb dX7_stringTooMany_92 (by decide) ?_
          exact ih _ _ _ _ _ _ hP hD hS (lv_sub hl [1, 2, 3, 4, 0] rfl) hf hX
  have L2 : ∀  (K : (Nat → Int32) → (Nat → Int32) → Option (Int32 × (Nat → Int32) × (Nat → Int32))) (n : Nat) (l3 : Int32) (wy_links : Nat → Int32) (wy_breaths : Nat → Int32) (H : Heap) (locs : List Loc) (ls : Array Slot), va_P G.1 vwCl [oX7 t_h t_a rd_h now_h sp_h wy_h gp_h ch_h sb_h, oX4 p2_h p2_a p2_sort p2_size, arJ G (p2_a 0) 40 p2_values, oX1 now_h now_a now_windows now_washes now_damp now_heard now_lines now_hour now_strings, oX6 wy_h wy_a wy_windows wy_goal wy_otherFrom wy_otherTo wy_least, arI G (wy_a 1) 12 wy_links, arI G (wy_a 4) 12 wy_breaths] H → va_D A [oX7 t_h t_a rd_h now_h sp_h wy_h gp_h ch_h sb_h, oX4 p2_h p2_a p2_sort p2_size, arJ G (p2_a 0) 40 p2_values, oX1 now_h now_a now_windows now_washes now_damp now_heard now_lines now_hour now_strings, oX6 wy_h wy_a wy_windows wy_goal wy_otherFrom wy_otherTo wy_least, arI G (wy_a 1) 12 wy_links, arI G (wy_a 4) 12 wy_breaths] → va_S A s.heap H locs → lv_has ls 6 [(0, .ref t_h), (1, .int v1), (2, .ref p2_h), (3, .int l3)] → fX7_stringTooMany_2 v1 p2_values p2_size now_windows wy_windows K n l3 wy_links wy_breaths = some (r, o_wy_links, o_wy_breaths) → (∀ (kwy_links : Nat → Int32) (kwy_breaths : Nat → Int32) (H : Heap) (locs : List Loc) (ls : Array Slot), va_P G.1 vwCl [oX7 t_h t_a rd_h now_h sp_h wy_h gp_h ch_h sb_h, oX4 p2_h p2_a p2_sort p2_size, arJ G (p2_a 0) 40 p2_values, oX1 now_h now_a now_windows now_washes now_damp now_heard now_lines now_hour now_strings, oX6 wy_h wy_a wy_windows wy_goal wy_otherFrom wy_otherTo wy_least, arI G (wy_a 1) 12 kwy_links, arI G (wy_a 4) 12 kwy_breaths] H → va_D A [oX7 t_h t_a rd_h now_h sp_h wy_h gp_h ch_h sb_h, oX4 p2_h p2_a p2_sort p2_size, arJ G (p2_a 0) 40 p2_values, oX1 now_h now_a now_windows now_washes now_damp now_heard now_lines now_hour now_strings, oX6 wy_h wy_a wy_windows wy_goal wy_otherFrom wy_otherTo wy_least, arI G (wy_a 1) 12 kwy_links, arI G (wy_a 4) 12 kwy_breaths] → va_S A s.heap H locs → lv_has ls 6 [] → K kwy_links kwy_breaths = some (r, o_wy_links, o_wy_breaths) → W p l e ({ frames := 3, cells := 0, slots := 0, locals := 71 } : Room) s m args below meth c H locs 0 0 Q (F0 m 101 ls [])) → W p l e ({ frames := 3, cells := 0, slots := 0, locals := 71 } : Room) s m args below meth c H locs 0 0 Q (F0 m 2 ls []) := by
    intro  K n
    induction n with
    | zero => intro l3 wy_links wy_breaths H locs ls hP hD hS hl hf; rw [fX7_stringTooMany_2] at hf; cases hf
    | succ n ih =>
      intro l3 wy_links wy_breaths H locs ls hP hD hS hl hf hX
      rw [fX7_stringTooMany_2] at hf
      refine lv_iload_n hx hb dX7_stringTooMany_2 rfl (lv_at hl 3 rfl) ?_
      refine lv_aload_n hx hb dX7_stringTooMany_3 rfl (lv_at hl 0 rfl) ?_
      refine va_get (D := G.1) (ci := 7) (v := .ref now_h) (C := RX7) (T := TX7) (N := 10) hx hb hw inW7 hown hK.1 hP 0 rfl rfl 1 (by decide) (hw _ kw_1_20) (fun _ h9 => h9) rfl dX7_stringTooMany_4 ?_
      refine va_getN (D := G.1) (ci := 1) (v := .int now_windows) (C := RX1) (T := TX1) (N := 12) hx hb hw inW1 hown hK.1 hP 3 rfl rfl 0 (by decide) ((nf_6 hK.2).use rfl) (fun _ h9 => h9) rfl dX7_stringTooMany_7 ?_
      refine lv_icmp_ge (tgt := 101) hx hb dX7_stringTooMany_10 (by decide) (fun c_1 => ?_) (fun c_1 => ?_)
      · have hf := ip c_1 hf
        exact hX _ _ _ _ _ hP hD hS (lv_sub hl [] rfl) hf
      · have hf := iq c_1 hf
        refine lv_iload_n hx hb dX7_stringTooMany_13 rfl (lv_at hl 3 rfl) ?_
        refine lv_iconst (v := 1) hx hb dX7_stringTooMany_14 (by decide) ?_
        refine lv_iadd hx hb dX7_stringTooMany_15 ?_
        refine lv_topi (fun y_2 ey_2 => ?_)
        have hf := bnd_all hf y_2 ey_2
        refine lv_istore (lv' := [(4, .int y_2), (0, .ref t_h), (1, .int v1), (2, .ref p2_h), (3, .int l3)]) hx hb dX7_stringTooMany_16 hl (by decide) rfl (fun ls hl => ?_)
        refine L18 _ _ _ _ _ _ _ _ _ hP hD hS (lv_sub hl [1, 2, 3, 4, 0] rfl) hf (fun wy_links_17 wy_breaths_18 H locs ls hP hD hS hl hf => ?_)
        refine lv_iinc (v := (l3 + 1)) (lv' := [(3, .int (l3 + 1)), (0, .ref t_h), (1, .int v1), (2, .ref p2_h)]) hx hb dX7_stringTooMany_95 hl (k := 3) rfl (by rfl) (by decide) rfl (fun ls hl => ?_)
        refine lv_goto (tgt := 2) hx hb dX7_stringTooMany_98 (by decide) ?_
        exact ih _ _ _ _ _ _ hP hD hS (lv_sub hl [1, 2, 3, 0] rfl) hf hX
  unfold fX7_stringTooMany at hf
  refine lv_iconst (v := 0) hx hb dX7_stringTooMany_0 (by decide) ?_
  refine lv_istore_n (lv' := [(3, .int 0), (0, .ref t_h), (1, .int v1), (2, .ref p2_h)]) hx hb dX7_stringTooMany_1 rfl hl (by decide) rfl (fun ls hl => ?_)
  refine L2  _ _ _ _ _ _ _ _ hP hD hS (lv_sub hl [1, 2, 3, 0] rfl) hf (fun wy_links_19 wy_breaths_20 H locs ls hP hD hS hl hf => ?_)
  refine lv_iconst (v := (-1)) hx hb dX7_stringTooMany_101 (by decide) ?_
  exact hRet _ _ _ _ _ _ _ hf hP hS dX7_stringTooMany_102
theorem calX7_pairTooFew : CalV yX7_pairTooFew cX7_pairTooFew 6 (some .int) 2 := ⟨⟨kw_46_11, kw_1_2, by decide +kernel⟩, kw_46_9, kw_46_10⟩
set_option maxHeartbeats 8000000 in
set_option maxRecDepth 100000 in
theorem ctX7_pairTooFew (l : Launch) (G : GT) (t_h : Nat) (t_a : Nat → Nat) (p2_h : Nat) (p2_a : Nat → Nat) (now_h : Nat) (now_a : Nat → Nat) (wy_h : Nat) (wy_a : Nat → Nat) (rd_h : Nat) (sp_h : Nat) (gp_h : Nat) (ch_h : Nat) (sb_h : Nat) (p2_values : Nat → Int64) (p2_sort : Int32) (p2_size : Int32) (now_windows : Int32) (now_washes : Int32) (now_damp : Int32) (now_heard : Int32) (now_lines : Int32) (now_hour : Int32) (now_strings : Int32) (now_cans : Nat → Int32) (now_washPairs : Nat → Int32) (now_washHours : Nat → Int32) (now_pairs : Nat → Int32) (wy_windows : Int32) (wy_links : Nat → Int32) (wy_breaths : Nat → Int32) (wy_goal : Int32) (wy_otherFrom : Int32) (wy_otherTo : Int32) (wy_least : Int32) (v1 : Int32) (r : Int32) (o_wy_links : Nat → Int32) (o_wy_breaths : Nat → Int32) (hf : fX7_pairTooFew p2_values p2_size now_windows now_washes now_hour now_strings now_cans now_washPairs now_washHours now_pairs wy_windows wy_links wy_breaths v1 = some (r, o_wy_links, o_wy_breaths)) : WrI l yX7_pairTooFew (Cond.code yX7_pairTooFew cX7_pairTooFew 6 (some .int)) { frames := 4, cells := 0, slots := 0, locals := 91 } G [.ref t_h, .int v1, .ref p2_h] [oX7 t_h t_a rd_h now_h sp_h wy_h gp_h ch_h sb_h, oX4 p2_h p2_a p2_sort p2_size, arJ G (p2_a 0) 40 p2_values, oX1 now_h now_a now_windows now_washes now_damp now_heard now_lines now_hour now_strings, arI G (now_a 7) 12 now_cans, arI G (now_a 8) 8 now_washPairs, arI G (now_a 9) 8 now_washHours, arI G (now_a 10) 21 now_pairs, oX6 wy_h wy_a wy_windows wy_goal wy_otherFrom wy_otherTo wy_least, arI G (wy_a 1) 12 wy_links, arI G (wy_a 4) 12 wy_breaths] [oX7 t_h t_a rd_h now_h sp_h wy_h gp_h ch_h sb_h, oX4 p2_h p2_a p2_sort p2_size, arJ G (p2_a 0) 40 p2_values, oX1 now_h now_a now_windows now_washes now_damp now_heard now_lines now_hour now_strings, arI G (now_a 7) 12 now_cans, arI G (now_a 8) 8 now_washPairs, arI G (now_a 9) 8 now_washHours, arI G (now_a 10) 21 now_pairs, oX6 wy_h wy_a wy_windows wy_goal wy_otherFrom wy_otherTo wy_least, arI G (wy_a 1) 12 o_wy_links, arI G (wy_a 4) 12 o_wy_breaths] r := by
  intro sz
  refine Met.ofW (cc := cX7_pairTooFew) (maxL := 6) (ret := (some .int)) (by decide) rfl ?_
  intro p e s m args below meth c s₁ B hml hv
  obtain ⟨hargs, hsz, hP, hD0, hK⟩ := hv
  subst hsz
  obtain ⟨hx, hb, hr, hw, hown, hlk⟩ := fwB B
  refine fw_enter hargs (Nat.le_of_ble_eq_true rfl) (fun ls hl => ?_)
  have hl : lv_has ls 6 [(0, .ref t_h), (1, .int v1), (2, .ref p2_h)] := hl
  refine fw_Q (P := fun Q => ∃ A : Nat → Prop, va_D A [oX7 t_h t_a rd_h now_h sp_h wy_h gp_h ch_h sb_h, oX4 p2_h p2_a p2_sort p2_size, arJ G (p2_a 0) 40 p2_values, oX1 now_h now_a now_windows now_washes now_damp now_heard now_lines now_hour now_strings, arI G (now_a 7) 12 now_cans, arI G (now_a 8) 8 now_washPairs, arI G (now_a 9) 8 now_washHours, arI G (now_a 10) 21 now_pairs, oX6 wy_h wy_a wy_windows wy_goal wy_otherFrom wy_otherTo wy_least, arI G (wy_a 1) 12 wy_links, arI G (wy_a 4) 12 wy_breaths] ∧ va_S A s.heap s.heap [] ∧ (∀ q, s.heap.size ≤ q → A q) ∧ ∀ (v : Int32) (n_wy_links : Nat → Int32) (n_wy_breaths : Nat → Int32) (H : Heap) (locs : List Loc) (pc : Nat) (ls : Array Slot), some (v, n_wy_links, n_wy_breaths) = some (r, o_wy_links, o_wy_breaths) → va_P G.1 vwCl [oX7 t_h t_a rd_h now_h sp_h wy_h gp_h ch_h sb_h, oX4 p2_h p2_a p2_sort p2_size, arJ G (p2_a 0) 40 p2_values, oX1 now_h now_a now_windows now_washes now_damp now_heard now_lines now_hour now_strings, arI G (now_a 7) 12 now_cans, arI G (now_a 8) 8 now_washPairs, arI G (now_a 9) 8 now_washHours, arI G (now_a 10) 21 now_pairs, oX6 wy_h wy_a wy_windows wy_goal wy_otherFrom wy_otherTo wy_least, arI G (wy_a 1) 12 n_wy_links, arI G (wy_a 4) 12 n_wy_breaths] H → va_S A s.heap H locs → decode cX7_pairTooFew pc = .ok (.ireturn, 1) → W p l e ({ frames := 4, cells := 0, slots := 0, locals := 91 } : Room) s m args below meth c H locs 0 0 Q (F0 m pc ls [.int v])) ⟨va_A [oX7 t_h t_a rd_h now_h sp_h wy_h gp_h ch_h sb_h, oX4 p2_h p2_a p2_sort p2_size, arJ G (p2_a 0) 40 p2_values, oX1 now_h now_a now_windows now_washes now_damp now_heard now_lines now_hour now_strings, arI G (now_a 7) 12 now_cans, arI G (now_a 8) 8 now_washPairs, arI G (now_a 9) 8 now_washHours, arI G (now_a 10) 21 now_pairs, oX6 wy_h wy_a wy_windows wy_goal wy_otherFrom wy_otherTo wy_least, arI G (wy_a 1) 12 wy_links, arI G (wy_a 4) 12 wy_breaths] s.heap.size, hD0.self (sz := s.heap.size), va_S.rf, fun q h => Or.inr h, ?_⟩ ?_
  · intro v n_wy_links n_wy_breaths H locs pc ls h hP hS hd
    cases h
    exact retWI hx hb hr hlk hS hP rfl hd
  rintro Q ⟨A, hD, hS, hA, hRet⟩
  change W p l e ({ frames := 4, cells := 0, slots := 0, locals := 91 } : Room) s m args below meth c _ _ 0 0 Q _
  have L18 : ∀ (l3 : Int32) (K : (Nat → Int32) → (Nat → Int32) → Option (Int32 × (Nat → Int32) × (Nat → Int32))) (n : Nat) (l4 : Int32) (wy_links : Nat → Int32) (wy_breaths : Nat → Int32) (H : Heap) (locs : List Loc) (ls : Array Slot), va_P G.1 vwCl [oX7 t_h t_a rd_h now_h sp_h wy_h gp_h ch_h sb_h, oX4 p2_h p2_a p2_sort p2_size, arJ G (p2_a 0) 40 p2_values, oX1 now_h now_a now_windows now_washes now_damp now_heard now_lines now_hour now_strings, arI G (now_a 7) 12 now_cans, arI G (now_a 8) 8 now_washPairs, arI G (now_a 9) 8 now_washHours, arI G (now_a 10) 21 now_pairs, oX6 wy_h wy_a wy_windows wy_goal wy_otherFrom wy_otherTo wy_least, arI G (wy_a 1) 12 wy_links, arI G (wy_a 4) 12 wy_breaths] H → va_D A [oX7 t_h t_a rd_h now_h sp_h wy_h gp_h ch_h sb_h, oX4 p2_h p2_a p2_sort p2_size, arJ G (p2_a 0) 40 p2_values, oX1 now_h now_a now_windows now_washes now_damp now_heard now_lines now_hour now_strings, arI G (now_a 7) 12 now_cans, arI G (now_a 8) 8 now_washPairs, arI G (now_a 9) 8 now_washHours, arI G (now_a 10) 21 now_pairs, oX6 wy_h wy_a wy_windows wy_goal wy_otherFrom wy_otherTo wy_least, arI G (wy_a 1) 12 wy_links, arI G (wy_a 4) 12 wy_breaths] → va_S A s.heap H locs → lv_has ls 6 [(0, .ref t_h), (1, .int v1), (2, .ref p2_h), (3, .int l3), (4, .int l4)] → fX7_pairTooFew_18 v1 l3 p2_values p2_size now_windows now_washes now_hour now_strings now_cans now_washPairs now_washHours now_pairs wy_windows K n l4 wy_links wy_breaths = some (r, o_wy_links, o_wy_breaths) → (∀ (kwy_links : Nat → Int32) (kwy_breaths : Nat → Int32) (H : Heap) (locs : List Loc) (ls : Array Slot), va_P G.1 vwCl [oX7 t_h t_a rd_h now_h sp_h wy_h gp_h ch_h sb_h, oX4 p2_h p2_a p2_sort p2_size, arJ G (p2_a 0) 40 p2_values, oX1 now_h now_a now_windows now_washes now_damp now_heard now_lines now_hour now_strings, arI G (now_a 7) 12 now_cans, arI G (now_a 8) 8 now_washPairs, arI G (now_a 9) 8 now_washHours, arI G (now_a 10) 21 now_pairs, oX6 wy_h wy_a wy_windows wy_goal wy_otherFrom wy_otherTo wy_least, arI G (wy_a 1) 12 kwy_links, arI G (wy_a 4) 12 kwy_breaths] H → va_D A [oX7 t_h t_a rd_h now_h sp_h wy_h gp_h ch_h sb_h, oX4 p2_h p2_a p2_sort p2_size, arJ G (p2_a 0) 40 p2_values, oX1 now_h now_a now_windows now_washes now_damp now_heard now_lines now_hour now_strings, arI G (now_a 7) 12 now_cans, arI G (now_a 8) 8 now_washPairs, arI G (now_a 9) 8 now_washHours, arI G (now_a 10) 21 now_pairs, oX6 wy_h wy_a wy_windows wy_goal wy_otherFrom wy_otherTo wy_least, arI G (wy_a 1) 12 kwy_links, arI G (wy_a 4) 12 kwy_breaths] → va_S A s.heap H locs → lv_has ls 6 [(0, .ref t_h), (1, .int v1), (2, .ref p2_h), (3, .int l3)] → K kwy_links kwy_breaths = some (r, o_wy_links, o_wy_breaths) → W p l e ({ frames := 4, cells := 0, slots := 0, locals := 91 } : Room) s m args below meth c H locs 0 0 Q (F0 m 98 ls [])) → W p l e ({ frames := 4, cells := 0, slots := 0, locals := 91 } : Room) s m args below meth c H locs 0 0 Q (F0 m 18 ls []) := by
    intro l3 K n
    induction n with
    | zero => intro l4 wy_links wy_breaths H locs ls hP hD hS hl hf; rw [fX7_pairTooFew_18] at hf; cases hf
    | succ n ih =>
      intro l4 wy_links wy_breaths H locs ls hP hD hS hl hf hX
      rw [fX7_pairTooFew_18] at hf
      refine lv_iload hx hb dX7_pairTooFew_18 (lv_at hl 4 rfl) ?_
      refine lv_aload_n hx hb dX7_pairTooFew_20 rfl (lv_at hl 0 rfl) ?_
      refine va_get (D := G.1) (ci := 7) (v := .ref now_h) (C := RX7) (T := TX7) (N := 10) hx hb hw inW7 hown hK.1 hP 0 rfl rfl 1 (by decide) (hw _ kw_1_20) (fun _ h9 => h9) rfl dX7_pairTooFew_21 ?_
      refine va_getN (D := G.1) (ci := 1) (v := .int now_windows) (C := RX1) (T := TX1) (N := 12) hx hb hw inW1 hown hK.1 hP 3 rfl rfl 0 (by decide) ((nf_6 hK.2).use rfl) (fun _ h9 => h9) rfl dX7_pairTooFew_24 ?_
      refine lv_icmp_ge (tgt := 98) hx hb dX7_pairTooFew_27 (by decide) (fun c_3 => ?_) (fun c_3 => ?_)
      · have hf := ip c_3 hf
        exact hX _ _ _ _ _ hP hD hS (lv_sub hl [0, 1, 2, 3] rfl) hf
      · have hf := iq c_3 hf
        refine lv_aload_n hx hb dX7_pairTooFew_30 rfl (lv_at hl 0 rfl) ?_
        refine va_get (D := G.1) (ci := 7) (v := .ref now_h) (C := RX7) (T := TX7) (N := 10) hx hb hw inW7 hown hK.1 hP 0 rfl rfl 1 (by decide) (hw _ kw_1_20) (fun _ h9 => h9) rfl dX7_pairTooFew_31 ?_
        refine lv_iload_n hx hb dX7_pairTooFew_34 rfl (lv_at hl 3 rfl) ?_
        refine lv_iload hx hb dX7_pairTooFew_35 (lv_at hl 4 rfl) ?_
        obtain ⟨r_4, hc_5, hf⟩ := bd1_in hf
        refine rcI (va_runS (As := [.int l3, .int l4]) (rest := [.ref now_h]) ⟨hx, hb, hml, hown, hw⟩ ((ctX7_pairOf l G l3 l4 _ hc_5) _) (kS hw calX7_pairOf kw_27_1 rfl rfl ⟨Nat.le_of_ble_eq_true rfl, Nat.le_of_ble_eq_true rfl⟩) (rpS (hP.sub (ws' := []) [] rfl) hK) rfl rfl hl.1 rfl (lv_room (Nat.le_of_ble_eq_true rfl)) dX7_pairTooFew_37 ⟨Nat.zero_le _, Nat.zero_le _⟩) hS hA hP (fun H locs hP hS => ?_)
        obtain ⟨r_6, hc_7, hf⟩ := bd1_in hf
        refine rcI (va_runV (As := [.int r_4]) (rest := []) ⟨hx, hb, hml, hown, hw⟩ ((ctX1_mayBeTaut l G now_h now_a now_windows now_washes now_damp now_heard now_lines now_hour now_strings now_cans now_washPairs now_washHours now_pairs r_4 _ hc_7) _) (kV hw calX1_mayBeTaut kw_35_2 rfl rfl ⟨Nat.le_of_ble_eq_true rfl, Nat.le_of_ble_eq_true rfl⟩) (rpV (hP.sub (ws' := [oX1 now_h now_a now_windows now_washes now_damp now_heard now_lines now_hour now_strings, arI G (now_a 7) 12 now_cans, arI G (now_a 8) 8 now_washPairs, arI G (now_a 9) 8 now_washHours, arI G (now_a 10) 21 now_pairs]) [3, 4, 5, 6, 7] rfl) hK (ci := 1) (q0 := 0) rfl rfl) rfl rfl hl.1 rfl (lv_room (Nat.le_of_ble_eq_true rfl)) dX7_pairTooFew_40 ⟨Nat.zero_le _, Nat.zero_le _⟩) hS hA hP (fun H locs hP hS => ?_)
        refine lv_if_ne (tgt := 49) hx hb dX7_pairTooFew_43 (by decide) (fun c_8 => ?_) (fun c_8 => ?_)
        · have hf := iq c_8 hf
          refine lv_aload_n hx hb dX7_pairTooFew_49 rfl (lv_at hl 0 rfl) ?_
          refine va_get (D := G.1) (ci := 7) (v := .ref wy_h) (C := RX7) (T := TX7) (N := 10) hx hb hw inW7 hown hK.1 hP 0 rfl rfl 3 (by decide) (hw _ kw_2_1) (fun _ h9 => h9) rfl dX7_pairTooFew_50 ?_
          refine lv_iload_n hx hb dX7_pairTooFew_53 rfl (lv_at hl 3 rfl) ?_
          refine lv_iload hx hb dX7_pairTooFew_54 (lv_at hl 4 rfl) ?_
          obtain ⟨wy_links_9, hc_10, hf⟩ := bd1_in hf
          refine wcV (w1 := [oX6 wy_h wy_a wy_windows wy_goal wy_otherFrom wy_otherTo wy_least, arI G (wy_a 1) 12 wy_links_9]) (va_runV (As := [.int l3, .int l4]) (rest := []) ⟨hx, hb, hml, hown, hw⟩ ((ctX6_join l G wy_h wy_a wy_windows wy_links wy_goal wy_otherFrom wy_otherTo wy_least l3 l4 _ hc_10) _) (kV hw calX6_join kw_35_12 rfl rfl ⟨Nat.le_of_ble_eq_true rfl, Nat.le_of_ble_eq_true rfl⟩) (wpV (hP.sub (ws' := [oX6 wy_h wy_a wy_windows wy_goal wy_otherFrom wy_otherTo wy_least, arI G (wy_a 1) 12 wy_links]) [8, 9] rfl) (hD.sub (ws' := [oX6 wy_h wy_a wy_windows wy_goal wy_otherFrom wy_otherTo wy_least, arI G (wy_a 1) 12 wy_links]) [8, 9] (by decide) rfl) hK (ci := 6) (q0 := 0) rfl rfl) rfl rfl hl.1 rfl (lv_room (Nat.le_of_ble_eq_true rfl)) dX7_pairTooFew_56 ⟨Nat.zero_le _, Nat.zero_le _⟩) hS hA hP hD [8, 9] rfl rfl (fun H locs hP hD hS => ?_)
          have hP : va_P G.1 vwCl [oX7 t_h t_a rd_h now_h sp_h wy_h gp_h ch_h sb_h, oX4 p2_h p2_a p2_sort p2_size, arJ G (p2_a 0) 40 p2_values, oX1 now_h now_a now_windows now_washes now_damp now_heard now_lines now_hour now_strings, arI G (now_a 7) 12 now_cans, arI G (now_a 8) 8 now_washPairs, arI G (now_a 9) 8 now_washHours, arI G (now_a 10) 21 now_pairs, oX6 wy_h wy_a wy_windows wy_goal wy_otherFrom wy_otherTo wy_least, arI G (wy_a 1) 12 wy_links_9, arI G (wy_a 4) 12 wy_breaths] H := hP
          have hD : va_D A [oX7 t_h t_a rd_h now_h sp_h wy_h gp_h ch_h sb_h, oX4 p2_h p2_a p2_sort p2_size, arJ G (p2_a 0) 40 p2_values, oX1 now_h now_a now_windows now_washes now_damp now_heard now_lines now_hour now_strings, arI G (now_a 7) 12 now_cans, arI G (now_a 8) 8 now_washPairs, arI G (now_a 9) 8 now_washHours, arI G (now_a 10) 21 now_pairs, oX6 wy_h wy_a wy_windows wy_goal wy_otherFrom wy_otherTo wy_least, arI G (wy_a 1) 12 wy_links_9, arI G (wy_a 4) 12 wy_breaths] := hD
          refine lv_aload_n hx hb dX7_pairTooFew_59 rfl (lv_at hl 0 rfl) ?_
          refine va_get (D := G.1) (ci := 7) (v := .ref wy_h) (C := RX7) (T := TX7) (N := 10) hx hb hw inW7 hown hK.1 hP 0 rfl rfl 3 (by decide) (hw _ kw_2_1) (fun _ h9 => h9) rfl dX7_pairTooFew_60 ?_
          refine lv_iload_n hx hb dX7_pairTooFew_63 rfl (lv_at hl 1 rfl) ?_
          refine lv_aload_n hx hb dX7_pairTooFew_64 rfl (lv_at hl 2 rfl) ?_
          obtain ⟨r_12, wy_breaths_11, hc_13, hf⟩ := bd2_in hf
          refine wcI (w1 := [oX6 wy_h wy_a wy_windows wy_goal wy_otherFrom wy_otherTo wy_least, arI G (wy_a 1) 12 wy_links_9, arI G (wy_a 4) 12 wy_breaths_11, oX4 p2_h p2_a p2_sort p2_size, arJ G (p2_a 0) 40 p2_values]) (va_runV (As := [.int v1, .ref p2_h]) (rest := []) ⟨hx, hb, hml, hown, hw⟩ ((ctX6_spreadsAs l G wy_h wy_a p2_h p2_a wy_windows wy_links_9 wy_breaths wy_goal wy_otherFrom wy_otherTo wy_least p2_values p2_sort p2_size v1 _ _ hc_13) _) (kV hw calX6_spreadsAs kw_45_21 rfl rfl ⟨Nat.le_of_ble_eq_true rfl, Nat.le_of_ble_eq_true rfl⟩) (wpV (hP.sub (ws' := [oX6 wy_h wy_a wy_windows wy_goal wy_otherFrom wy_otherTo wy_least, arI G (wy_a 1) 12 wy_links_9, arI G (wy_a 4) 12 wy_breaths, oX4 p2_h p2_a p2_sort p2_size, arJ G (p2_a 0) 40 p2_values]) [8, 9, 10, 1, 2] rfl) (hD.sub (ws' := [oX6 wy_h wy_a wy_windows wy_goal wy_otherFrom wy_otherTo wy_least, arI G (wy_a 1) 12 wy_links_9, arI G (wy_a 4) 12 wy_breaths, oX4 p2_h p2_a p2_sort p2_size, arJ G (p2_a 0) 40 p2_values]) [8, 9, 10, 1, 2] (by decide) rfl) hK (ci := 6) (q0 := 0) rfl rfl) rfl rfl hl.1 rfl (lv_room (Nat.le_of_ble_eq_true rfl)) dX7_pairTooFew_65 ⟨Nat.zero_le _, Nat.zero_le _⟩) hS hA hP hD [8, 9, 10, 1, 2] rfl rfl (fun H locs hP hD hS => ?_)
          have hP : va_P G.1 vwCl [oX7 t_h t_a rd_h now_h sp_h wy_h gp_h ch_h sb_h, oX4 p2_h p2_a p2_sort p2_size, arJ G (p2_a 0) 40 p2_values, oX1 now_h now_a now_windows now_washes now_damp now_heard now_lines now_hour now_strings, arI G (now_a 7) 12 now_cans, arI G (now_a 8) 8 now_washPairs, arI G (now_a 9) 8 now_washHours, arI G (now_a 10) 21 now_pairs, oX6 wy_h wy_a wy_windows wy_goal wy_otherFrom wy_otherTo wy_least, arI G (wy_a 1) 12 wy_links_9, arI G (wy_a 4) 12 wy_breaths_11] H := hP
          have hD : va_D A [oX7 t_h t_a rd_h now_h sp_h wy_h gp_h ch_h sb_h, oX4 p2_h p2_a p2_sort p2_size, arJ G (p2_a 0) 40 p2_values, oX1 now_h now_a now_windows now_washes now_damp now_heard now_lines now_hour now_strings, arI G (now_a 7) 12 now_cans, arI G (now_a 8) 8 now_washPairs, arI G (now_a 9) 8 now_washHours, arI G (now_a 10) 21 now_pairs, oX6 wy_h wy_a wy_windows wy_goal wy_otherFrom wy_otherTo wy_least, arI G (wy_a 1) 12 wy_links_9, arI G (wy_a 4) 12 wy_breaths_11] := hD
          refine lv_istore (lv' := [(5, .int r_12), (0, .ref t_h), (1, .int v1), (2, .ref p2_h), (3, .int l3), (4, .int l4)]) hx hb dX7_pairTooFew_68 hl (by decide) rfl (fun ls hl => ?_)
          refine lv_aload_n hx hb dX7_pairTooFew_70 rfl (lv_at hl 1 rfl) ?_
          refine va_get (D := G.1) (ci := 7) (v := .ref wy_h) (C := RX7) (T := TX7) (N := 10) hx hb hw inW7 hown hK.1 hP 0 rfl rfl 3 (by decide) (hw _ kw_2_1) (fun _ h9 => h9) rfl dX7_pairTooFew_71 ?_
          refine lv_iload_n hx hb dX7_pairTooFew_74 rfl (lv_at hl 4 rfl) ?_
          refine lv_iload hx hb dX7_pairTooFew_75 (lv_at hl 5 rfl) ?_
          obtain ⟨wy_links_14, hc_15, hf⟩ := bd1_in hf
          refine wcV (w1 := [oX6 wy_h wy_a wy_windows wy_goal wy_otherFrom wy_otherTo wy_least, arI G (wy_a 1) 12 wy_links_14]) (va_runV (As := [.int l3, .int l4]) (rest := []) ⟨hx, hb, hml, hown, hw⟩ ((ctX6_sever l G wy_h wy_a wy_windows wy_links_9 wy_goal wy_otherFrom wy_otherTo wy_least l3 l4 _ hc_15) _) (kV hw calX6_sever kw_35_13 rfl rfl ⟨Nat.le_of_ble_eq_true rfl, Nat.le_of_ble_eq_true rfl⟩) (wpV (hP.sub (ws' := [oX6 wy_h wy_a wy_windows wy_goal wy_otherFrom wy_otherTo wy_least, arI G (wy_a 1) 12 wy_links_9]) [8, 9] rfl) (hD.sub (ws' := [oX6 wy_h wy_a wy_windows wy_goal wy_otherFrom wy_otherTo wy_least, arI G (wy_a 1) 12 wy_links_9]) [8, 9] (by decide) rfl) hK (ci := 6) (q0 := 0) rfl rfl) rfl rfl hl.1 rfl (lv_room (Nat.le_of_ble_eq_true rfl)) dX7_pairTooFew_77 ⟨Nat.zero_le _, Nat.zero_le _⟩) hS hA hP hD [8, 9] rfl rfl (fun H locs hP hD hS => ?_)
          have hP : va_P G.1 vwCl [oX7 t_h t_a rd_h now_h sp_h wy_h gp_h ch_h sb_h, oX4 p2_h p2_a p2_sort p2_size, arJ G (p2_a 0) 40 p2_values, oX1 now_h now_a now_windows now_washes now_damp now_heard now_lines now_hour now_strings, arI G (now_a 7) 12 now_cans, arI G (now_a 8) 8 now_washPairs, arI G (now_a 9) 8 now_washHours, arI G (now_a 10) 21 now_pairs, oX6 wy_h wy_a wy_windows wy_goal wy_otherFrom wy_otherTo wy_least, arI G (wy_a 1) 12 wy_links_14, arI G (wy_a 4) 12 wy_breaths_11] H := hP
          have hD : va_D A [oX7 t_h t_a rd_h now_h sp_h wy_h gp_h ch_h sb_h, oX4 p2_h p2_a p2_sort p2_size, arJ G (p2_a 0) 40 p2_values, oX1 now_h now_a now_windows now_washes now_damp now_heard now_lines now_hour now_strings, arI G (now_a 7) 12 now_cans, arI G (now_a 8) 8 now_washPairs, arI G (now_a 9) 8 now_washHours, arI G (now_a 10) 21 now_pairs, oX6 wy_h wy_a wy_windows wy_goal wy_otherFrom wy_otherTo wy_least, arI G (wy_a 1) 12 wy_links_14, arI G (wy_a 4) 12 wy_breaths_11] := hD
          refine lv_iload hx hb dX7_pairTooFew_80 (lv_at hl 0 rfl) ?_
          refine lv_if_eq (tgt := 92) hx hb dX7_pairTooFew_82 (by decide) (fun c_16 => ?_) (fun c_16 => ?_)
          · have hf := ip c_16 hf
            refine lv_iinc (v := (l4 + 1)) (lv' := [(4, .int (l4 + 1)), (5, .int r_12), (0, .ref t_h), (1, .int v1), (2, .ref p2_h), (3, .int l3)]) hx hb dX7_pairTooFew_92 hl (k := 5) rfl (by rfl) (by decide) rfl (fun ls hl => ?_)
            refine lv_goto (tgt := 18) hx hb dX7_pairTooFew_95 (by decide) ?_
            exact ih _ _ _ _ _ _ hP hD hS (lv_sub hl [2, 3, 4, 5, 0] rfl) hf hX
          · have hf := iq c_16 hf
            refine lv_iload_n hx hb dX7_pairTooFew_85 rfl (lv_at hl 4 rfl) ?_
            refine lv_iload hx hb dX7_pairTooFew_86 (lv_at hl 5 rfl) ?_
            obtain ⟨r_17, hc_18, hf⟩ := bd1_in hf
            refine rcI (va_runS (As := [.int l3, .int l4]) (rest := []) ⟨hx, hb, hml, hown, hw⟩ ((ctX7_pairOf l G l3 l4 _ hc_18) _) (kS hw calX7_pairOf kw_27_1 rfl rfl ⟨Nat.le_of_ble_eq_true rfl, Nat.le_of_ble_eq_true rfl⟩) (rpS (hP.sub (ws' := []) [] rfl) hK) rfl rfl hl.1 rfl (lv_room (Nat.le_of_ble_eq_true rfl)) dX7_pairTooFew_88 ⟨Nat.zero_le _, Nat.zero_le _⟩) hS hA hP (fun H locs hP hS => ?_)
            exact hRet _ _ _ _ _ _ _ hf hP hS dX7_pairTooFew_91
        · have hf := ip c_8 hf
          refine lv_goto (tgt := 92) hx hb dX7_pairTooFew_46 (by decide) ?_
          refine lv_iinc (v := (l4 + 1)) (lv' := [(4, .int (l4 + 1)), (0, .ref t_h), (1, .int v1), (2, .ref p2_h), (3, .int l3)]) hx hb dX7_pairTooFew_92 hl (k := 4) rfl (by rfl) (by decide) rfl (fun ls hl => ?_)
          refine lv_goto (tgt := 18) hx hb dX7_pairTooFew_95 (by decide) ?_
          exact ih _ _ _ _ _ _ hP hD hS (lv_sub hl [1, 2, 3, 4, 0] rfl) hf hX
  have L2 : ∀  (K : (Nat → Int32) → (Nat → Int32) → Option (Int32 × (Nat → Int32) × (Nat → Int32))) (n : Nat) (l3 : Int32) (wy_links : Nat → Int32) (wy_breaths : Nat → Int32) (H : Heap) (locs : List Loc) (ls : Array Slot), va_P G.1 vwCl [oX7 t_h t_a rd_h now_h sp_h wy_h gp_h ch_h sb_h, oX4 p2_h p2_a p2_sort p2_size, arJ G (p2_a 0) 40 p2_values, oX1 now_h now_a now_windows now_washes now_damp now_heard now_lines now_hour now_strings, arI G (now_a 7) 12 now_cans, arI G (now_a 8) 8 now_washPairs, arI G (now_a 9) 8 now_washHours, arI G (now_a 10) 21 now_pairs, oX6 wy_h wy_a wy_windows wy_goal wy_otherFrom wy_otherTo wy_least, arI G (wy_a 1) 12 wy_links, arI G (wy_a 4) 12 wy_breaths] H → va_D A [oX7 t_h t_a rd_h now_h sp_h wy_h gp_h ch_h sb_h, oX4 p2_h p2_a p2_sort p2_size, arJ G (p2_a 0) 40 p2_values, oX1 now_h now_a now_windows now_washes now_damp now_heard now_lines now_hour now_strings, arI G (now_a 7) 12 now_cans, arI G (now_a 8) 8 now_washPairs, arI G (now_a 9) 8 now_washHours, arI G (now_a 10) 21 now_pairs, oX6 wy_h wy_a wy_windows wy_goal wy_otherFrom wy_otherTo wy_least, arI G (wy_a 1) 12 wy_links, arI G (wy_a 4) 12 wy_breaths] → va_S A s.heap H locs → lv_has ls 6 [(0, .ref t_h), (1, .int v1), (2, .ref p2_h), (3, .int l3)] → fX7_pairTooFew_2 v1 p2_values p2_size now_windows now_washes now_hour now_strings now_cans now_washPairs now_washHours now_pairs wy_windows K n l3 wy_links wy_breaths = some (r, o_wy_links, o_wy_breaths) → (∀ (kwy_links : Nat → Int32) (kwy_breaths : Nat → Int32) (H : Heap) (locs : List Loc) (ls : Array Slot), va_P G.1 vwCl [oX7 t_h t_a rd_h now_h sp_h wy_h gp_h ch_h sb_h, oX4 p2_h p2_a p2_sort p2_size, arJ G (p2_a 0) 40 p2_values, oX1 now_h now_a now_windows now_washes now_damp now_heard now_lines now_hour now_strings, arI G (now_a 7) 12 now_cans, arI G (now_a 8) 8 now_washPairs, arI G (now_a 9) 8 now_washHours, arI G (now_a 10) 21 now_pairs, oX6 wy_h wy_a wy_windows wy_goal wy_otherFrom wy_otherTo wy_least, arI G (wy_a 1) 12 kwy_links, arI G (wy_a 4) 12 kwy_breaths] H → va_D A [oX7 t_h t_a rd_h now_h sp_h wy_h gp_h ch_h sb_h, oX4 p2_h p2_a p2_sort p2_size, arJ G (p2_a 0) 40 p2_values, oX1 now_h now_a now_windows now_washes now_damp now_heard now_lines now_hour now_strings, arI G (now_a 7) 12 now_cans, arI G (now_a 8) 8 now_washPairs, arI G (now_a 9) 8 now_washHours, arI G (now_a 10) 21 now_pairs, oX6 wy_h wy_a wy_windows wy_goal wy_otherFrom wy_otherTo wy_least, arI G (wy_a 1) 12 kwy_links, arI G (wy_a 4) 12 kwy_breaths] → va_S A s.heap H locs → lv_has ls 6 [] → K kwy_links kwy_breaths = some (r, o_wy_links, o_wy_breaths) → W p l e ({ frames := 4, cells := 0, slots := 0, locals := 91 } : Room) s m args below meth c H locs 0 0 Q (F0 m 104 ls [])) → W p l e ({ frames := 4, cells := 0, slots := 0, locals := 91 } : Room) s m args below meth c H locs 0 0 Q (F0 m 2 ls []) := by
    intro  K n
    induction n with
    | zero => intro l3 wy_links wy_breaths H locs ls hP hD hS hl hf; rw [fX7_pairTooFew_2] at hf; cases hf
    | succ n ih =>
      intro l3 wy_links wy_breaths H locs ls hP hD hS hl hf hX
      rw [fX7_pairTooFew_2] at hf
      refine lv_iload_n hx hb dX7_pairTooFew_2 rfl (lv_at hl 3 rfl) ?_
      refine lv_aload_n hx hb dX7_pairTooFew_3 rfl (lv_at hl 0 rfl) ?_
      refine va_get (D := G.1) (ci := 7) (v := .ref now_h) (C := RX7) (T := TX7) (N := 10) hx hb hw inW7 hown hK.1 hP 0 rfl rfl 1 (by decide) (hw _ kw_1_20) (fun _ h9 => h9) rfl dX7_pairTooFew_4 ?_
      refine va_getN (D := G.1) (ci := 1) (v := .int now_windows) (C := RX1) (T := TX1) (N := 12) hx hb hw inW1 hown hK.1 hP 3 rfl rfl 0 (by decide) ((nf_6 hK.2).use rfl) (fun _ h9 => h9) rfl dX7_pairTooFew_7 ?_
      refine lv_icmp_ge (tgt := 104) hx hb dX7_pairTooFew_10 (by decide) (fun c_1 => ?_) (fun c_1 => ?_)
      · have hf := ip c_1 hf
        exact hX _ _ _ _ _ hP hD hS (lv_sub hl [] rfl) hf
      · have hf := iq c_1 hf
        refine lv_iload_n hx hb dX7_pairTooFew_13 rfl (lv_at hl 3 rfl) ?_
        refine lv_iconst (v := 1) hx hb dX7_pairTooFew_14 (by decide) ?_
        refine lv_iadd hx hb dX7_pairTooFew_15 ?_
        refine lv_topi (fun y_2 ey_2 => ?_)
        have hf := bnd_all hf y_2 ey_2
        refine lv_istore (lv' := [(4, .int y_2), (0, .ref t_h), (1, .int v1), (2, .ref p2_h), (3, .int l3)]) hx hb dX7_pairTooFew_16 hl (by decide) rfl (fun ls hl => ?_)
        refine L18 _ _ _ _ _ _ _ _ _ hP hD hS (lv_sub hl [1, 2, 3, 4, 0] rfl) hf (fun wy_links_19 wy_breaths_20 H locs ls hP hD hS hl hf => ?_)
        refine lv_iinc (v := (l3 + 1)) (lv' := [(3, .int (l3 + 1)), (0, .ref t_h), (1, .int v1), (2, .ref p2_h)]) hx hb dX7_pairTooFew_98 hl (k := 3) rfl (by rfl) (by decide) rfl (fun ls hl => ?_)
        refine lv_goto (tgt := 2) hx hb dX7_pairTooFew_101 (by decide) ?_
        exact ih _ _ _ _ _ _ hP hD hS (lv_sub hl [1, 2, 3, 0] rfl) hf hX
  unfold fX7_pairTooFew at hf
  refine lv_iconst (v := 0) hx hb dX7_pairTooFew_0 (by decide) ?_
  refine lv_istore_n (lv' := [(3, .int 0), (0, .ref t_h), (1, .int v1), (2, .ref p2_h)]) hx hb dX7_pairTooFew_1 rfl hl (by decide) rfl (fun ls hl => ?_)
  refine L2  _ _ _ _ _ _ _ _ hP hD hS (lv_sub hl [1, 2, 3, 0] rfl) hf (fun wy_links_21 wy_breaths_22 H locs ls hP hD hS hl hf => ?_)
  refine lv_iconst (v := (-1)) hx hb dX7_pairTooFew_104 (by decide) ?_
  exact hRet _ _ _ _ _ _ _ hf hP hS dX7_pairTooFew_105
theorem calX7_explained : CalV yX7_explained cX7_explained 6 (some .int) 3 := ⟨⟨kw_45_20, kw_1_2, by decide +kernel⟩, kw_45_18, kw_45_19⟩
set_option maxHeartbeats 8000000 in
set_option maxRecDepth 100000 in
theorem ctX7_explained (l : Launch) (G : GT) (t_h : Nat) (t_a : Nat → Nat) (now_h : Nat) (now_a : Nat → Nat) (wy_h : Nat) (wy_a : Nat → Nat) (row_h : Nat) (row_a : Nat → Nat) (rd_h : Nat) (sp_h : Nat) (gp_h : Nat) (ch_h : Nat) (sb_h : Nat) (t_rows : Nat → Option Nat) (now_windows : Int32) (now_washes : Int32) (now_damp : Int32) (now_heard : Int32) (now_lines : Int32) (now_hour : Int32) (now_strings : Int32) (now_cans : Nat → Int32) (now_washPairs : Nat → Int32) (now_washHours : Nat → Int32) (now_pairs : Nat → Int32) (now_knots : Nat → Int32) (wy_windows : Int32) (wy_links : Nat → Int32) (wy_prices : Nat → Int32) (wy_breaths : Nat → Int32) (wy_goal : Int32) (wy_otherFrom : Int32) (wy_otherTo : Int32) (wy_least : Int32) (row_values : Nat → Int64) (row_sort : Int32) (row_size : Int32) (v1 : Int32) (v2 : Int32) (v3 : Int32) (h_row : vp_in v2 4 → va_rf (t_rows v2.toNatClampNeg) = .ref row_h) (r : Int32) (o_wy_windows : Int32) (o_wy_links : Nat → Int32) (o_wy_prices : Nat → Int32) (o_wy_breaths : Nat → Int32) (hf : fX7_explained now_windows now_washes now_damp now_hour now_strings now_cans now_washPairs now_washHours now_pairs now_knots wy_windows wy_links wy_prices wy_breaths row_values row_size v1 v2 v3 = some (r, o_wy_windows, o_wy_links, o_wy_prices, o_wy_breaths)) : WrI l yX7_explained (Cond.code yX7_explained cX7_explained 6 (some .int)) { frames := 5, cells := 0, slots := 0, locals := 116 } G [.ref t_h, .int v1, .int v2, .int v3] [oX7 t_h t_a rd_h now_h sp_h wy_h gp_h ch_h sb_h, arR G (t_a 7) 4 t_rows, oX1 now_h now_a now_windows now_washes now_damp now_heard now_lines now_hour now_strings, arI G (now_a 7) 12 now_cans, arI G (now_a 8) 8 now_washPairs, arI G (now_a 9) 8 now_washHours, arI G (now_a 10) 21 now_pairs, arI G (now_a 11) 21 now_knots, oX6 wy_h wy_a wy_windows wy_goal wy_otherFrom wy_otherTo wy_least, arI G (wy_a 1) 12 wy_links, arI G (wy_a 2) 144 wy_prices, arI G (wy_a 4) 12 wy_breaths, oX4 row_h row_a row_sort row_size, arJ G (row_a 0) 40 row_values] [oX7 t_h t_a rd_h now_h sp_h wy_h gp_h ch_h sb_h, arR G (t_a 7) 4 t_rows, oX1 now_h now_a now_windows now_washes now_damp now_heard now_lines now_hour now_strings, arI G (now_a 7) 12 now_cans, arI G (now_a 8) 8 now_washPairs, arI G (now_a 9) 8 now_washHours, arI G (now_a 10) 21 now_pairs, arI G (now_a 11) 21 now_knots, oX6 wy_h wy_a o_wy_windows wy_goal wy_otherFrom wy_otherTo wy_least, arI G (wy_a 1) 12 o_wy_links, arI G (wy_a 2) 144 o_wy_prices, arI G (wy_a 4) 12 o_wy_breaths, oX4 row_h row_a row_sort row_size, arJ G (row_a 0) 40 row_values] r := by
  intro sz
  refine Met.ofW (cc := cX7_explained) (maxL := 6) (ret := (some .int)) (by decide) rfl ?_
  intro p e s m args below meth c s₁ B hml hv
  obtain ⟨hargs, hsz, hP, hD0, hK⟩ := hv
  subst hsz
  obtain ⟨hx, hb, hr, hw, hown, hlk⟩ := fwB B
  refine fw_enter hargs (Nat.le_of_ble_eq_true rfl) (fun ls hl => ?_)
  have hl : lv_has ls 6 [(0, .ref t_h), (1, .int v1), (2, .int v2), (3, .int v3)] := hl
  refine fw_Q (P := fun Q => ∃ A : Nat → Prop, va_D A [oX7 t_h t_a rd_h now_h sp_h wy_h gp_h ch_h sb_h, arR G (t_a 7) 4 t_rows, oX1 now_h now_a now_windows now_washes now_damp now_heard now_lines now_hour now_strings, arI G (now_a 7) 12 now_cans, arI G (now_a 8) 8 now_washPairs, arI G (now_a 9) 8 now_washHours, arI G (now_a 10) 21 now_pairs, arI G (now_a 11) 21 now_knots, oX6 wy_h wy_a wy_windows wy_goal wy_otherFrom wy_otherTo wy_least, arI G (wy_a 1) 12 wy_links, arI G (wy_a 2) 144 wy_prices, arI G (wy_a 4) 12 wy_breaths, oX4 row_h row_a row_sort row_size, arJ G (row_a 0) 40 row_values] ∧ va_S A s.heap s.heap [] ∧ (∀ q, s.heap.size ≤ q → A q) ∧ ∀ (v : Int32) (n_wy_windows : Int32) (n_wy_links : Nat → Int32) (n_wy_prices : Nat → Int32) (n_wy_breaths : Nat → Int32) (H : Heap) (locs : List Loc) (pc : Nat) (ls : Array Slot), some (v, n_wy_windows, n_wy_links, n_wy_prices, n_wy_breaths) = some (r, o_wy_windows, o_wy_links, o_wy_prices, o_wy_breaths) → va_P G.1 vwCl [oX7 t_h t_a rd_h now_h sp_h wy_h gp_h ch_h sb_h, arR G (t_a 7) 4 t_rows, oX1 now_h now_a now_windows now_washes now_damp now_heard now_lines now_hour now_strings, arI G (now_a 7) 12 now_cans, arI G (now_a 8) 8 now_washPairs, arI G (now_a 9) 8 now_washHours, arI G (now_a 10) 21 now_pairs, arI G (now_a 11) 21 now_knots, oX6 wy_h wy_a n_wy_windows wy_goal wy_otherFrom wy_otherTo wy_least, arI G (wy_a 1) 12 n_wy_links, arI G (wy_a 2) 144 n_wy_prices, arI G (wy_a 4) 12 n_wy_breaths, oX4 row_h row_a row_sort row_size, arJ G (row_a 0) 40 row_values] H → va_S A s.heap H locs → decode cX7_explained pc = .ok (.ireturn, 1) → W p l e ({ frames := 5, cells := 0, slots := 0, locals := 116 } : Room) s m args below meth c H locs 0 0 Q (F0 m pc ls [.int v])) ⟨va_A [oX7 t_h t_a rd_h now_h sp_h wy_h gp_h ch_h sb_h, arR G (t_a 7) 4 t_rows, oX1 now_h now_a now_windows now_washes now_damp now_heard now_lines now_hour now_strings, arI G (now_a 7) 12 now_cans, arI G (now_a 8) 8 now_washPairs, arI G (now_a 9) 8 now_washHours, arI G (now_a 10) 21 now_pairs, arI G (now_a 11) 21 now_knots, oX6 wy_h wy_a wy_windows wy_goal wy_otherFrom wy_otherTo wy_least, arI G (wy_a 1) 12 wy_links, arI G (wy_a 2) 144 wy_prices, arI G (wy_a 4) 12 wy_breaths, oX4 row_h row_a row_sort row_size, arJ G (row_a 0) 40 row_values] s.heap.size, hD0.self (sz := s.heap.size), va_S.rf, fun q h => Or.inr h, ?_⟩ ?_
  · intro v n_wy_windows n_wy_links n_wy_prices n_wy_breaths H locs pc ls h hP hS hd
    cases h
    exact retWI hx hb hr hlk hS hP rfl hd
  rintro Q ⟨A, hD, hS, hA, hRet⟩
  change W p l e ({ frames := 5, cells := 0, slots := 0, locals := 116 } : Room) s m args below meth c _ _ 0 0 Q _
  unfold fX7_explained at hf
  refine lv_aload_n hx hb dX7_explained_0 rfl (lv_at hl 0 rfl) ?_
  refine va_get (D := G.1) (ci := 7) (v := .ref now_h) (C := RX7) (T := TX7) (N := 10) hx hb hw inW7 hown hK.1 hP 0 rfl rfl 1 (by decide) (hw _ kw_1_20) (fun _ h9 => h9) rfl dX7_explained_1 ?_
  refine lv_iload_n hx hb dX7_explained_4 rfl (lv_at hl 1 rfl) ?_
  obtain ⟨r_1, hc_2, hf⟩ := bd1_in hf
  refine rcI (va_runV (As := [.int v1]) (rest := []) ⟨hx, hb, hml, hown, hw⟩ ((ctX1_hasWindow l G now_h now_a now_windows now_washes now_damp now_heard now_lines now_hour now_strings v1 _ hc_2) _) (kV hw calX1_hasWindow kw_18_1 rfl rfl ⟨Nat.le_of_ble_eq_true rfl, Nat.le_of_ble_eq_true rfl⟩) (rpV (hP.sub (ws' := [oX1 now_h now_a now_windows now_washes now_damp now_heard now_lines now_hour now_strings]) [2] rfl) hK (ci := 1) (q0 := 0) rfl rfl) rfl rfl hl.1 rfl (lv_room (Nat.le_of_ble_eq_true rfl)) dX7_explained_5 ⟨Nat.zero_le _, Nat.zero_le _⟩) hS hA hP (fun H locs hP hS => ?_)
  refine lv_if_eq (tgt := 27) hx hb dX7_explained_8 (by decide) (fun c_3 => ?_) (fun c_3 => ?_)
  · have hf := ip c_3 hf
    refine lv_bipush (v := (-2)) hx hb dX7_explained_27 (by decide) ?_
    exact hRet _ _ _ _ _ _ _ _ _ hf hP hS dX7_explained_29
  · have hf := iq c_3 hf
    refine lv_iload_n hx hb dX7_explained_11 rfl (lv_at hl 2 rfl) ?_
    obtain ⟨r_4, hc_5, hf⟩ := bd1_in hf
    refine rcI (va_runS (As := [.int v2]) (rest := []) ⟨hx, hb, hml, hown, hw⟩ ((ctX7_isRow l G v2 _ hc_5) _) (kS hw calX7_isRow kw_25_6 rfl rfl ⟨Nat.le_of_ble_eq_true rfl, Nat.le_of_ble_eq_true rfl⟩) (rpS (hP.sub (ws' := []) [] rfl) hK) rfl rfl hl.1 rfl (lv_room (Nat.le_of_ble_eq_true rfl)) dX7_explained_12 ⟨Nat.zero_le _, Nat.zero_le _⟩) hS hA hP (fun H locs hP hS => ?_)
    refine lv_if_eq (tgt := 27) hx hb dX7_explained_15 (by decide) (fun c_6 => ?_) (fun c_6 => ?_)
    · have hf := ip c_6 hf
      refine lv_bipush (v := (-2)) hx hb dX7_explained_27 (by decide) ?_
      exact hRet _ _ _ _ _ _ _ _ _ hf hP hS dX7_explained_29
    · have hf := iq c_6 hf
      refine lv_iload_n hx hb dX7_explained_18 rfl (lv_at hl 3 rfl) ?_
      refine lv_if_lt (tgt := 27) hx hb dX7_explained_19 (by decide) (fun c_7 => ?_) (fun c_7 => ?_)
      · have hf := ip c_7 hf
        refine lv_bipush (v := (-2)) hx hb dX7_explained_27 (by decide) ?_
        exact hRet _ _ _ _ _ _ _ _ _ hf hP hS dX7_explained_29
      · have hf := iq c_7 hf
        refine lv_iload_n hx hb dX7_explained_22 rfl (lv_at hl 3 rfl) ?_
        refine lv_iconst (v := 1) hx hb dX7_explained_23 (by decide) ?_
        refine lv_icmp_le (tgt := 30) hx hb dX7_explained_24 (by decide) (fun c_8 => ?_) (fun c_8 => ?_)
        · have hf := ip c_8 hf
          refine lv_aload_n hx hb dX7_explained_30 rfl (lv_at hl 0 rfl) ?_
          refine va_get (D := G.1) (ci := 7) (v := .ref (t_a 7)) (C := RX7) (T := TX7) (N := 10) hx hb hw inW7 hown hK.1 hP 0 rfl rfl 7 (by decide) (hw _ kw_2_15) (fun _ h9 => h9) rfl dX7_explained_31 ?_
          refine lv_iload_n hx hb dX7_explained_34 rfl (lv_at hl 2 rfl) ?_
          obtain ⟨hi_q, hf⟩ := ckI_in hf
          refine va_aldq hx hb hK.1 hP 1 5 rfl rfl hi_q dX7_explained_35 ?_
          rw [h_row hi_q]
          refine lv_astore (lv' := [(4, .ref row_h), (0, .ref t_h), (1, .int v1), (2, .int v2), (3, .int v3)]) hx hb dX7_explained_36 hl (by decide) rfl (fun ls hl => ?_)
          refine lv_aload hx hb dX7_explained_38 (lv_at hl 0 rfl) ?_
          refine va_getN (D := G.1) (ci := 4) (v := .int row_size) (C := RX4) (T := TX4) (N := 3) hx hb hw inW4 hown hK.1 hP 12 rfl rfl 2 (by decide) ((nf_39 hK.2).use rfl) (fun _ h9 => h9) rfl dX7_explained_40 ?_
          refine lv_iconst (v := (-1)) hx hb dX7_explained_43 (by decide) ?_
          refine lv_icmp_ne (tgt := 50) hx hb dX7_explained_44 (by decide) (fun c_9 => ?_) (fun c_9 => ?_)
          · have hf := iq c_9 hf
            refine lv_aload hx hb dX7_explained_50 (lv_at hl 0 rfl) ?_
            refine va_getN (D := G.1) (ci := 4) (v := .int row_size) (C := RX4) (T := TX4) (N := 3) hx hb hw inW4 hown hK.1 hP 12 rfl rfl 2 (by decide) ((nf_39 hK.2).use rfl) (fun _ h9 => h9) rfl dX7_explained_52 ?_
            refine lv_aload_n hx hb dX7_explained_55 rfl (lv_at hl 1 rfl) ?_
            refine va_get (D := G.1) (ci := 7) (v := .ref now_h) (C := RX7) (T := TX7) (N := 10) hx hb hw inW7 hown hK.1 hP 0 rfl rfl 1 (by decide) (hw _ kw_1_20) (fun _ h9 => h9) rfl dX7_explained_56 ?_
            refine va_getN (D := G.1) (ci := 1) (v := .int now_windows) (C := RX1) (T := TX1) (N := 12) hx hb hw inW1 hown hK.1 hP 2 rfl rfl 0 (by decide) ((nf_6 hK.2).use rfl) (fun _ h9 => h9) rfl dX7_explained_59 ?_
            refine lv_icmp_eq (tgt := 68) hx hb dX7_explained_62 (by decide) (fun c_10 => ?_) (fun c_10 => ?_)
            · have hf := ip c_10 hf
              refine lv_aload_n hx hb dX7_explained_68 rfl (lv_at hl 1 rfl) ?_
              refine va_get (D := G.1) (ci := 7) (v := .ref wy_h) (C := RX7) (T := TX7) (N := 10) hx hb hw inW7 hown hK.1 hP 0 rfl rfl 3 (by decide) (hw _ kw_2_1) (fun _ h9 => h9) rfl dX7_explained_69 ?_
              refine lv_aload_n hx hb dX7_explained_72 rfl (lv_at hl 1 rfl) ?_
              refine va_get (D := G.1) (ci := 7) (v := .ref now_h) (C := RX7) (T := TX7) (N := 10) hx hb hw inW7 hown hK.1 hP 0 rfl rfl 1 (by decide) (hw _ kw_1_20) (fun _ h9 => h9) rfl dX7_explained_73 ?_
              refine lv_aload_n hx hb dX7_explained_76 rfl (lv_at hl 1 rfl) ?_
              refine va_get (D := G.1) (ci := 7) (v := .ref now_h) (C := RX7) (T := TX7) (N := 10) hx hb hw inW7 hown hK.1 hP 0 rfl rfl 1 (by decide) (hw _ kw_1_20) (fun _ h9 => h9) rfl dX7_explained_77 ?_
              refine va_getN (D := G.1) (ci := 1) (v := .int now_hour) (C := RX1) (T := TX1) (N := 12) hx hb hw inW1 hown hK.1 hP 2 rfl rfl 5 (by decide) ((nf_16 hK.2).use rfl) (fun _ h9 => h9) rfl dX7_explained_80 ?_
              obtain ⟨wy_windows_11, wy_links_12, wy_prices_13, hc_14, hf⟩ := bd3_in hf
              refine wcV (w1 := [oX6 wy_h wy_a wy_windows_11 wy_goal wy_otherFrom wy_otherTo wy_least, arI G (wy_a 1) 12 wy_links_12, arI G (wy_a 2) 144 wy_prices_13, oX1 now_h now_a now_windows now_washes now_damp now_heard now_lines now_hour now_strings, arI G (now_a 8) 8 now_washPairs, arI G (now_a 9) 8 now_washHours, arI G (now_a 10) 21 now_pairs, arI G (now_a 11) 21 now_knots]) (va_runV (As := [.ref now_h, .int now_hour]) (rest := []) ⟨hx, hb, hml, hown, hw⟩ ((ctX6_takeStrings l G wy_h wy_a now_h now_a wy_windows wy_links wy_prices wy_goal wy_otherFrom wy_otherTo wy_least now_windows now_washes now_damp now_heard now_lines now_hour now_strings now_washPairs now_washHours now_pairs now_knots now_hour _ _ _ hc_14) _) (kV hw calX6_takeStrings kw_18_10 rfl rfl ⟨Nat.le_of_ble_eq_true rfl, Nat.le_of_ble_eq_true rfl⟩) (wpV (hP.sub (ws' := [oX6 wy_h wy_a wy_windows wy_goal wy_otherFrom wy_otherTo wy_least, arI G (wy_a 1) 12 wy_links, arI G (wy_a 2) 144 wy_prices, oX1 now_h now_a now_windows now_washes now_damp now_heard now_lines now_hour now_strings, arI G (now_a 8) 8 now_washPairs, arI G (now_a 9) 8 now_washHours, arI G (now_a 10) 21 now_pairs, arI G (now_a 11) 21 now_knots]) [8, 9, 10, 2, 4, 5, 6, 7] rfl) (hD.sub (ws' := [oX6 wy_h wy_a wy_windows wy_goal wy_otherFrom wy_otherTo wy_least, arI G (wy_a 1) 12 wy_links, arI G (wy_a 2) 144 wy_prices, oX1 now_h now_a now_windows now_washes now_damp now_heard now_lines now_hour now_strings, arI G (now_a 8) 8 now_washPairs, arI G (now_a 9) 8 now_washHours, arI G (now_a 10) 21 now_pairs, arI G (now_a 11) 21 now_knots]) [8, 9, 10, 2, 4, 5, 6, 7] (by decide) rfl) hK (ci := 6) (q0 := 0) rfl rfl) rfl rfl hl.1 rfl (lv_room (Nat.le_of_ble_eq_true rfl)) dX7_explained_83 ⟨Nat.zero_le _, Nat.zero_le _⟩) hS hA hP hD [8, 9, 10, 2, 4, 5, 6, 7] rfl rfl (fun H locs hP hD hS => ?_)
              have hP : va_P G.1 vwCl [oX7 t_h t_a rd_h now_h sp_h wy_h gp_h ch_h sb_h, arR G (t_a 7) 4 t_rows, oX1 now_h now_a now_windows now_washes now_damp now_heard now_lines now_hour now_strings, arI G (now_a 7) 12 now_cans, arI G (now_a 8) 8 now_washPairs, arI G (now_a 9) 8 now_washHours, arI G (now_a 10) 21 now_pairs, arI G (now_a 11) 21 now_knots, oX6 wy_h wy_a wy_windows_11 wy_goal wy_otherFrom wy_otherTo wy_least, arI G (wy_a 1) 12 wy_links_12, arI G (wy_a 2) 144 wy_prices_13, arI G (wy_a 4) 12 wy_breaths, oX4 row_h row_a row_sort row_size, arJ G (row_a 0) 40 row_values] H := hP
              have hD : va_D A [oX7 t_h t_a rd_h now_h sp_h wy_h gp_h ch_h sb_h, arR G (t_a 7) 4 t_rows, oX1 now_h now_a now_windows now_washes now_damp now_heard now_lines now_hour now_strings, arI G (now_a 7) 12 now_cans, arI G (now_a 8) 8 now_washPairs, arI G (now_a 9) 8 now_washHours, arI G (now_a 10) 21 now_pairs, arI G (now_a 11) 21 now_knots, oX6 wy_h wy_a wy_windows_11 wy_goal wy_otherFrom wy_otherTo wy_least, arI G (wy_a 1) 12 wy_links_12, arI G (wy_a 2) 144 wy_prices_13, arI G (wy_a 4) 12 wy_breaths, oX4 row_h row_a row_sort row_size, arJ G (row_a 0) 40 row_values] := hD
              refine lv_aload_n hx hb dX7_explained_86 rfl (lv_at hl 1 rfl) ?_
              refine va_get (D := G.1) (ci := 7) (v := .ref wy_h) (C := RX7) (T := TX7) (N := 10) hx hb hw inW7 hown hK.1 hP 0 rfl rfl 3 (by decide) (hw _ kw_2_1) (fun _ h9 => h9) rfl dX7_explained_87 ?_
              refine lv_iload_n hx hb dX7_explained_90 rfl (lv_at hl 2 rfl) ?_
              refine lv_aload hx hb dX7_explained_91 (lv_at hl 0 rfl) ?_
              obtain ⟨r_16, wy_breaths_15, hc_17, hf⟩ := bd2_in hf
              refine wcI (w1 := [oX6 wy_h wy_a wy_windows_11 wy_goal wy_otherFrom wy_otherTo wy_least, arI G (wy_a 1) 12 wy_links_12, arI G (wy_a 4) 12 wy_breaths_15, oX4 row_h row_a row_sort row_size, arJ G (row_a 0) 40 row_values]) (va_runV (As := [.int v1, .ref row_h]) (rest := []) ⟨hx, hb, hml, hown, hw⟩ ((ctX6_spreadsAs l G wy_h wy_a row_h row_a wy_windows_11 wy_links_12 wy_breaths wy_goal wy_otherFrom wy_otherTo wy_least row_values row_sort row_size v1 _ _ hc_17) _) (kV hw calX6_spreadsAs kw_45_21 rfl rfl ⟨Nat.le_of_ble_eq_true rfl, Nat.le_of_ble_eq_true rfl⟩) (wpV (hP.sub (ws' := [oX6 wy_h wy_a wy_windows_11 wy_goal wy_otherFrom wy_otherTo wy_least, arI G (wy_a 1) 12 wy_links_12, arI G (wy_a 4) 12 wy_breaths, oX4 row_h row_a row_sort row_size, arJ G (row_a 0) 40 row_values]) [8, 9, 11, 12, 13] rfl) (hD.sub (ws' := [oX6 wy_h wy_a wy_windows_11 wy_goal wy_otherFrom wy_otherTo wy_least, arI G (wy_a 1) 12 wy_links_12, arI G (wy_a 4) 12 wy_breaths, oX4 row_h row_a row_sort row_size, arJ G (row_a 0) 40 row_values]) [8, 9, 11, 12, 13] (by decide) rfl) hK (ci := 6) (q0 := 0) rfl rfl) rfl rfl hl.1 rfl (lv_room (Nat.le_of_ble_eq_true rfl)) dX7_explained_93 ⟨Nat.zero_le _, Nat.zero_le _⟩) hS hA hP hD [8, 9, 11, 12, 13] rfl rfl (fun H locs hP hD hS => ?_)
              have hP : va_P G.1 vwCl [oX7 t_h t_a rd_h now_h sp_h wy_h gp_h ch_h sb_h, arR G (t_a 7) 4 t_rows, oX1 now_h now_a now_windows now_washes now_damp now_heard now_lines now_hour now_strings, arI G (now_a 7) 12 now_cans, arI G (now_a 8) 8 now_washPairs, arI G (now_a 9) 8 now_washHours, arI G (now_a 10) 21 now_pairs, arI G (now_a 11) 21 now_knots, oX6 wy_h wy_a wy_windows_11 wy_goal wy_otherFrom wy_otherTo wy_least, arI G (wy_a 1) 12 wy_links_12, arI G (wy_a 2) 144 wy_prices_13, arI G (wy_a 4) 12 wy_breaths_15, oX4 row_h row_a row_sort row_size, arJ G (row_a 0) 40 row_values] H := hP
              have hD : va_D A [oX7 t_h t_a rd_h now_h sp_h wy_h gp_h ch_h sb_h, arR G (t_a 7) 4 t_rows, oX1 now_h now_a now_windows now_washes now_damp now_heard now_lines now_hour now_strings, arI G (now_a 7) 12 now_cans, arI G (now_a 8) 8 now_washPairs, arI G (now_a 9) 8 now_washHours, arI G (now_a 10) 21 now_pairs, arI G (now_a 11) 21 now_knots, oX6 wy_h wy_a wy_windows_11 wy_goal wy_otherFrom wy_otherTo wy_least, arI G (wy_a 1) 12 wy_links_12, arI G (wy_a 2) 144 wy_prices_13, arI G (wy_a 4) 12 wy_breaths_15, oX4 row_h row_a row_sort row_size, arJ G (row_a 0) 40 row_values] := hD
              refine lv_if_eq (tgt := 109) hx hb dX7_explained_96 (by decide) (fun c_18 => ?_) (fun c_18 => ?_)
              · have hf := ip c_18 hf
                refine lv_aload_n hx hb dX7_explained_109 rfl (lv_at hl 1 rfl) ?_
                refine lv_iload_n hx hb dX7_explained_110 rfl (lv_at hl 2 rfl) ?_
                refine lv_aload hx hb dX7_explained_111 (lv_at hl 0 rfl) ?_
                obtain ⟨r_21, wy_links_19, wy_breaths_20, hc_22, hf⟩ := bd3_in hf
                refine wcI (w1 := [oX7 t_h t_a rd_h now_h sp_h wy_h gp_h ch_h sb_h, oX4 row_h row_a row_sort row_size, arJ G (row_a 0) 40 row_values, oX1 now_h now_a now_windows now_washes now_damp now_heard now_lines now_hour now_strings, oX6 wy_h wy_a wy_windows_11 wy_goal wy_otherFrom wy_otherTo wy_least, arI G (wy_a 1) 12 wy_links_19, arI G (wy_a 4) 12 wy_breaths_20]) (va_runV (As := [.int v1, .ref row_h]) (rest := []) ⟨hx, hb, hml, hown, hw⟩ ((ctX7_stringTooMany l G t_h t_a row_h row_a now_h now_a wy_h wy_a rd_h sp_h gp_h ch_h sb_h row_values row_sort row_size now_windows now_washes now_damp now_heard now_lines now_hour now_strings wy_windows_11 wy_links_12 wy_breaths_15 wy_goal wy_otherFrom wy_otherTo wy_least v1 _ _ _ hc_22) _) (kV hw calX7_stringTooMany kw_46_3 rfl rfl ⟨Nat.le_of_ble_eq_true rfl, Nat.le_of_ble_eq_true rfl⟩) (wpV (hP.sub (ws' := [oX7 t_h t_a rd_h now_h sp_h wy_h gp_h ch_h sb_h, oX4 row_h row_a row_sort row_size, arJ G (row_a 0) 40 row_values, oX1 now_h now_a now_windows now_washes now_damp now_heard now_lines now_hour now_strings, oX6 wy_h wy_a wy_windows_11 wy_goal wy_otherFrom wy_otherTo wy_least, arI G (wy_a 1) 12 wy_links_12, arI G (wy_a 4) 12 wy_breaths_15]) [0, 12, 13, 2, 8, 9, 11] rfl) (hD.sub (ws' := [oX7 t_h t_a rd_h now_h sp_h wy_h gp_h ch_h sb_h, oX4 row_h row_a row_sort row_size, arJ G (row_a 0) 40 row_values, oX1 now_h now_a now_windows now_washes now_damp now_heard now_lines now_hour now_strings, oX6 wy_h wy_a wy_windows_11 wy_goal wy_otherFrom wy_otherTo wy_least, arI G (wy_a 1) 12 wy_links_12, arI G (wy_a 4) 12 wy_breaths_15]) [0, 12, 13, 2, 8, 9, 11] (by decide) rfl) hK (ci := 7) (q0 := 0) rfl rfl) rfl rfl hl.1 rfl (lv_room (Nat.le_of_ble_eq_true rfl)) dX7_explained_113 ⟨Nat.zero_le _, Nat.zero_le _⟩) hS hA hP hD [0, 12, 13, 2, 8, 9, 11] rfl rfl (fun H locs hP hD hS => ?_)
                have hP : va_P G.1 vwCl [oX7 t_h t_a rd_h now_h sp_h wy_h gp_h ch_h sb_h, arR G (t_a 7) 4 t_rows, oX1 now_h now_a now_windows now_washes now_damp now_heard now_lines now_hour now_strings, arI G (now_a 7) 12 now_cans, arI G (now_a 8) 8 now_washPairs, arI G (now_a 9) 8 now_washHours, arI G (now_a 10) 21 now_pairs, arI G (now_a 11) 21 now_knots, oX6 wy_h wy_a wy_windows_11 wy_goal wy_otherFrom wy_otherTo wy_least, arI G (wy_a 1) 12 wy_links_19, arI G (wy_a 2) 144 wy_prices_13, arI G (wy_a 4) 12 wy_breaths_20, oX4 row_h row_a row_sort row_size, arJ G (row_a 0) 40 row_values] H := hP
                have hD : va_D A [oX7 t_h t_a rd_h now_h sp_h wy_h gp_h ch_h sb_h, arR G (t_a 7) 4 t_rows, oX1 now_h now_a now_windows now_washes now_damp now_heard now_lines now_hour now_strings, arI G (now_a 7) 12 now_cans, arI G (now_a 8) 8 now_washPairs, arI G (now_a 9) 8 now_washHours, arI G (now_a 10) 21 now_pairs, arI G (now_a 11) 21 now_knots, oX6 wy_h wy_a wy_windows_11 wy_goal wy_otherFrom wy_otherTo wy_least, arI G (wy_a 1) 12 wy_links_19, arI G (wy_a 2) 144 wy_prices_13, arI G (wy_a 4) 12 wy_breaths_20, oX4 row_h row_a row_sort row_size, arJ G (row_a 0) 40 row_values] := hD
                refine lv_istore (lv' := [(5, .int r_21), (4, .ref row_h), (0, .ref t_h), (1, .int v1), (2, .int v2), (3, .int v3)]) hx hb dX7_explained_116 hl (by decide) rfl (fun ls hl => ?_)
                refine lv_iload hx hb dX7_explained_118 (lv_at hl 0 rfl) ?_
                refine lv_iconst (v := (-1)) hx hb dX7_explained_120 (by decide) ?_
                refine lv_icmp_eq (tgt := 135) hx hb dX7_explained_121 (by decide) (fun c_23 => ?_) (fun c_23 => ?_)
                · have hf := ip c_23 hf
                  refine lv_aload_n hx hb dX7_explained_135 rfl (lv_at hl 2 rfl) ?_
                  refine lv_iload_n hx hb dX7_explained_136 rfl (lv_at hl 3 rfl) ?_
                  refine lv_aload hx hb dX7_explained_137 (lv_at hl 1 rfl) ?_
                  obtain ⟨r_26, wy_links_24, wy_breaths_25, hc_27, hf⟩ := bd3_in hf
                  refine wcI (w1 := [oX7 t_h t_a rd_h now_h sp_h wy_h gp_h ch_h sb_h, oX4 row_h row_a row_sort row_size, arJ G (row_a 0) 40 row_values, oX1 now_h now_a now_windows now_washes now_damp now_heard now_lines now_hour now_strings, arI G (now_a 7) 12 now_cans, arI G (now_a 8) 8 now_washPairs, arI G (now_a 9) 8 now_washHours, arI G (now_a 10) 21 now_pairs, oX6 wy_h wy_a wy_windows_11 wy_goal wy_otherFrom wy_otherTo wy_least, arI G (wy_a 1) 12 wy_links_24, arI G (wy_a 4) 12 wy_breaths_25]) (va_runV (As := [.int v1, .ref row_h]) (rest := []) ⟨hx, hb, hml, hown, hw⟩ ((ctX7_pairTooFew l G t_h t_a row_h row_a now_h now_a wy_h wy_a rd_h sp_h gp_h ch_h sb_h row_values row_sort row_size now_windows now_washes now_damp now_heard now_lines now_hour now_strings now_cans now_washPairs now_washHours now_pairs wy_windows_11 wy_links_19 wy_breaths_20 wy_goal wy_otherFrom wy_otherTo wy_least v1 _ _ _ hc_27) _) (kV hw calX7_pairTooFew kw_46_8 rfl rfl ⟨Nat.le_of_ble_eq_true rfl, Nat.le_of_ble_eq_true rfl⟩) (wpV (hP.sub (ws' := [oX7 t_h t_a rd_h now_h sp_h wy_h gp_h ch_h sb_h, oX4 row_h row_a row_sort row_size, arJ G (row_a 0) 40 row_values, oX1 now_h now_a now_windows now_washes now_damp now_heard now_lines now_hour now_strings, arI G (now_a 7) 12 now_cans, arI G (now_a 8) 8 now_washPairs, arI G (now_a 9) 8 now_washHours, arI G (now_a 10) 21 now_pairs, oX6 wy_h wy_a wy_windows_11 wy_goal wy_otherFrom wy_otherTo wy_least, arI G (wy_a 1) 12 wy_links_19, arI G (wy_a 4) 12 wy_breaths_20]) [0, 12, 13, 2, 3, 4, 5, 6, 8, 9, 11] rfl) (hD.sub (ws' := [oX7 t_h t_a rd_h now_h sp_h wy_h gp_h ch_h sb_h, oX4 row_h row_a row_sort row_size, arJ G (row_a 0) 40 row_values, oX1 now_h now_a now_windows now_washes now_damp now_heard now_lines now_hour now_strings, arI G (now_a 7) 12 now_cans, arI G (now_a 8) 8 now_washPairs, arI G (now_a 9) 8 now_washHours, arI G (now_a 10) 21 now_pairs, oX6 wy_h wy_a wy_windows_11 wy_goal wy_otherFrom wy_otherTo wy_least, arI G (wy_a 1) 12 wy_links_19, arI G (wy_a 4) 12 wy_breaths_20]) [0, 12, 13, 2, 3, 4, 5, 6, 8, 9, 11] (by decide) rfl) hK (ci := 7) (q0 := 0) rfl rfl) rfl rfl hl.1 rfl (lv_room (Nat.le_of_ble_eq_true rfl)) dX7_explained_139 ⟨Nat.zero_le _, Nat.zero_le _⟩) hS hA hP hD [0, 12, 13, 2, 3, 4, 5, 6, 8, 9, 11] rfl rfl (fun H locs hP hD hS => ?_)
                  have hP : va_P G.1 vwCl [oX7 t_h t_a rd_h now_h sp_h wy_h gp_h ch_h sb_h, arR G (t_a 7) 4 t_rows, oX1 now_h now_a now_windows now_washes now_damp now_heard now_lines now_hour now_strings, arI G (now_a 7) 12 now_cans, arI G (now_a 8) 8 now_washPairs, arI G (now_a 9) 8 now_washHours, arI G (now_a 10) 21 now_pairs, arI G (now_a 11) 21 now_knots, oX6 wy_h wy_a wy_windows_11 wy_goal wy_otherFrom wy_otherTo wy_least, arI G (wy_a 1) 12 wy_links_24, arI G (wy_a 2) 144 wy_prices_13, arI G (wy_a 4) 12 wy_breaths_25, oX4 row_h row_a row_sort row_size, arJ G (row_a 0) 40 row_values] H := hP
                  have hD : va_D A [oX7 t_h t_a rd_h now_h sp_h wy_h gp_h ch_h sb_h, arR G (t_a 7) 4 t_rows, oX1 now_h now_a now_windows now_washes now_damp now_heard now_lines now_hour now_strings, arI G (now_a 7) 12 now_cans, arI G (now_a 8) 8 now_washPairs, arI G (now_a 9) 8 now_washHours, arI G (now_a 10) 21 now_pairs, arI G (now_a 11) 21 now_knots, oX6 wy_h wy_a wy_windows_11 wy_goal wy_otherFrom wy_otherTo wy_least, arI G (wy_a 1) 12 wy_links_24, arI G (wy_a 2) 144 wy_prices_13, arI G (wy_a 4) 12 wy_breaths_25, oX4 row_h row_a row_sort row_size, arJ G (row_a 0) 40 row_values] := hD
                  refine lv_istore (lv' := [(5, .int r_26), (4, .ref row_h), (0, .ref t_h), (1, .int v1), (2, .int v2), (3, .int v3)]) hx hb dX7_explained_142 hl (by decide) rfl (fun ls hl => ?_)
                  refine lv_iload hx hb dX7_explained_144 (lv_at hl 0 rfl) ?_
                  refine lv_iconst (v := (-1)) hx hb dX7_explained_146 (by decide) ?_
                  refine lv_icmp_eq (tgt := 161) hx hb dX7_explained_147 (by decide) (fun c_28 => ?_) (fun c_28 => ?_)
                  · have hf := ip c_28 hf
                    refine lv_iload_n hx hb dX7_explained_161 rfl (lv_at hl 5 rfl) ?_
                    refine lv_if_ne (tgt := 169) hx hb dX7_explained_162 (by decide) (fun c_29 => ?_) (fun c_29 => ?_)
                    · have hf := iq c_29 hf
                      refine lv_iconst (v := (-1)) hx hb dX7_explained_169 (by decide) ?_
                      exact hRet _ _ _ _ _ _ _ _ _ hf hP hS dX7_explained_170
                    · have hf := ip c_29 hf
                      refine lv_iconst (v := 3) hx hb dX7_explained_165 (by decide) ?_
                      refine lv_goto (tgt := 170) hx hb dX7_explained_166 (by decide) ?_
                      exact hRet _ _ _ _ _ _ _ _ _ hf hP hS dX7_explained_170
                  · have hf := iq c_28 hf
                    refine lv_iload_n hx hb dX7_explained_150 rfl (lv_at hl 5 rfl) ?_
                    refine lv_if_ne (tgt := 158) hx hb dX7_explained_151 (by decide) (fun c_30 => ?_) (fun c_30 => ?_)
                    · have hf := iq c_30 hf
                      refine lv_iload hx hb dX7_explained_158 (lv_at hl 0 rfl) ?_
                      exact hRet _ _ _ _ _ _ _ _ _ hf hP hS dX7_explained_160
                    · have hf := ip c_30 hf
                      refine lv_iconst (v := 2) hx hb dX7_explained_154 (by decide) ?_
                      refine lv_goto (tgt := 160) hx hb dX7_explained_155 (by decide) ?_
                      exact hRet _ _ _ _ _ _ _ _ _ hf hP hS dX7_explained_160
                · have hf := iq c_23 hf
                  refine lv_iload_n hx hb dX7_explained_124 rfl (lv_at hl 5 rfl) ?_
                  refine lv_if_ne (tgt := 132) hx hb dX7_explained_125 (by decide) (fun c_31 => ?_) (fun c_31 => ?_)
                  · have hf := iq c_31 hf
                    refine lv_iload hx hb dX7_explained_132 (lv_at hl 0 rfl) ?_
                    exact hRet _ _ _ _ _ _ _ _ _ hf hP hS dX7_explained_134
                  · have hf := ip c_31 hf
                    refine lv_iconst (v := 1) hx hb dX7_explained_128 (by decide) ?_
                    refine lv_goto (tgt := 134) hx hb dX7_explained_129 (by decide) ?_
                    exact hRet _ _ _ _ _ _ _ _ _ hf hP hS dX7_explained_134
              · have hf := iq c_18 hf
                refine lv_iload_n hx hb dX7_explained_99 rfl (lv_at hl 4 rfl) ?_
                refine lv_if_ne (tgt := 107) hx hb dX7_explained_100 (by decide) (fun c_32 => ?_) (fun c_32 => ?_)
                · have hf := iq c_32 hf
                  refine lv_iconst (v := (-1)) hx hb dX7_explained_107 (by decide) ?_
                  exact hRet _ _ _ _ _ _ _ _ _ hf hP hS dX7_explained_108
                · have hf := ip c_32 hf
                  refine lv_iconst (v := 0) hx hb dX7_explained_103 (by decide) ?_
                  refine lv_goto (tgt := 108) hx hb dX7_explained_104 (by decide) ?_
                  exact hRet _ _ _ _ _ _ _ _ _ hf hP hS dX7_explained_108
            · have hf := iq c_10 hf
              refine lv_bipush (v := (-7)) hx hb dX7_explained_65 (by decide) ?_
              exact hRet _ _ _ _ _ _ _ _ _ hf hP hS dX7_explained_67
          · have hf := ip c_9 hf
            refine lv_bipush (v := (-6)) hx hb dX7_explained_47 (by decide) ?_
            exact hRet _ _ _ _ _ _ _ _ _ hf hP hS dX7_explained_49
        · have hf := iq c_8 hf
          refine lv_bipush (v := (-2)) hx hb dX7_explained_27 (by decide) ?_
          exact hRet _ _ _ _ _ _ _ _ _ hf hP hS dX7_explained_29
theorem calX7_numbers : CalV yX7_numbers cX7_numbers 4 (some .int) 3 := ⟨⟨kw_47_3, kw_1_2, by decide +kernel⟩, kw_47_1, kw_47_2⟩
set_option maxHeartbeats 8000000 in
set_option maxRecDepth 100000 in
theorem ctX7_numbers (l : Launch) (G : GT) (t_h : Nat) (t_a : Nat → Nat) (row_h : Nat) (row_a : Nat → Nat) (rd_h : Nat) (now_h : Nat) (sp_h : Nat) (wy_h : Nat) (gp_h : Nat) (ch_h : Nat) (sb_h : Nat) (t_rows : Nat → Option Nat) (row_values : Nat → Int64) (row_sort : Int32) (row_size : Int32) (v1 : Int32) (v2 : Int32) (v3 : Int32) (h_row : vp_in v1 4 → va_rf (t_rows v1.toNatClampNeg) = .ref row_h) (r : Int32) (o_row_values : Nat → Int64) (o_row_sort : Int32) (o_row_size : Int32) (hf : fX7_numbers row_values row_sort row_size v1 v2 v3 = some (r, o_row_values, o_row_sort, o_row_size)) : WrI l yX7_numbers (Cond.code yX7_numbers cX7_numbers 4 (some .int)) { frames := 2, cells := 0, slots := 0, locals := 46 } G [.ref t_h, .int v1, .int v2, .int v3] [oX7 t_h t_a rd_h now_h sp_h wy_h gp_h ch_h sb_h, arR G (t_a 7) 4 t_rows, oX4 row_h row_a row_sort row_size, arJ G (row_a 0) 40 row_values] [oX7 t_h t_a rd_h now_h sp_h wy_h gp_h ch_h sb_h, arR G (t_a 7) 4 t_rows, oX4 row_h row_a o_row_sort o_row_size, arJ G (row_a 0) 40 o_row_values] r := by
  intro sz
  refine Met.ofW (cc := cX7_numbers) (maxL := 4) (ret := (some .int)) (by decide) rfl ?_
  intro p e s m args below meth c s₁ B hml hv
  obtain ⟨hargs, hsz, hP, hD0, hK⟩ := hv
  subst hsz
  obtain ⟨hx, hb, hr, hw, hown, hlk⟩ := fwB B
  refine fw_enter hargs (Nat.le_of_ble_eq_true rfl) (fun ls hl => ?_)
  have hl : lv_has ls 4 [(0, .ref t_h), (1, .int v1), (2, .int v2), (3, .int v3)] := hl
  refine fw_Q (P := fun Q => ∃ A : Nat → Prop, va_D A [oX7 t_h t_a rd_h now_h sp_h wy_h gp_h ch_h sb_h, arR G (t_a 7) 4 t_rows, oX4 row_h row_a row_sort row_size, arJ G (row_a 0) 40 row_values] ∧ va_S A s.heap s.heap [] ∧ (∀ q, s.heap.size ≤ q → A q) ∧ ∀ (v : Int32) (n_row_values : Nat → Int64) (n_row_sort : Int32) (n_row_size : Int32) (H : Heap) (locs : List Loc) (pc : Nat) (ls : Array Slot), some (v, n_row_values, n_row_sort, n_row_size) = some (r, o_row_values, o_row_sort, o_row_size) → va_P G.1 vwCl [oX7 t_h t_a rd_h now_h sp_h wy_h gp_h ch_h sb_h, arR G (t_a 7) 4 t_rows, oX4 row_h row_a n_row_sort n_row_size, arJ G (row_a 0) 40 n_row_values] H → va_S A s.heap H locs → decode cX7_numbers pc = .ok (.ireturn, 1) → W p l e ({ frames := 2, cells := 0, slots := 0, locals := 46 } : Room) s m args below meth c H locs 0 0 Q (F0 m pc ls [.int v])) ⟨va_A [oX7 t_h t_a rd_h now_h sp_h wy_h gp_h ch_h sb_h, arR G (t_a 7) 4 t_rows, oX4 row_h row_a row_sort row_size, arJ G (row_a 0) 40 row_values] s.heap.size, hD0.self (sz := s.heap.size), va_S.rf, fun q h => Or.inr h, ?_⟩ ?_
  · intro v n_row_values n_row_sort n_row_size H locs pc ls h hP hS hd
    cases h
    exact retWI hx hb hr hlk hS hP rfl hd
  rintro Q ⟨A, hD, hS, hA, hRet⟩
  change W p l e ({ frames := 2, cells := 0, slots := 0, locals := 46 } : Room) s m args below meth c _ _ 0 0 Q _
  unfold fX7_numbers at hf
  refine lv_iload_n hx hb dX7_numbers_0 rfl (lv_at hl 1 rfl) ?_
  obtain ⟨r_1, hc_2, hf⟩ := bd1_in hf
  refine rcI (va_runS (As := [.int v1]) (rest := []) ⟨hx, hb, hml, hown, hw⟩ ((ctX7_isRow l G v1 _ hc_2) _) (kS hw calX7_isRow kw_25_6 rfl rfl ⟨Nat.le_of_ble_eq_true rfl, Nat.le_of_ble_eq_true rfl⟩) (rpS (hP.sub (ws' := []) [] rfl) hK) rfl rfl hl.1 rfl (lv_room (Nat.le_of_ble_eq_true rfl)) dX7_numbers_1 ⟨Nat.zero_le _, Nat.zero_le _⟩) hS hA hP (fun H locs hP hS => ?_)
  refine lv_if_eq (tgt := 16) hx hb dX7_numbers_4 (by decide) (fun c_3 => ?_) (fun c_3 => ?_)
  · have hf := ip c_3 hf
    refine lv_bipush (v := (-2)) hx hb dX7_numbers_16 (by decide) ?_
    exact hRet _ _ _ _ _ _ _ _ hf hP hS dX7_numbers_18
  · have hf := iq c_3 hf
    refine lv_iload_n hx hb dX7_numbers_7 rfl (lv_at hl 2 rfl) ?_
    refine lv_if_lt (tgt := 16) hx hb dX7_numbers_8 (by decide) (fun c_4 => ?_) (fun c_4 => ?_)
    · have hf := ip c_4 hf
      refine lv_bipush (v := (-2)) hx hb dX7_numbers_16 (by decide) ?_
      exact hRet _ _ _ _ _ _ _ _ hf hP hS dX7_numbers_18
    · have hf := iq c_4 hf
      refine lv_iload_n hx hb dX7_numbers_11 rfl (lv_at hl 2 rfl) ?_
      refine lv_iconst (v := 4) hx hb dX7_numbers_12 (by decide) ?_
      refine lv_icmp_lt (tgt := 19) hx hb dX7_numbers_13 (by decide) (fun c_5 => ?_) (fun c_5 => ?_)
      · have hf := ip c_5 hf
        refine lv_iload_n hx hb dX7_numbers_19 rfl (lv_at hl 3 rfl) ?_
        refine lv_if_lt (tgt := 29) hx hb dX7_numbers_20 (by decide) (fun c_6 => ?_) (fun c_6 => ?_)
        · have hf := ip c_6 hf
          refine lv_bipush (v := (-3)) hx hb dX7_numbers_29 (by decide) ?_
          exact hRet _ _ _ _ _ _ _ _ hf hP hS dX7_numbers_31
        · have hf := iq c_6 hf
          refine lv_iload_n hx hb dX7_numbers_23 rfl (lv_at hl 3 rfl) ?_
          refine lv_bipush (v := 40) hx hb dX7_numbers_24 (by decide) ?_
          refine lv_icmp_le (tgt := 32) hx hb dX7_numbers_26 (by decide) (fun c_7 => ?_) (fun c_7 => ?_)
          · have hf := ip c_7 hf
            refine lv_aload_n hx hb dX7_numbers_32 rfl (lv_at hl 0 rfl) ?_
            refine va_get (D := G.1) (ci := 7) (v := .ref (t_a 7)) (C := RX7) (T := TX7) (N := 10) hx hb hw inW7 hown hK.1 hP 0 rfl rfl 7 (by decide) (hw _ kw_2_15) (fun _ h9 => h9) rfl dX7_numbers_33 ?_
            refine lv_iload_n hx hb dX7_numbers_36 rfl (lv_at hl 1 rfl) ?_
            obtain ⟨hi_q, hf⟩ := ckI_in hf
            refine va_aldq hx hb hK.1 hP 1 5 rfl rfl hi_q dX7_numbers_37 ?_
            rw [h_row hi_q]
            refine lv_iload_n hx hb dX7_numbers_38 rfl (lv_at hl 2 rfl) ?_
            refine lv_iload_n hx hb dX7_numbers_39 rfl (lv_at hl 3 rfl) ?_
            obtain ⟨row_values_8, row_sort_9, row_size_10, hc_11, hf⟩ := bd3_in hf
            refine wcV (w1 := [oX4 row_h row_a row_sort_9 row_size_10, arJ G (row_a 0) 40 row_values_8]) (va_runV (As := [.int v2, .int v3]) (rest := []) ⟨hx, hb, hml, hown, hw⟩ ((ctX4_begin l G row_h row_a row_values row_sort row_size v2 v3 _ _ _ hc_11) _) (kV hw calX4_begin kw_47_4 rfl rfl ⟨Nat.le_of_ble_eq_true rfl, Nat.le_of_ble_eq_true rfl⟩) (wpV (hP.sub (ws' := [oX4 row_h row_a row_sort row_size, arJ G (row_a 0) 40 row_values]) [2, 3] rfl) (hD.sub (ws' := [oX4 row_h row_a row_sort row_size, arJ G (row_a 0) 40 row_values]) [2, 3] (by decide) rfl) hK (ci := 4) (q0 := 0) rfl rfl) rfl rfl hl.1 rfl (lv_room (Nat.le_of_ble_eq_true rfl)) dX7_numbers_40 ⟨Nat.zero_le _, Nat.zero_le _⟩) hS hA hP hD [2, 3] rfl rfl (fun H locs hP hD hS => ?_)
            have hP : va_P G.1 vwCl [oX7 t_h t_a rd_h now_h sp_h wy_h gp_h ch_h sb_h, arR G (t_a 7) 4 t_rows, oX4 row_h row_a row_sort_9 row_size_10, arJ G (row_a 0) 40 row_values_8] H := hP
            have hD : va_D A [oX7 t_h t_a rd_h now_h sp_h wy_h gp_h ch_h sb_h, arR G (t_a 7) 4 t_rows, oX4 row_h row_a row_sort_9 row_size_10, arJ G (row_a 0) 40 row_values_8] := hD
            refine lv_iconst (v := 0) hx hb dX7_numbers_43 (by decide) ?_
            exact hRet _ _ _ _ _ _ _ _ hf hP hS dX7_numbers_44
          · have hf := iq c_7 hf
            refine lv_bipush (v := (-3)) hx hb dX7_numbers_29 (by decide) ?_
            exact hRet _ _ _ _ _ _ _ _ hf hP hS dX7_numbers_31
      · have hf := iq c_5 hf
        refine lv_bipush (v := (-2)) hx hb dX7_numbers_16 (by decide) ?_
        exact hRet _ _ _ _ _ _ _ _ hf hP hS dX7_numbers_18
theorem calX7_write : CalV yX7_write cX7_write 6 (some .long) 3 := ⟨⟨kw_47_20, kw_1_2, by decide +kernel⟩, kw_47_18, kw_47_19⟩
set_option maxHeartbeats 8000000 in
set_option maxRecDepth 100000 in
theorem ctX7_write (l : Launch) (G : GT) (t_h : Nat) (t_a : Nat → Nat) (row_h : Nat) (row_a : Nat → Nat) (rd_h : Nat) (now_h : Nat) (sp_h : Nat) (wy_h : Nat) (gp_h : Nat) (ch_h : Nat) (sb_h : Nat) (t_rows : Nat → Option Nat) (row_values : Nat → Int64) (row_sort : Int32) (row_size : Int32) (v1 : Int32) (v2 : Int32) (v3 : Int64) (h_row : vp_in v1 4 → va_rf (t_rows v1.toNatClampNeg) = .ref row_h) (r : Int64) (o_row_values : Nat → Int64) (hf : fX7_write row_values row_sort row_size v1 v2 v3 = some (r, o_row_values)) : WrL l yX7_write (Cond.code yX7_write cX7_write 6 (some .long)) { frames := 2, cells := 0, slots := 0, locals := 45 } G [.ref t_h, .int v1, .int v2, .long v3] [oX7 t_h t_a rd_h now_h sp_h wy_h gp_h ch_h sb_h, arR G (t_a 7) 4 t_rows, oX4 row_h row_a row_sort row_size, arJ G (row_a 0) 40 row_values] [oX7 t_h t_a rd_h now_h sp_h wy_h gp_h ch_h sb_h, arR G (t_a 7) 4 t_rows, oX4 row_h row_a row_sort row_size, arJ G (row_a 0) 40 o_row_values] r := by
  intro sz
  refine Met.ofW (cc := cX7_write) (maxL := 6) (ret := (some .long)) (by decide) rfl ?_
  intro p e s m args below meth c s₁ B hml hv
  obtain ⟨hargs, hsz, hP, hD0, hK⟩ := hv
  subst hsz
  obtain ⟨hx, hb, hr, hw, hown, hlk⟩ := fwB B
  refine fw_enter hargs (Nat.le_of_ble_eq_true rfl) (fun ls hl => ?_)
  have hl : lv_has ls 6 [(0, .ref t_h), (1, .int v1), (2, .int v2), (3, .long v3)] := hl
  refine fw_Q (P := fun Q => ∃ A : Nat → Prop, va_D A [oX7 t_h t_a rd_h now_h sp_h wy_h gp_h ch_h sb_h, arR G (t_a 7) 4 t_rows, oX4 row_h row_a row_sort row_size, arJ G (row_a 0) 40 row_values] ∧ va_S A s.heap s.heap [] ∧ (∀ q, s.heap.size ≤ q → A q) ∧ ∀ (v : Int64) (n_row_values : Nat → Int64) (H : Heap) (locs : List Loc) (pc : Nat) (ls : Array Slot), some (v, n_row_values) = some (r, o_row_values) → va_P G.1 vwCl [oX7 t_h t_a rd_h now_h sp_h wy_h gp_h ch_h sb_h, arR G (t_a 7) 4 t_rows, oX4 row_h row_a row_sort row_size, arJ G (row_a 0) 40 n_row_values] H → va_S A s.heap H locs → decode cX7_write pc = .ok (.lreturn, 1) → W p l e ({ frames := 2, cells := 0, slots := 0, locals := 45 } : Room) s m args below meth c H locs 0 0 Q (F0 m pc ls [.long v])) ⟨va_A [oX7 t_h t_a rd_h now_h sp_h wy_h gp_h ch_h sb_h, arR G (t_a 7) 4 t_rows, oX4 row_h row_a row_sort row_size, arJ G (row_a 0) 40 row_values] s.heap.size, hD0.self (sz := s.heap.size), va_S.rf, fun q h => Or.inr h, ?_⟩ ?_
  · intro v n_row_values H locs pc ls h hP hS hd
    cases h
    exact retWL hx hb hr hlk hS hP rfl hd
  rintro Q ⟨A, hD, hS, hA, hRet⟩
  change W p l e ({ frames := 2, cells := 0, slots := 0, locals := 45 } : Room) s m args below meth c _ _ 0 0 Q _
  unfold fX7_write at hf
  refine lv_aload_n hx hb dX7_write_0 rfl (lv_at hl 0 rfl) ?_
  refine lv_iload_n hx hb dX7_write_1 rfl (lv_at hl 1 rfl) ?_
  obtain ⟨r_1, hc_2, hf⟩ := bd1_in hf
  refine rcI (va_runV (As := [.int v1]) (rest := []) ⟨hx, hb, hml, hown, hw⟩ ((ctX7_rowRefusal l G t_h t_a row_h row_a rd_h now_h sp_h wy_h gp_h ch_h sb_h t_rows row_sort row_size v1 h_row _ hc_2) _) (kV hw calX7_rowRefusal kw_25_2 rfl rfl ⟨Nat.le_of_ble_eq_true rfl, Nat.le_of_ble_eq_true rfl⟩) (rpV (hP.sub (ws' := [oX7 t_h t_a rd_h now_h sp_h wy_h gp_h ch_h sb_h, arR G (t_a 7) 4 t_rows, oX4 row_h row_a row_sort row_size]) [0, 1, 2] rfl) hK (ci := 7) (q0 := 0) rfl rfl) rfl rfl hl.1 rfl (lv_room (Nat.le_of_ble_eq_true rfl)) dX7_write_2 ⟨Nat.zero_le _, Nat.zero_le _⟩) hS hA hP (fun H locs hP hS => ?_)
  refine lv_istore (lv' := [(5, .int r_1), (0, .ref t_h), (1, .int v1), (2, .int v2), (3, .long v3)]) hx hb dX7_write_5 hl (by decide) rfl (fun ls hl => ?_)
  refine lv_iload hx hb dX7_write_7 (lv_at hl 0 rfl) ?_
  refine lv_if_eq (tgt := 16) hx hb dX7_write_9 (by decide) (fun c_3 => ?_) (fun c_3 => ?_)
  · have hf := ip c_3 hf
    refine lv_iload_n hx hb dX7_write_16 rfl (lv_at hl 3 rfl) ?_
    refine jn_el hf (fun k_4 ek_4 hf => ?_)
    have J33 : ∀  (H : Heap) (locs : List Loc) (ls : Array Slot), va_P G.1 vwCl [oX7 t_h t_a rd_h now_h sp_h wy_h gp_h ch_h sb_h, arR G (t_a 7) 4 t_rows, oX4 row_h row_a row_sort row_size, arJ G (row_a 0) 40 row_values] H → va_D A [oX7 t_h t_a rd_h now_h sp_h wy_h gp_h ch_h sb_h, arR G (t_a 7) 4 t_rows, oX4 row_h row_a row_sort row_size, arJ G (row_a 0) 40 row_values] → va_S A s.heap H locs → lv_has ls 6 [] → k_4 = some (r, o_row_values) → W p l e ({ frames := 2, cells := 0, slots := 0, locals := 45 } : Room) s m args below meth c H locs 0 0 Q (F0 m 33 ls []) := by
      intro  H locs ls hP hD hS hl hf
      rw [ek_4] at hf
      refine lv_ldc2 hx hb hown (hw _ kw_47_21) dX7_write_33 ?_
      exact hRet _ _ _ _ _ _ hf hP hS dX7_write_36
    refine lv_if_lt (tgt := 33) hx hb dX7_write_17 (by decide) (fun c_5 => ?_) (fun c_5 => ?_)
    · have hf := ip c_5 hf
      exact J33  _ _ _ hP hD hS (lv_sub hl [] rfl) hf
    · have hf := iq c_5 hf
      refine lv_iload_n hx hb dX7_write_20 rfl (lv_at hl 3 rfl) ?_
      refine lv_aload_n hx hb dX7_write_21 rfl (lv_at hl 1 rfl) ?_
      refine va_get (D := G.1) (ci := 7) (v := .ref (t_a 7)) (C := RX7) (T := TX7) (N := 10) hx hb hw inW7 hown hK.1 hP 0 rfl rfl 7 (by decide) (hw _ kw_2_15) (fun _ h9 => h9) rfl dX7_write_22 ?_
      refine lv_iload_n hx hb dX7_write_25 rfl (lv_at hl 2 rfl) ?_
      obtain ⟨hi_q, hf⟩ := ckI_in hf
      refine va_aldq hx hb hK.1 hP 1 5 rfl rfl hi_q dX7_write_26 ?_
      rw [h_row hi_q]
      refine va_getN (D := G.1) (ci := 4) (v := .int row_size) (C := RX4) (T := TX4) (N := 3) hx hb hw inW4 hown hK.1 hP 2 rfl rfl 2 (by decide) ((nf_39 hK.2).use rfl) (fun _ h9 => h9) rfl dX7_write_27 ?_
      refine lv_icmp_lt (tgt := 37) hx hb dX7_write_30 (by decide) (fun c_6 => ?_) (fun c_6 => ?_)
      · have hf := ip c_6 hf
        refine lv_aload_n hx hb dX7_write_37 rfl (lv_at hl 1 rfl) ?_
        refine va_get (D := G.1) (ci := 7) (v := .ref (t_a 7)) (C := RX7) (T := TX7) (N := 10) hx hb hw inW7 hown hK.1 hP 0 rfl rfl 7 (by decide) (hw _ kw_2_15) (fun _ h9 => h9) rfl dX7_write_38 ?_
        refine lv_iload_n hx hb dX7_write_41 rfl (lv_at hl 2 rfl) ?_
        obtain ⟨hi_q, hf⟩ := ckI_in hf
        refine va_aldq hx hb hK.1 hP 1 5 rfl rfl hi_q dX7_write_42 ?_
        rw [h_row hi_q]
        refine lv_iload_n hx hb dX7_write_43 rfl (lv_at hl 3 rfl) ?_
        refine lv_lload_n hx hb dX7_write_44 rfl (lv_at hl 4 rfl) ?_
        obtain ⟨r_8, row_values_7, hc_9, hf⟩ := bd2_in hf
        refine wcL (w1 := [oX4 row_h row_a row_sort row_size, arJ G (row_a 0) 40 row_values_7]) (va_runV (As := [.int v2, .long v3]) (rest := []) ⟨hx, hb, hml, hown, hw⟩ ((ctX4_put l G row_h row_a row_values row_sort row_size v2 v3 _ _ hc_9) _) (kV hw calX4_put kw_47_22 rfl rfl ⟨Nat.le_of_ble_eq_true rfl, Nat.le_of_ble_eq_true rfl⟩) (wpV (hP.sub (ws' := [oX4 row_h row_a row_sort row_size, arJ G (row_a 0) 40 row_values]) [2, 3] rfl) (hD.sub (ws' := [oX4 row_h row_a row_sort row_size, arJ G (row_a 0) 40 row_values]) [2, 3] (by decide) rfl) hK (ci := 4) (q0 := 0) rfl rfl) rfl rfl hl.1 rfl (lv_room (Nat.le_of_ble_eq_true rfl)) dX7_write_45 ⟨Nat.zero_le _, Nat.zero_le _⟩) hS hA hP hD [2, 3] rfl rfl (fun H locs hP hD hS => ?_)
        have hP : va_P G.1 vwCl [oX7 t_h t_a rd_h now_h sp_h wy_h gp_h ch_h sb_h, arR G (t_a 7) 4 t_rows, oX4 row_h row_a row_sort row_size, arJ G (row_a 0) 40 row_values_7] H := hP
        have hD : va_D A [oX7 t_h t_a rd_h now_h sp_h wy_h gp_h ch_h sb_h, arR G (t_a 7) 4 t_rows, oX4 row_h row_a row_sort row_size, arJ G (row_a 0) 40 row_values_7] := hD
        exact hRet _ _ _ _ _ _ hf hP hS dX7_write_48
      · have hf := iq c_6 hf
        exact J33  _ _ _ hP hD hS (lv_sub hl [] rfl) hf
  · have hf := iq c_3 hf
    refine lv_iload hx hb dX7_write_12 (lv_at hl 0 rfl) ?_
    refine lv_i2l hx hb dX7_write_14 rfl ?_
    exact hRet _ _ _ _ _ _ hf hP hS dX7_write_15
theorem calX7_copy : CalV yX7_copy cX7_copy 5 (some .int) 1 := ⟨⟨kw_48_20, kw_1_2, by decide +kernel⟩, kw_48_18, kw_48_19⟩
set_option maxHeartbeats 8000000 in
set_option maxRecDepth 100000 in
theorem ctX7_copy (l : Launch) (G : GT) (t_h : Nat) (t_a : Nat → Nat) (now_h : Nat) (now_a : Nat → Nat) (row_h : Nat) (row_a : Nat → Nat) (rd_h : Nat) (sp_h : Nat) (wy_h : Nat) (gp_h : Nat) (ch_h : Nat) (sb_h : Nat) (t_rows : Nat → Option Nat) (now_windows : Int32) (now_washes : Int32) (now_damp : Int32) (now_heard : Int32) (now_lines : Int32) (now_hour : Int32) (now_strings : Int32) (now_pairs : Nat → Int32) (row_values : Nat → Int64) (row_sort : Int32) (row_size : Int32) (v1 : Int32) (h_row : vp_in v1 4 → va_rf (t_rows v1.toNatClampNeg) = .ref row_h) (r : Int32) (o_row_values : Nat → Int64) (hf : fX7_copy now_strings now_pairs row_values row_sort row_size v1 = some (r, o_row_values)) : WrI l yX7_copy (Cond.code yX7_copy cX7_copy 5 (some .int)) { frames := 2, cells := 0, slots := 0, locals := 45 } G [.ref t_h, .int v1] [oX7 t_h t_a rd_h now_h sp_h wy_h gp_h ch_h sb_h, arR G (t_a 7) 4 t_rows, oX1 now_h now_a now_windows now_washes now_damp now_heard now_lines now_hour now_strings, arI G (now_a 10) 21 now_pairs, oX4 row_h row_a row_sort row_size, arJ G (row_a 0) 40 row_values] [oX7 t_h t_a rd_h now_h sp_h wy_h gp_h ch_h sb_h, arR G (t_a 7) 4 t_rows, oX1 now_h now_a now_windows now_washes now_damp now_heard now_lines now_hour now_strings, arI G (now_a 10) 21 now_pairs, oX4 row_h row_a row_sort row_size, arJ G (row_a 0) 40 o_row_values] r := by
  intro sz
  refine Met.ofW (cc := cX7_copy) (maxL := 5) (ret := (some .int)) (by decide) rfl ?_
  intro p e s m args below meth c s₁ B hml hv
  obtain ⟨hargs, hsz, hP, hD0, hK⟩ := hv
  subst hsz
  obtain ⟨hx, hb, hr, hw, hown, hlk⟩ := fwB B
  refine fw_enter hargs (Nat.le_of_ble_eq_true rfl) (fun ls hl => ?_)
  have hl : lv_has ls 5 [(0, .ref t_h), (1, .int v1)] := hl
  refine fw_Q (P := fun Q => ∃ A : Nat → Prop, va_D A [oX7 t_h t_a rd_h now_h sp_h wy_h gp_h ch_h sb_h, arR G (t_a 7) 4 t_rows, oX1 now_h now_a now_windows now_washes now_damp now_heard now_lines now_hour now_strings, arI G (now_a 10) 21 now_pairs, oX4 row_h row_a row_sort row_size, arJ G (row_a 0) 40 row_values] ∧ va_S A s.heap s.heap [] ∧ (∀ q, s.heap.size ≤ q → A q) ∧ ∀ (v : Int32) (n_row_values : Nat → Int64) (H : Heap) (locs : List Loc) (pc : Nat) (ls : Array Slot), some (v, n_row_values) = some (r, o_row_values) → va_P G.1 vwCl [oX7 t_h t_a rd_h now_h sp_h wy_h gp_h ch_h sb_h, arR G (t_a 7) 4 t_rows, oX1 now_h now_a now_windows now_washes now_damp now_heard now_lines now_hour now_strings, arI G (now_a 10) 21 now_pairs, oX4 row_h row_a row_sort row_size, arJ G (row_a 0) 40 n_row_values] H → va_S A s.heap H locs → decode cX7_copy pc = .ok (.ireturn, 1) → W p l e ({ frames := 2, cells := 0, slots := 0, locals := 45 } : Room) s m args below meth c H locs 0 0 Q (F0 m pc ls [.int v])) ⟨va_A [oX7 t_h t_a rd_h now_h sp_h wy_h gp_h ch_h sb_h, arR G (t_a 7) 4 t_rows, oX1 now_h now_a now_windows now_washes now_damp now_heard now_lines now_hour now_strings, arI G (now_a 10) 21 now_pairs, oX4 row_h row_a row_sort row_size, arJ G (row_a 0) 40 row_values] s.heap.size, hD0.self (sz := s.heap.size), va_S.rf, fun q h => Or.inr h, ?_⟩ ?_
  · intro v n_row_values H locs pc ls h hP hS hd
    cases h
    exact retWI hx hb hr hlk hS hP rfl hd
  rintro Q ⟨A, hD, hS, hA, hRet⟩
  change W p l e ({ frames := 2, cells := 0, slots := 0, locals := 45 } : Room) s m args below meth c _ _ 0 0 Q _
  have L35 : ∀ (l3 : Int32) (K : (Nat → Int64) → Option (Int32 × (Nat → Int64))) (n : Nat) (l4 : Int32) (row_values : Nat → Int64) (H : Heap) (locs : List Loc) (ls : Array Slot), va_P G.1 vwCl [oX7 t_h t_a rd_h now_h sp_h wy_h gp_h ch_h sb_h, arR G (t_a 7) 4 t_rows, oX1 now_h now_a now_windows now_washes now_damp now_heard now_lines now_hour now_strings, arI G (now_a 10) 21 now_pairs, oX4 row_h row_a row_sort row_size, arJ G (row_a 0) 40 row_values] H → va_D A [oX7 t_h t_a rd_h now_h sp_h wy_h gp_h ch_h sb_h, arR G (t_a 7) 4 t_rows, oX1 now_h now_a now_windows now_washes now_damp now_heard now_lines now_hour now_strings, arI G (now_a 10) 21 now_pairs, oX4 row_h row_a row_sort row_size, arJ G (row_a 0) 40 row_values] → va_S A s.heap H locs → lv_has ls 5 [(0, .ref t_h), (1, .int v1), (3, .int l3), (4, .int l4)] → fX7_copy_35 v1 l3 now_pairs row_sort row_size K n l4 row_values = some (r, o_row_values) → (∀ (krow_values : Nat → Int64) (H : Heap) (locs : List Loc) (ls : Array Slot), va_P G.1 vwCl [oX7 t_h t_a rd_h now_h sp_h wy_h gp_h ch_h sb_h, arR G (t_a 7) 4 t_rows, oX1 now_h now_a now_windows now_washes now_damp now_heard now_lines now_hour now_strings, arI G (now_a 10) 21 now_pairs, oX4 row_h row_a row_sort row_size, arJ G (row_a 0) 40 krow_values] H → va_D A [oX7 t_h t_a rd_h now_h sp_h wy_h gp_h ch_h sb_h, arR G (t_a 7) 4 t_rows, oX1 now_h now_a now_windows now_washes now_damp now_heard now_lines now_hour now_strings, arI G (now_a 10) 21 now_pairs, oX4 row_h row_a row_sort row_size, arJ G (row_a 0) 40 krow_values] → va_S A s.heap H locs → lv_has ls 5 [(3, .int l3)] → K krow_values = some (r, o_row_values) → W p l e ({ frames := 2, cells := 0, slots := 0, locals := 45 } : Room) s m args below meth c H locs 0 0 Q (F0 m 70 ls [])) → W p l e ({ frames := 2, cells := 0, slots := 0, locals := 45 } : Room) s m args below meth c H locs 0 0 Q (F0 m 35 ls []) := by
    intro l3 K n
    induction n with
    | zero => intro l4 row_values H locs ls hP hD hS hl hf; rw [fX7_copy_35] at hf; cases hf
    | succ n ih =>
      intro l4 row_values H locs ls hP hD hS hl hf hX
      rw [fX7_copy_35] at hf
      refine lv_iload hx hb dX7_copy_35 (lv_at hl 3 rfl) ?_
      refine lv_iload_n hx hb dX7_copy_37 rfl (lv_at hl 2 rfl) ?_
      refine lv_icmp_ge (tgt := 70) hx hb dX7_copy_38 (by decide) (fun c_5 => ?_) (fun c_5 => ?_)
      · have hf := ip c_5 hf
        exact hX _ _ _ _ hP hD hS (lv_sub hl [2] rfl) hf
      · have hf := iq c_5 hf
        refine lv_aload_n hx hb dX7_copy_41 rfl (lv_at hl 0 rfl) ?_
        refine va_get (D := G.1) (ci := 7) (v := .ref (t_a 7)) (C := RX7) (T := TX7) (N := 10) hx hb hw inW7 hown hK.1 hP 0 rfl rfl 7 (by decide) (hw _ kw_2_15) (fun _ h9 => h9) rfl dX7_copy_42 ?_
        refine lv_iload_n hx hb dX7_copy_45 rfl (lv_at hl 1 rfl) ?_
        obtain ⟨hi_q, hf⟩ := ckI_in hf
        refine va_aldq hx hb hK.1 hP 1 5 rfl rfl hi_q dX7_copy_46 ?_
        rw [h_row hi_q]
        refine lv_iload hx hb dX7_copy_47 (lv_at hl 3 rfl) ?_
        refine lv_aload_n hx hb dX7_copy_49 rfl (lv_at hl 0 rfl) ?_
        refine va_get (D := G.1) (ci := 7) (v := .ref now_h) (C := RX7) (T := TX7) (N := 10) hx hb hw inW7 hown hK.1 hP 0 rfl rfl 1 (by decide) (hw _ kw_1_20) (fun _ h9 => h9) rfl dX7_copy_50 ?_
        refine va_getN (D := G.1) (ci := 1) (v := .ref (now_a 10)) (C := RX1) (T := TX1) (N := 12) hx hb hw inW1 hown hK.1 hP 2 rfl rfl 10 (by decide) ((nf_24 hK.2).use rfl) (fun _ h9 => h9) rfl dX7_copy_53 ?_
        refine lv_iload hx hb dX7_copy_56 (lv_at hl 3 rfl) ?_
        obtain ⟨hi_7, hf⟩ := rdI_in hf
        refine va_iald hx hb hK.1 hP 3 0 rfl rfl hi_7 dX7_copy_58 ?_
        refine lv_topi (fun x_6 ex_6 => ?_)
        have hf := hf x_6 ex_6
        refine lv_i2l hx hb dX7_copy_59 rfl ?_
        obtain ⟨r_9, row_values_8, hc_10, hf⟩ := bd2_in hf
        refine wcL (w1 := [oX4 row_h row_a row_sort row_size, arJ G (row_a 0) 40 row_values_8]) (va_runV (As := [.int l4, .long (Int32.toInt64 x_6)]) (rest := []) ⟨hx, hb, hml, hown, hw⟩ ((ctX4_put l G row_h row_a row_values row_sort row_size l4 (Int32.toInt64 x_6) _ _ hc_10) _) (kV hw calX4_put kw_47_22 rfl rfl ⟨Nat.le_of_ble_eq_true rfl, Nat.le_of_ble_eq_true rfl⟩) (wpV (hP.sub (ws' := [oX4 row_h row_a row_sort row_size, arJ G (row_a 0) 40 row_values]) [4, 5] rfl) (hD.sub (ws' := [oX4 row_h row_a row_sort row_size, arJ G (row_a 0) 40 row_values]) [4, 5] (by decide) rfl) hK (ci := 4) (q0 := 0) rfl rfl) rfl rfl hl.1 rfl (lv_room (Nat.le_of_ble_eq_true rfl)) dX7_copy_60 ⟨Nat.zero_le _, Nat.zero_le _⟩) hS hA hP hD [4, 5] rfl rfl (fun H locs hP hD hS => ?_)
        have hP : va_P G.1 vwCl [oX7 t_h t_a rd_h now_h sp_h wy_h gp_h ch_h sb_h, arR G (t_a 7) 4 t_rows, oX1 now_h now_a now_windows now_washes now_damp now_heard now_lines now_hour now_strings, arI G (now_a 10) 21 now_pairs, oX4 row_h row_a row_sort row_size, arJ G (row_a 0) 40 row_values_8] H := hP
        have hD : va_D A [oX7 t_h t_a rd_h now_h sp_h wy_h gp_h ch_h sb_h, arR G (t_a 7) 4 t_rows, oX1 now_h now_a now_windows now_washes now_damp now_heard now_lines now_hour now_strings, arI G (now_a 10) 21 now_pairs, oX4 row_h row_a row_sort row_size, arJ G (row_a 0) 40 row_values_8] := hD
        refine lv_pop2_2 hx hb dX7_copy_63 rfl ?_
        refine lv_iinc (v := (l4 + 1)) (lv' := [(4, .int (l4 + 1)), (0, .ref t_h), (1, .int v1), (3, .int l3)]) hx hb dX7_copy_64 hl (k := 3) rfl (by rfl) (by decide) rfl (fun ls hl => ?_)
        refine lv_goto (tgt := 35) hx hb dX7_copy_67 (by decide) ?_
        exact ih _ _ _ _ _ hP hD hS (lv_sub hl [1, 2, 3, 0] rfl) hf hX
  unfold fX7_copy at hf
  refine lv_aload_n hx hb dX7_copy_0 rfl (lv_at hl 0 rfl) ?_
  refine lv_iload_n hx hb dX7_copy_1 rfl (lv_at hl 1 rfl) ?_
  obtain ⟨r_1, hc_2, hf⟩ := bd1_in hf
  refine rcI (va_runV (As := [.int v1]) (rest := []) ⟨hx, hb, hml, hown, hw⟩ ((ctX7_rowRefusal l G t_h t_a row_h row_a rd_h now_h sp_h wy_h gp_h ch_h sb_h t_rows row_sort row_size v1 h_row _ hc_2) _) (kV hw calX7_rowRefusal kw_25_2 rfl rfl ⟨Nat.le_of_ble_eq_true rfl, Nat.le_of_ble_eq_true rfl⟩) (rpV (hP.sub (ws' := [oX7 t_h t_a rd_h now_h sp_h wy_h gp_h ch_h sb_h, arR G (t_a 7) 4 t_rows, oX4 row_h row_a row_sort row_size]) [0, 1, 4] rfl) hK (ci := 7) (q0 := 0) rfl rfl) rfl rfl hl.1 rfl (lv_room (Nat.le_of_ble_eq_true rfl)) dX7_copy_2 ⟨Nat.zero_le _, Nat.zero_le _⟩) hS hA hP (fun H locs hP hS => ?_)
  refine lv_istore_n (lv' := [(2, .int r_1), (0, .ref t_h), (1, .int v1)]) hx hb dX7_copy_5 rfl hl (by decide) rfl (fun ls hl => ?_)
  refine lv_iload_n hx hb dX7_copy_6 rfl (lv_at hl 0 rfl) ?_
  refine lv_if_eq (tgt := 12) hx hb dX7_copy_7 (by decide) (fun c_3 => ?_) (fun c_3 => ?_)
  · have hf := ip c_3 hf
    refine lv_aload_n hx hb dX7_copy_12 rfl (lv_at hl 1 rfl) ?_
    refine va_get (D := G.1) (ci := 7) (v := .ref now_h) (C := RX7) (T := TX7) (N := 10) hx hb hw inW7 hown hK.1 hP 0 rfl rfl 1 (by decide) (hw _ kw_1_20) (fun _ h9 => h9) rfl dX7_copy_13 ?_
    refine va_getN (D := G.1) (ci := 1) (v := .int now_strings) (C := RX1) (T := TX1) (N := 12) hx hb hw inW1 hown hK.1 hP 2 rfl rfl 6 (by decide) ((nf_18 hK.2).use rfl) (fun _ h9 => h9) rfl dX7_copy_16 ?_
    refine lv_aload_n hx hb dX7_copy_19 rfl (lv_at hl 1 rfl) ?_
    refine va_get (D := G.1) (ci := 7) (v := .ref (t_a 7)) (C := RX7) (T := TX7) (N := 10) hx hb hw inW7 hown hK.1 hP 0 rfl rfl 7 (by decide) (hw _ kw_2_15) (fun _ h9 => h9) rfl dX7_copy_20 ?_
    refine lv_iload_n hx hb dX7_copy_23 rfl (lv_at hl 2 rfl) ?_
    obtain ⟨hi_q, hf⟩ := ckI_in hf
    refine va_aldq hx hb hK.1 hP 1 5 rfl rfl hi_q dX7_copy_24 ?_
    rw [h_row hi_q]
    refine va_getN (D := G.1) (ci := 4) (v := .int row_size) (C := RX4) (T := TX4) (N := 3) hx hb hw inW4 hown hK.1 hP 4 rfl rfl 2 (by decide) ((nf_39 hK.2).use rfl) (fun _ h9 => h9) rfl dX7_copy_25 ?_
    refine va_mmin hx hb (by rw [hml]; exact hl.1.symm) hown (hw _ kw_12_3) (hw _ kw_7_8) (hw _ kw_7_9) (hw _ kw_7_10) (by exact Nat.le_of_ble_eq_true rfl) (by exact Nat.le_of_ble_eq_true rfl) (Nat.zero_le _) (Nat.zero_le _) dX7_copy_28 ?_
    refine lv_topi (fun y_4 ey_4 => ?_)
    have hf := bnd_all hf y_4 ey_4
    refine lv_istore_n (lv' := [(3, .int y_4), (2, .int r_1), (0, .ref t_h), (1, .int v1)]) hx hb dX7_copy_31 rfl hl (by decide) rfl (fun ls hl => ?_)
    refine lv_iconst (v := 0) hx hb dX7_copy_32 (by decide) ?_
    refine lv_istore (lv' := [(4, .int 0), (3, .int y_4), (2, .int r_1), (0, .ref t_h), (1, .int v1)]) hx hb dX7_copy_33 hl (by decide) rfl (fun ls hl => ?_)
    refine L35 _ _ _ _ _ _ _ _ hP hD hS (lv_sub hl [3, 4, 1, 0] rfl) hf (fun row_values_11 H locs ls hP hD hS hl hf => ?_)
    refine lv_iload_n hx hb dX7_copy_70 rfl (lv_at hl 0 rfl) ?_
    exact hRet _ _ _ _ _ _ hf hP hS dX7_copy_71
  · have hf := iq c_3 hf
    refine lv_iload_n hx hb dX7_copy_10 rfl (lv_at hl 0 rfl) ?_
    exact hRet _ _ _ _ _ _ hf hP hS dX7_copy_11
theorem calX7_image : CalV yX7_image cX7_image 2 (some .int) 1 := ⟨⟨kw_49_4, kw_1_2, by decide +kernel⟩, kw_49_2, kw_49_3⟩
set_option maxHeartbeats 8000000 in
set_option maxRecDepth 100000 in
theorem ctX7_image (l : Launch) (G : GT) (t_h : Nat) (t_a : Nat → Nat) (now_h : Nat) (now_a : Nat → Nat) (img_h : Nat) (img_a : Nat → Nat) (rd_h : Nat) (sp_h : Nat) (wy_h : Nat) (gp_h : Nat) (ch_h : Nat) (sb_h : Nat) (t_images : Nat → Option Nat) (t_imageMade : Nat → Int32) (now_windows : Int32) (now_washes : Int32) (now_damp : Int32) (now_heard : Int32) (now_lines : Int32) (now_hour : Int32) (now_strings : Int32) (now_cans : Nat → Int32) (now_washPairs : Nat → Int32) (now_washHours : Nat → Int32) (now_pairs : Nat → Int32) (now_knots : Nat → Int32) (img_windows : Int32) (img_washes : Int32) (img_damp : Int32) (img_heard : Int32) (img_lines : Int32) (img_hour : Int32) (img_strings : Int32) (img_cans : Nat → Int32) (img_washPairs : Nat → Int32) (img_washHours : Nat → Int32) (img_pairs : Nat → Int32) (img_knots : Nat → Int32) (v1 : Int32) (h_img : vp_in v1 2 → va_rf (t_images v1.toNatClampNeg) = .ref img_h) (r : Int32) (o_t_imageMade : Nat → Int32) (o_img_windows : Int32) (o_img_washes : Int32) (o_img_damp : Int32) (o_img_heard : Int32) (o_img_lines : Int32) (o_img_hour : Int32) (o_img_strings : Int32) (o_img_cans : Nat → Int32) (o_img_washPairs : Nat → Int32) (o_img_washHours : Nat → Int32) (o_img_pairs : Nat → Int32) (o_img_knots : Nat → Int32) (hf : fX7_image t_imageMade now_windows now_washes now_damp now_heard now_lines now_hour now_strings now_cans now_washPairs now_washHours now_pairs now_knots img_windows img_washes img_damp img_heard img_lines img_hour img_strings img_cans img_washPairs img_washHours img_pairs img_knots v1 = some (r, o_t_imageMade, o_img_windows, o_img_washes, o_img_damp, o_img_heard, o_img_lines, o_img_hour, o_img_strings, o_img_cans, o_img_washPairs, o_img_washHours, o_img_pairs, o_img_knots)) : WrI l yX7_image (Cond.code yX7_image cX7_image 2 (some .int)) { frames := 2, cells := 0, slots := 0, locals := 85 } G [.ref t_h, .int v1] [oX7 t_h t_a rd_h now_h sp_h wy_h gp_h ch_h sb_h, arC G (t_a 8) 2 t_images, arZ G (t_a 9) 2 t_imageMade, oX1 now_h now_a now_windows now_washes now_damp now_heard now_lines now_hour now_strings, arI G (now_a 7) 12 now_cans, arI G (now_a 8) 8 now_washPairs, arI G (now_a 9) 8 now_washHours, arI G (now_a 10) 21 now_pairs, arI G (now_a 11) 21 now_knots, oX1 img_h img_a img_windows img_washes img_damp img_heard img_lines img_hour img_strings, arI G (img_a 7) 12 img_cans, arI G (img_a 8) 8 img_washPairs, arI G (img_a 9) 8 img_washHours, arI G (img_a 10) 21 img_pairs, arI G (img_a 11) 21 img_knots] [oX7 t_h t_a rd_h now_h sp_h wy_h gp_h ch_h sb_h, arC G (t_a 8) 2 t_images, arZ G (t_a 9) 2 o_t_imageMade, oX1 now_h now_a now_windows now_washes now_damp now_heard now_lines now_hour now_strings, arI G (now_a 7) 12 now_cans, arI G (now_a 8) 8 now_washPairs, arI G (now_a 9) 8 now_washHours, arI G (now_a 10) 21 now_pairs, arI G (now_a 11) 21 now_knots, oX1 img_h img_a o_img_windows o_img_washes o_img_damp o_img_heard o_img_lines o_img_hour o_img_strings, arI G (img_a 7) 12 o_img_cans, arI G (img_a 8) 8 o_img_washPairs, arI G (img_a 9) 8 o_img_washHours, arI G (img_a 10) 21 o_img_pairs, arI G (img_a 11) 21 o_img_knots] r := by
  intro sz
  refine Met.ofW (cc := cX7_image) (maxL := 2) (ret := (some .int)) (by decide) rfl ?_
  intro p e s m args below meth c s₁ B hml hv
  obtain ⟨hargs, hsz, hP, hD0, hK⟩ := hv
  subst hsz
  obtain ⟨hx, hb, hr, hw, hown, hlk⟩ := fwB B
  refine fw_enter hargs (Nat.le_of_ble_eq_true rfl) (fun ls hl => ?_)
  have hl : lv_has ls 2 [(0, .ref t_h), (1, .int v1)] := hl
  refine fw_Q (P := fun Q => ∃ A : Nat → Prop, va_D A [oX7 t_h t_a rd_h now_h sp_h wy_h gp_h ch_h sb_h, arC G (t_a 8) 2 t_images, arZ G (t_a 9) 2 t_imageMade, oX1 now_h now_a now_windows now_washes now_damp now_heard now_lines now_hour now_strings, arI G (now_a 7) 12 now_cans, arI G (now_a 8) 8 now_washPairs, arI G (now_a 9) 8 now_washHours, arI G (now_a 10) 21 now_pairs, arI G (now_a 11) 21 now_knots, oX1 img_h img_a img_windows img_washes img_damp img_heard img_lines img_hour img_strings, arI G (img_a 7) 12 img_cans, arI G (img_a 8) 8 img_washPairs, arI G (img_a 9) 8 img_washHours, arI G (img_a 10) 21 img_pairs, arI G (img_a 11) 21 img_knots] ∧ va_S A s.heap s.heap [] ∧ (∀ q, s.heap.size ≤ q → A q) ∧ ∀ (v : Int32) (n_t_imageMade : Nat → Int32) (n_img_windows : Int32) (n_img_washes : Int32) (n_img_damp : Int32) (n_img_heard : Int32) (n_img_lines : Int32) (n_img_hour : Int32) (n_img_strings : Int32) (n_img_cans : Nat → Int32) (n_img_washPairs : Nat → Int32) (n_img_washHours : Nat → Int32) (n_img_pairs : Nat → Int32) (n_img_knots : Nat → Int32) (H : Heap) (locs : List Loc) (pc : Nat) (ls : Array Slot), some (v, n_t_imageMade, n_img_windows, n_img_washes, n_img_damp, n_img_heard, n_img_lines, n_img_hour, n_img_strings, n_img_cans, n_img_washPairs, n_img_washHours, n_img_pairs, n_img_knots) = some (r, o_t_imageMade, o_img_windows, o_img_washes, o_img_damp, o_img_heard, o_img_lines, o_img_hour, o_img_strings, o_img_cans, o_img_washPairs, o_img_washHours, o_img_pairs, o_img_knots) → va_P G.1 vwCl [oX7 t_h t_a rd_h now_h sp_h wy_h gp_h ch_h sb_h, arC G (t_a 8) 2 t_images, arZ G (t_a 9) 2 n_t_imageMade, oX1 now_h now_a now_windows now_washes now_damp now_heard now_lines now_hour now_strings, arI G (now_a 7) 12 now_cans, arI G (now_a 8) 8 now_washPairs, arI G (now_a 9) 8 now_washHours, arI G (now_a 10) 21 now_pairs, arI G (now_a 11) 21 now_knots, oX1 img_h img_a n_img_windows n_img_washes n_img_damp n_img_heard n_img_lines n_img_hour n_img_strings, arI G (img_a 7) 12 n_img_cans, arI G (img_a 8) 8 n_img_washPairs, arI G (img_a 9) 8 n_img_washHours, arI G (img_a 10) 21 n_img_pairs, arI G (img_a 11) 21 n_img_knots] H → va_S A s.heap H locs → decode cX7_image pc = .ok (.ireturn, 1) → W p l e ({ frames := 2, cells := 0, slots := 0, locals := 85 } : Room) s m args below meth c H locs 0 0 Q (F0 m pc ls [.int v])) ⟨va_A [oX7 t_h t_a rd_h now_h sp_h wy_h gp_h ch_h sb_h, arC G (t_a 8) 2 t_images, arZ G (t_a 9) 2 t_imageMade, oX1 now_h now_a now_windows now_washes now_damp now_heard now_lines now_hour now_strings, arI G (now_a 7) 12 now_cans, arI G (now_a 8) 8 now_washPairs, arI G (now_a 9) 8 now_washHours, arI G (now_a 10) 21 now_pairs, arI G (now_a 11) 21 now_knots, oX1 img_h img_a img_windows img_washes img_damp img_heard img_lines img_hour img_strings, arI G (img_a 7) 12 img_cans, arI G (img_a 8) 8 img_washPairs, arI G (img_a 9) 8 img_washHours, arI G (img_a 10) 21 img_pairs, arI G (img_a 11) 21 img_knots] s.heap.size, hD0.self (sz := s.heap.size), va_S.rf, fun q h => Or.inr h, ?_⟩ ?_
  · intro v n_t_imageMade n_img_windows n_img_washes n_img_damp n_img_heard n_img_lines n_img_hour n_img_strings n_img_cans n_img_washPairs n_img_washHours n_img_pairs n_img_knots H locs pc ls h hP hS hd
    cases h
    exact retWI hx hb hr hlk hS hP rfl hd
  rintro Q ⟨A, hD, hS, hA, hRet⟩
  change W p l e ({ frames := 2, cells := 0, slots := 0, locals := 85 } : Room) s m args below meth c _ _ 0 0 Q _
  unfold fX7_image at hf
  refine lv_iload_n hx hb dX7_image_0 rfl (lv_at hl 1 rfl) ?_
  refine lv_if_lt (tgt := 9) hx hb dX7_image_1 (by decide) (fun c_1 => ?_) (fun c_1 => ?_)
  · have hf := ip c_1 hf
    refine lv_bipush (v := (-2)) hx hb dX7_image_9 (by decide) ?_
    exact hRet _ _ _ _ _ _ _ _ _ _ _ _ _ _ _ _ _ _ hf hP hS dX7_image_11
  · have hf := iq c_1 hf
    refine lv_iload_n hx hb dX7_image_4 rfl (lv_at hl 1 rfl) ?_
    refine lv_iconst (v := 2) hx hb dX7_image_5 (by decide) ?_
    refine lv_icmp_lt (tgt := 12) hx hb dX7_image_6 (by decide) (fun c_2 => ?_) (fun c_2 => ?_)
    · have hf := ip c_2 hf
      refine lv_aload_n hx hb dX7_image_12 rfl (lv_at hl 0 rfl) ?_
      refine va_get (D := G.1) (ci := 7) (v := .ref (t_a 8)) (C := RX7) (T := TX7) (N := 10) hx hb hw inW7 hown hK.1 hP 0 rfl rfl 8 (by decide) (hw _ kw_2_18) (fun _ h9 => h9) rfl dX7_image_13 ?_
      refine lv_iload_n hx hb dX7_image_16 rfl (lv_at hl 1 rfl) ?_
      obtain ⟨hi_q, hf⟩ := ckI_in hf
      refine va_aldq hx hb hK.1 hP 1 4 rfl rfl hi_q dX7_image_17 ?_
      rw [h_img hi_q]
      refine lv_aload_n hx hb dX7_image_18 rfl (lv_at hl 0 rfl) ?_
      refine va_get (D := G.1) (ci := 7) (v := .ref now_h) (C := RX7) (T := TX7) (N := 10) hx hb hw inW7 hown hK.1 hP 0 rfl rfl 1 (by decide) (hw _ kw_1_20) (fun _ h9 => h9) rfl dX7_image_19 ?_
      obtain ⟨img_windows_3, img_washes_4, img_damp_5, img_heard_6, img_lines_7, img_hour_8, img_strings_9, img_cans_10, img_washPairs_11, img_washHours_12, img_pairs_13, img_knots_14, hc_15, hf⟩ := bd12_in hf
      refine wcV (w1 := [oX1 img_h img_a img_windows_3 img_washes_4 img_damp_5 img_heard_6 img_lines_7 img_hour_8 img_strings_9, arI G (img_a 7) 12 img_cans_10, arI G (img_a 8) 8 img_washPairs_11, arI G (img_a 9) 8 img_washHours_12, arI G (img_a 10) 21 img_pairs_13, arI G (img_a 11) 21 img_knots_14, oX1 now_h now_a now_windows now_washes now_damp now_heard now_lines now_hour now_strings, arI G (now_a 7) 12 now_cans, arI G (now_a 8) 8 now_washPairs, arI G (now_a 9) 8 now_washHours, arI G (now_a 10) 21 now_pairs, arI G (now_a 11) 21 now_knots]) (va_runV (As := [.ref now_h]) (rest := []) ⟨hx, hb, hml, hown, hw⟩ ((ctX1_takeFrom l G img_h img_a now_h now_a img_windows img_washes img_damp img_heard img_lines img_hour img_strings img_cans img_washPairs img_washHours img_pairs img_knots now_windows now_washes now_damp now_heard now_lines now_hour now_strings now_cans now_washPairs now_washHours now_pairs now_knots _ _ _ _ _ _ _ _ _ _ _ _ hc_15) _) (kV hw calX1_takeFrom kw_42_13 rfl rfl ⟨Nat.le_of_ble_eq_true rfl, Nat.le_of_ble_eq_true rfl⟩) (wpV (hP.sub (ws' := [oX1 img_h img_a img_windows img_washes img_damp img_heard img_lines img_hour img_strings, arI G (img_a 7) 12 img_cans, arI G (img_a 8) 8 img_washPairs, arI G (img_a 9) 8 img_washHours, arI G (img_a 10) 21 img_pairs, arI G (img_a 11) 21 img_knots, oX1 now_h now_a now_windows now_washes now_damp now_heard now_lines now_hour now_strings, arI G (now_a 7) 12 now_cans, arI G (now_a 8) 8 now_washPairs, arI G (now_a 9) 8 now_washHours, arI G (now_a 10) 21 now_pairs, arI G (now_a 11) 21 now_knots]) [9, 10, 11, 12, 13, 14, 3, 4, 5, 6, 7, 8] rfl) (hD.sub (ws' := [oX1 img_h img_a img_windows img_washes img_damp img_heard img_lines img_hour img_strings, arI G (img_a 7) 12 img_cans, arI G (img_a 8) 8 img_washPairs, arI G (img_a 9) 8 img_washHours, arI G (img_a 10) 21 img_pairs, arI G (img_a 11) 21 img_knots, oX1 now_h now_a now_windows now_washes now_damp now_heard now_lines now_hour now_strings, arI G (now_a 7) 12 now_cans, arI G (now_a 8) 8 now_washPairs, arI G (now_a 9) 8 now_washHours, arI G (now_a 10) 21 now_pairs, arI G (now_a 11) 21 now_knots]) [9, 10, 11, 12, 13, 14, 3, 4, 5, 6, 7, 8] (by decide) rfl) hK (ci := 1) (q0 := 0) rfl rfl) rfl rfl hl.1 rfl (lv_room (Nat.le_of_ble_eq_true rfl)) dX7_image_22 ⟨Nat.zero_le _, Nat.zero_le _⟩) hS hA hP hD [9, 10, 11, 12, 13, 14, 3, 4, 5, 6, 7, 8] rfl rfl (fun H locs hP hD hS => ?_)
      have hP : va_P G.1 vwCl [oX7 t_h t_a rd_h now_h sp_h wy_h gp_h ch_h sb_h, arC G (t_a 8) 2 t_images, arZ G (t_a 9) 2 t_imageMade, oX1 now_h now_a now_windows now_washes now_damp now_heard now_lines now_hour now_strings, arI G (now_a 7) 12 now_cans, arI G (now_a 8) 8 now_washPairs, arI G (now_a 9) 8 now_washHours, arI G (now_a 10) 21 now_pairs, arI G (now_a 11) 21 now_knots, oX1 img_h img_a img_windows_3 img_washes_4 img_damp_5 img_heard_6 img_lines_7 img_hour_8 img_strings_9, arI G (img_a 7) 12 img_cans_10, arI G (img_a 8) 8 img_washPairs_11, arI G (img_a 9) 8 img_washHours_12, arI G (img_a 10) 21 img_pairs_13, arI G (img_a 11) 21 img_knots_14] H := hP
      have hD : va_D A [oX7 t_h t_a rd_h now_h sp_h wy_h gp_h ch_h sb_h, arC G (t_a 8) 2 t_images, arZ G (t_a 9) 2 t_imageMade, oX1 now_h now_a now_windows now_washes now_damp now_heard now_lines now_hour now_strings, arI G (now_a 7) 12 now_cans, arI G (now_a 8) 8 now_washPairs, arI G (now_a 9) 8 now_washHours, arI G (now_a 10) 21 now_pairs, arI G (now_a 11) 21 now_knots, oX1 img_h img_a img_windows_3 img_washes_4 img_damp_5 img_heard_6 img_lines_7 img_hour_8 img_strings_9, arI G (img_a 7) 12 img_cans_10, arI G (img_a 8) 8 img_washPairs_11, arI G (img_a 9) 8 img_washHours_12, arI G (img_a 10) 21 img_pairs_13, arI G (img_a 11) 21 img_knots_14] := hD
      refine lv_aload_n hx hb dX7_image_25 rfl (lv_at hl 0 rfl) ?_
      refine va_get (D := G.1) (ci := 7) (v := .ref (t_a 9)) (C := RX7) (T := TX7) (N := 10) hx hb hw inW7 hown hK.1 hP 0 rfl rfl 9 (by decide) (hw _ kw_2_20) (fun _ h9 => h9) rfl dX7_image_26 ?_
      refine lv_iload_n hx hb dX7_image_29 rfl (lv_at hl 1 rfl) ?_
      refine lv_iconst (v := 1) hx hb dX7_image_30 (by decide) ?_
      obtain ⟨hi_17, hf⟩ := wrI_in hf
      refine xzast hx hb hK.1 hP hD hS 2 3 rfl rfl hi_17 dX7_image_31 (fun t_imageMade_16 H locs et_imageMade_16 hP hD hS => ?_)
      have hf := hf t_imageMade_16 et_imageMade_16
      have hP : va_P G.1 vwCl [oX7 t_h t_a rd_h now_h sp_h wy_h gp_h ch_h sb_h, arC G (t_a 8) 2 t_images, arZ G (t_a 9) 2 t_imageMade_16, oX1 now_h now_a now_windows now_washes now_damp now_heard now_lines now_hour now_strings, arI G (now_a 7) 12 now_cans, arI G (now_a 8) 8 now_washPairs, arI G (now_a 9) 8 now_washHours, arI G (now_a 10) 21 now_pairs, arI G (now_a 11) 21 now_knots, oX1 img_h img_a img_windows_3 img_washes_4 img_damp_5 img_heard_6 img_lines_7 img_hour_8 img_strings_9, arI G (img_a 7) 12 img_cans_10, arI G (img_a 8) 8 img_washPairs_11, arI G (img_a 9) 8 img_washHours_12, arI G (img_a 10) 21 img_pairs_13, arI G (img_a 11) 21 img_knots_14] H := hP
      have hD : va_D A [oX7 t_h t_a rd_h now_h sp_h wy_h gp_h ch_h sb_h, arC G (t_a 8) 2 t_images, arZ G (t_a 9) 2 t_imageMade_16, oX1 now_h now_a now_windows now_washes now_damp now_heard now_lines now_hour now_strings, arI G (now_a 7) 12 now_cans, arI G (now_a 8) 8 now_washPairs, arI G (now_a 9) 8 now_washHours, arI G (now_a 10) 21 now_pairs, arI G (now_a 11) 21 now_knots, oX1 img_h img_a img_windows_3 img_washes_4 img_damp_5 img_heard_6 img_lines_7 img_hour_8 img_strings_9, arI G (img_a 7) 12 img_cans_10, arI G (img_a 8) 8 img_washPairs_11, arI G (img_a 9) 8 img_washHours_12, arI G (img_a 10) 21 img_pairs_13, arI G (img_a 11) 21 img_knots_14] := hD
      refine lv_iconst (v := 0) hx hb dX7_image_32 (by decide) ?_
      exact hRet _ _ _ _ _ _ _ _ _ _ _ _ _ _ _ _ _ _ hf hP hS dX7_image_33
    · have hf := iq c_2 hf
      refine lv_bipush (v := (-2)) hx hb dX7_image_9 (by decide) ?_
      exact hRet _ _ _ _ _ _ _ _ _ _ _ _ _ _ _ _ _ _ hf hP hS dX7_image_11
theorem calX7_restore : CalV yX7_restore cX7_restore 2 (some .int) 1 := ⟨⟨kw_49_12, kw_1_2, by decide +kernel⟩, kw_49_10, kw_49_11⟩
set_option maxHeartbeats 8000000 in
set_option maxRecDepth 100000 in
theorem ctX7_restore (l : Launch) (G : GT) (t_h : Nat) (t_a : Nat → Nat) (now_h : Nat) (now_a : Nat → Nat) (img_h : Nat) (img_a : Nat → Nat) (rd_h : Nat) (sp_h : Nat) (wy_h : Nat) (gp_h : Nat) (ch_h : Nat) (sb_h : Nat) (t_images : Nat → Option Nat) (t_imageMade : Nat → Int32) (now_windows : Int32) (now_washes : Int32) (now_damp : Int32) (now_heard : Int32) (now_lines : Int32) (now_hour : Int32) (now_strings : Int32) (now_cans : Nat → Int32) (now_washPairs : Nat → Int32) (now_washHours : Nat → Int32) (now_pairs : Nat → Int32) (now_knots : Nat → Int32) (img_windows : Int32) (img_washes : Int32) (img_damp : Int32) (img_heard : Int32) (img_lines : Int32) (img_hour : Int32) (img_strings : Int32) (img_cans : Nat → Int32) (img_washPairs : Nat → Int32) (img_washHours : Nat → Int32) (img_pairs : Nat → Int32) (img_knots : Nat → Int32) (v1 : Int32) (h_img : vp_in v1 2 → va_rf (t_images v1.toNatClampNeg) = .ref img_h) (r : Int32) (o_now_windows : Int32) (o_now_washes : Int32) (o_now_damp : Int32) (o_now_heard : Int32) (o_now_lines : Int32) (o_now_hour : Int32) (o_now_strings : Int32) (o_now_cans : Nat → Int32) (o_now_washPairs : Nat → Int32) (o_now_washHours : Nat → Int32) (o_now_pairs : Nat → Int32) (o_now_knots : Nat → Int32) (hf : fX7_restore t_imageMade now_windows now_washes now_damp now_heard now_lines now_hour now_strings now_cans now_washPairs now_washHours now_pairs now_knots img_windows img_washes img_damp img_heard img_lines img_hour img_strings img_cans img_washPairs img_washHours img_pairs img_knots v1 = some (r, o_now_windows, o_now_washes, o_now_damp, o_now_heard, o_now_lines, o_now_hour, o_now_strings, o_now_cans, o_now_washPairs, o_now_washHours, o_now_pairs, o_now_knots)) : WrI l yX7_restore (Cond.code yX7_restore cX7_restore 2 (some .int)) { frames := 2, cells := 0, slots := 0, locals := 85 } G [.ref t_h, .int v1] [oX7 t_h t_a rd_h now_h sp_h wy_h gp_h ch_h sb_h, arC G (t_a 8) 2 t_images, arZ G (t_a 9) 2 t_imageMade, oX1 now_h now_a now_windows now_washes now_damp now_heard now_lines now_hour now_strings, arI G (now_a 7) 12 now_cans, arI G (now_a 8) 8 now_washPairs, arI G (now_a 9) 8 now_washHours, arI G (now_a 10) 21 now_pairs, arI G (now_a 11) 21 now_knots, oX1 img_h img_a img_windows img_washes img_damp img_heard img_lines img_hour img_strings, arI G (img_a 7) 12 img_cans, arI G (img_a 8) 8 img_washPairs, arI G (img_a 9) 8 img_washHours, arI G (img_a 10) 21 img_pairs, arI G (img_a 11) 21 img_knots] [oX7 t_h t_a rd_h now_h sp_h wy_h gp_h ch_h sb_h, arC G (t_a 8) 2 t_images, arZ G (t_a 9) 2 t_imageMade, oX1 now_h now_a o_now_windows o_now_washes o_now_damp o_now_heard o_now_lines o_now_hour o_now_strings, arI G (now_a 7) 12 o_now_cans, arI G (now_a 8) 8 o_now_washPairs, arI G (now_a 9) 8 o_now_washHours, arI G (now_a 10) 21 o_now_pairs, arI G (now_a 11) 21 o_now_knots, oX1 img_h img_a img_windows img_washes img_damp img_heard img_lines img_hour img_strings, arI G (img_a 7) 12 img_cans, arI G (img_a 8) 8 img_washPairs, arI G (img_a 9) 8 img_washHours, arI G (img_a 10) 21 img_pairs, arI G (img_a 11) 21 img_knots] r := by
  intro sz
  refine Met.ofW (cc := cX7_restore) (maxL := 2) (ret := (some .int)) (by decide) rfl ?_
  intro p e s m args below meth c s₁ B hml hv
  obtain ⟨hargs, hsz, hP, hD0, hK⟩ := hv
  subst hsz
  obtain ⟨hx, hb, hr, hw, hown, hlk⟩ := fwB B
  refine fw_enter hargs (Nat.le_of_ble_eq_true rfl) (fun ls hl => ?_)
  have hl : lv_has ls 2 [(0, .ref t_h), (1, .int v1)] := hl
  refine fw_Q (P := fun Q => ∃ A : Nat → Prop, va_D A [oX7 t_h t_a rd_h now_h sp_h wy_h gp_h ch_h sb_h, arC G (t_a 8) 2 t_images, arZ G (t_a 9) 2 t_imageMade, oX1 now_h now_a now_windows now_washes now_damp now_heard now_lines now_hour now_strings, arI G (now_a 7) 12 now_cans, arI G (now_a 8) 8 now_washPairs, arI G (now_a 9) 8 now_washHours, arI G (now_a 10) 21 now_pairs, arI G (now_a 11) 21 now_knots, oX1 img_h img_a img_windows img_washes img_damp img_heard img_lines img_hour img_strings, arI G (img_a 7) 12 img_cans, arI G (img_a 8) 8 img_washPairs, arI G (img_a 9) 8 img_washHours, arI G (img_a 10) 21 img_pairs, arI G (img_a 11) 21 img_knots] ∧ va_S A s.heap s.heap [] ∧ (∀ q, s.heap.size ≤ q → A q) ∧ ∀ (v : Int32) (n_now_windows : Int32) (n_now_washes : Int32) (n_now_damp : Int32) (n_now_heard : Int32) (n_now_lines : Int32) (n_now_hour : Int32) (n_now_strings : Int32) (n_now_cans : Nat → Int32) (n_now_washPairs : Nat → Int32) (n_now_washHours : Nat → Int32) (n_now_pairs : Nat → Int32) (n_now_knots : Nat → Int32) (H : Heap) (locs : List Loc) (pc : Nat) (ls : Array Slot), some (v, n_now_windows, n_now_washes, n_now_damp, n_now_heard, n_now_lines, n_now_hour, n_now_strings, n_now_cans, n_now_washPairs, n_now_washHours, n_now_pairs, n_now_knots) = some (r, o_now_windows, o_now_washes, o_now_damp, o_now_heard, o_now_lines, o_now_hour, o_now_strings, o_now_cans, o_now_washPairs, o_now_washHours, o_now_pairs, o_now_knots) → va_P G.1 vwCl [oX7 t_h t_a rd_h now_h sp_h wy_h gp_h ch_h sb_h, arC G (t_a 8) 2 t_images, arZ G (t_a 9) 2 t_imageMade, oX1 now_h now_a n_now_windows n_now_washes n_now_damp n_now_heard n_now_lines n_now_hour n_now_strings, arI G (now_a 7) 12 n_now_cans, arI G (now_a 8) 8 n_now_washPairs, arI G (now_a 9) 8 n_now_washHours, arI G (now_a 10) 21 n_now_pairs, arI G (now_a 11) 21 n_now_knots, oX1 img_h img_a img_windows img_washes img_damp img_heard img_lines img_hour img_strings, arI G (img_a 7) 12 img_cans, arI G (img_a 8) 8 img_washPairs, arI G (img_a 9) 8 img_washHours, arI G (img_a 10) 21 img_pairs, arI G (img_a 11) 21 img_knots] H → va_S A s.heap H locs → decode cX7_restore pc = .ok (.ireturn, 1) → W p l e ({ frames := 2, cells := 0, slots := 0, locals := 85 } : Room) s m args below meth c H locs 0 0 Q (F0 m pc ls [.int v])) ⟨va_A [oX7 t_h t_a rd_h now_h sp_h wy_h gp_h ch_h sb_h, arC G (t_a 8) 2 t_images, arZ G (t_a 9) 2 t_imageMade, oX1 now_h now_a now_windows now_washes now_damp now_heard now_lines now_hour now_strings, arI G (now_a 7) 12 now_cans, arI G (now_a 8) 8 now_washPairs, arI G (now_a 9) 8 now_washHours, arI G (now_a 10) 21 now_pairs, arI G (now_a 11) 21 now_knots, oX1 img_h img_a img_windows img_washes img_damp img_heard img_lines img_hour img_strings, arI G (img_a 7) 12 img_cans, arI G (img_a 8) 8 img_washPairs, arI G (img_a 9) 8 img_washHours, arI G (img_a 10) 21 img_pairs, arI G (img_a 11) 21 img_knots] s.heap.size, hD0.self (sz := s.heap.size), va_S.rf, fun q h => Or.inr h, ?_⟩ ?_
  · intro v n_now_windows n_now_washes n_now_damp n_now_heard n_now_lines n_now_hour n_now_strings n_now_cans n_now_washPairs n_now_washHours n_now_pairs n_now_knots H locs pc ls h hP hS hd
    cases h
    exact retWI hx hb hr hlk hS hP rfl hd
  rintro Q ⟨A, hD, hS, hA, hRet⟩
  change W p l e ({ frames := 2, cells := 0, slots := 0, locals := 85 } : Room) s m args below meth c _ _ 0 0 Q _
  unfold fX7_restore at hf
  refine lv_iload_n hx hb dX7_restore_0 rfl (lv_at hl 1 rfl) ?_
  refine lv_if_lt (tgt := 9) hx hb dX7_restore_1 (by decide) (fun c_1 => ?_) (fun c_1 => ?_)
  · have hf := ip c_1 hf
    refine lv_bipush (v := (-2)) hx hb dX7_restore_9 (by decide) ?_
    exact hRet _ _ _ _ _ _ _ _ _ _ _ _ _ _ _ _ _ hf hP hS dX7_restore_11
  · have hf := iq c_1 hf
    refine lv_iload_n hx hb dX7_restore_4 rfl (lv_at hl 1 rfl) ?_
    refine lv_iconst (v := 2) hx hb dX7_restore_5 (by decide) ?_
    refine lv_icmp_lt (tgt := 12) hx hb dX7_restore_6 (by decide) (fun c_2 => ?_) (fun c_2 => ?_)
    · have hf := ip c_2 hf
      refine lv_aload_n hx hb dX7_restore_12 rfl (lv_at hl 0 rfl) ?_
      refine va_get (D := G.1) (ci := 7) (v := .ref (t_a 9)) (C := RX7) (T := TX7) (N := 10) hx hb hw inW7 hown hK.1 hP 0 rfl rfl 9 (by decide) (hw _ kw_2_20) (fun _ h9 => h9) rfl dX7_restore_13 ?_
      refine lv_iload_n hx hb dX7_restore_16 rfl (lv_at hl 1 rfl) ?_
      obtain ⟨hi_4, hf⟩ := rdI_in hf
      refine va_zald hx hb hK.1 hP 2 3 rfl rfl hi_4 dX7_restore_17 ?_
      refine lv_topi (fun x_3 ex_3 => ?_)
      have hf := hf x_3 ex_3
      refine lv_if_ne (tgt := 24) hx hb dX7_restore_18 (by decide) (fun c_5 => ?_) (fun c_5 => ?_)
      · have hf := iq c_5 hf
        refine lv_aload_n hx hb dX7_restore_24 rfl (lv_at hl 0 rfl) ?_
        refine va_get (D := G.1) (ci := 7) (v := .ref now_h) (C := RX7) (T := TX7) (N := 10) hx hb hw inW7 hown hK.1 hP 0 rfl rfl 1 (by decide) (hw _ kw_1_20) (fun _ h9 => h9) rfl dX7_restore_25 ?_
        refine lv_aload_n hx hb dX7_restore_28 rfl (lv_at hl 0 rfl) ?_
        refine va_get (D := G.1) (ci := 7) (v := .ref (t_a 8)) (C := RX7) (T := TX7) (N := 10) hx hb hw inW7 hown hK.1 hP 0 rfl rfl 8 (by decide) (hw _ kw_2_18) (fun _ h9 => h9) rfl dX7_restore_29 ?_
        refine lv_iload_n hx hb dX7_restore_32 rfl (lv_at hl 1 rfl) ?_
        obtain ⟨hi_q, hf⟩ := ckI_in hf
        refine va_aldq hx hb hK.1 hP 1 4 rfl rfl hi_q dX7_restore_33 ?_
        rw [h_img hi_q]
        obtain ⟨now_windows_6, now_washes_7, now_damp_8, now_heard_9, now_lines_10, now_hour_11, now_strings_12, now_cans_13, now_washPairs_14, now_washHours_15, now_pairs_16, now_knots_17, hc_18, hf⟩ := bd12_in hf
        refine wcV (w1 := [oX1 now_h now_a now_windows_6 now_washes_7 now_damp_8 now_heard_9 now_lines_10 now_hour_11 now_strings_12, arI G (now_a 7) 12 now_cans_13, arI G (now_a 8) 8 now_washPairs_14, arI G (now_a 9) 8 now_washHours_15, arI G (now_a 10) 21 now_pairs_16, arI G (now_a 11) 21 now_knots_17, oX1 img_h img_a img_windows img_washes img_damp img_heard img_lines img_hour img_strings, arI G (img_a 7) 12 img_cans, arI G (img_a 8) 8 img_washPairs, arI G (img_a 9) 8 img_washHours, arI G (img_a 10) 21 img_pairs, arI G (img_a 11) 21 img_knots]) (va_runV (As := [.ref img_h]) (rest := []) ⟨hx, hb, hml, hown, hw⟩ ((ctX1_takeFrom l G now_h now_a img_h img_a now_windows now_washes now_damp now_heard now_lines now_hour now_strings now_cans now_washPairs now_washHours now_pairs now_knots img_windows img_washes img_damp img_heard img_lines img_hour img_strings img_cans img_washPairs img_washHours img_pairs img_knots _ _ _ _ _ _ _ _ _ _ _ _ hc_18) _) (kV hw calX1_takeFrom kw_42_13 rfl rfl ⟨Nat.le_of_ble_eq_true rfl, Nat.le_of_ble_eq_true rfl⟩) (wpV (hP.sub (ws' := [oX1 now_h now_a now_windows now_washes now_damp now_heard now_lines now_hour now_strings, arI G (now_a 7) 12 now_cans, arI G (now_a 8) 8 now_washPairs, arI G (now_a 9) 8 now_washHours, arI G (now_a 10) 21 now_pairs, arI G (now_a 11) 21 now_knots, oX1 img_h img_a img_windows img_washes img_damp img_heard img_lines img_hour img_strings, arI G (img_a 7) 12 img_cans, arI G (img_a 8) 8 img_washPairs, arI G (img_a 9) 8 img_washHours, arI G (img_a 10) 21 img_pairs, arI G (img_a 11) 21 img_knots]) [3, 4, 5, 6, 7, 8, 9, 10, 11, 12, 13, 14] rfl) (hD.sub (ws' := [oX1 now_h now_a now_windows now_washes now_damp now_heard now_lines now_hour now_strings, arI G (now_a 7) 12 now_cans, arI G (now_a 8) 8 now_washPairs, arI G (now_a 9) 8 now_washHours, arI G (now_a 10) 21 now_pairs, arI G (now_a 11) 21 now_knots, oX1 img_h img_a img_windows img_washes img_damp img_heard img_lines img_hour img_strings, arI G (img_a 7) 12 img_cans, arI G (img_a 8) 8 img_washPairs, arI G (img_a 9) 8 img_washHours, arI G (img_a 10) 21 img_pairs, arI G (img_a 11) 21 img_knots]) [3, 4, 5, 6, 7, 8, 9, 10, 11, 12, 13, 14] (by decide) rfl) hK (ci := 1) (q0 := 0) rfl rfl) rfl rfl hl.1 rfl (lv_room (Nat.le_of_ble_eq_true rfl)) dX7_restore_34 ⟨Nat.zero_le _, Nat.zero_le _⟩) hS hA hP hD [3, 4, 5, 6, 7, 8, 9, 10, 11, 12, 13, 14] rfl rfl (fun H locs hP hD hS => ?_)
        have hP : va_P G.1 vwCl [oX7 t_h t_a rd_h now_h sp_h wy_h gp_h ch_h sb_h, arC G (t_a 8) 2 t_images, arZ G (t_a 9) 2 t_imageMade, oX1 now_h now_a now_windows_6 now_washes_7 now_damp_8 now_heard_9 now_lines_10 now_hour_11 now_strings_12, arI G (now_a 7) 12 now_cans_13, arI G (now_a 8) 8 now_washPairs_14, arI G (now_a 9) 8 now_washHours_15, arI G (now_a 10) 21 now_pairs_16, arI G (now_a 11) 21 now_knots_17, oX1 img_h img_a img_windows img_washes img_damp img_heard img_lines img_hour img_strings, arI G (img_a 7) 12 img_cans, arI G (img_a 8) 8 img_washPairs, arI G (img_a 9) 8 img_washHours, arI G (img_a 10) 21 img_pairs, arI G (img_a 11) 21 img_knots] H := hP
        have hD : va_D A [oX7 t_h t_a rd_h now_h sp_h wy_h gp_h ch_h sb_h, arC G (t_a 8) 2 t_images, arZ G (t_a 9) 2 t_imageMade, oX1 now_h now_a now_windows_6 now_washes_7 now_damp_8 now_heard_9 now_lines_10 now_hour_11 now_strings_12, arI G (now_a 7) 12 now_cans_13, arI G (now_a 8) 8 now_washPairs_14, arI G (now_a 9) 8 now_washHours_15, arI G (now_a 10) 21 now_pairs_16, arI G (now_a 11) 21 now_knots_17, oX1 img_h img_a img_windows img_washes img_damp img_heard img_lines img_hour img_strings, arI G (img_a 7) 12 img_cans, arI G (img_a 8) 8 img_washPairs, arI G (img_a 9) 8 img_washHours, arI G (img_a 10) 21 img_pairs, arI G (img_a 11) 21 img_knots] := hD
        refine lv_iconst (v := 0) hx hb dX7_restore_37 (by decide) ?_
        exact hRet _ _ _ _ _ _ _ _ _ _ _ _ _ _ _ _ _ hf hP hS dX7_restore_38
      · have hf := ip c_5 hf
        refine lv_bipush (v := (-5)) hx hb dX7_restore_21 (by decide) ?_
        exact hRet _ _ _ _ _ _ _ _ _ _ _ _ _ _ _ _ _ hf hP hS dX7_restore_23
    · have hf := iq c_2 hf
      refine lv_bipush (v := (-2)) hx hb dX7_restore_9 (by decide) ?_
      exact hRet _ _ _ _ _ _ _ _ _ _ _ _ _ _ _ _ _ hf hP hS dX7_restore_11
theorem calX7_count : CalV yX7_count cX7_count 2 (some .int) 1 := ⟨⟨kw_49_20, kw_1_2, by decide +kernel⟩, kw_49_18, kw_49_19⟩
set_option maxHeartbeats 8000000 in
set_option maxRecDepth 100000 in
theorem ctX7_count (l : Launch) (G : GT) (t_h : Nat) (t_a : Nat → Nat) (rd_h : Nat) (rd_a : Nat → Nat) (now_h : Nat) (now_a : Nat → Nat) (sp_h : Nat) (wy_h : Nat) (gp_h : Nat) (ch_h : Nat) (sb_h : Nat) (rd_taped : Int32) (rd_length : Int32) (rd_at : Int32) (rd_kind : Int32) (rd_start : Int32) (rd_value : Int32) (rd_fault : Int32) (rd_place : Int32) (now_windows : Int32) (now_washes : Int32) (now_damp : Int32) (now_heard : Int32) (now_lines : Int32) (now_hour : Int32) (now_strings : Int32) (now_washPairs : Nat → Int32) (now_washHours : Nat → Int32) (now_pairs : Nat → Int32) (v1 : Int32) (r : Int32) (hf : fX7_count rd_taped now_windows now_washes now_damp now_heard now_lines now_hour now_strings now_washPairs now_washHours now_pairs v1 = some r) : RdI l yX7_count (Cond.code yX7_count cX7_count 2 (some .int)) { frames := 4, cells := 0, slots := 0, locals := 92 } G [.ref t_h, .int v1] [oX7 t_h t_a rd_h now_h sp_h wy_h gp_h ch_h sb_h, oX3 rd_h rd_a rd_taped rd_length rd_at rd_kind rd_start rd_value rd_fault rd_place, oX1 now_h now_a now_windows now_washes now_damp now_heard now_lines now_hour now_strings, arI G (now_a 8) 8 now_washPairs, arI G (now_a 9) 8 now_washHours, arI G (now_a 10) 21 now_pairs] r := by
  intro sz
  refine Met.ofW (cc := cX7_count) (maxL := 2) (ret := (some .int)) (by decide) rfl ?_
  intro p e s m args below meth c s₁ B hml hv
  obtain ⟨hargs, hsz, hP, hK⟩ := hv
  subst hsz
  obtain ⟨hx, hb, hr, hw, hown, hlk⟩ := fwB B
  refine fw_enter hargs (Nat.le_of_ble_eq_true rfl) (fun ls hl => ?_)
  have hl : lv_has ls 2 [(0, .ref t_h), (1, .int v1)] := hl
  refine fw_Q (P := fun Q => ∃ A : Nat → Prop, va_S A s.heap s.heap [] ∧ (∀ q, s.heap.size ≤ q → A q) ∧ ∀ (v : Int32) (H : Heap) (locs : List Loc) (pc : Nat) (ls : Array Slot), some v = some r → va_S A s.heap H locs → decode cX7_count pc = .ok (.ireturn, 1) → W p l e ({ frames := 4, cells := 0, slots := 0, locals := 92 } : Room) s m args below meth c H locs 0 0 Q (F0 m pc ls [.int v])) ⟨fun q => s.heap.size ≤ q, va_S.rf, fun q h => h, fun v H locs pc ls h hS hd => retRI hx hb hr hlk hS h hd⟩ ?_
  rintro Q ⟨A, hS, hA, hRet⟩
  change W p l e ({ frames := 4, cells := 0, slots := 0, locals := 92 } : Room) s m args below meth c _ _ 0 0 Q _
  unfold fX7_count at hf
  refine lv_iload_n hx hb dX7_count_0 rfl (lv_at hl 1 rfl) ?_
  by_cases c_1 : v1 = 0
  · have hf := ip c_1 hf
    refine lv_tableIn (tgt := 56) hx hb dX7_count_1 (by rw [c_1]; decide) (by rw [c_1]; decide) (by rw [c_1]; rfl) (by decide) ?_
    refine lv_aload_n hx hb dX7_count_56 rfl (lv_at hl 0 rfl) ?_
    refine va_get (D := G.1) (ci := 7) (v := .ref now_h) (C := RX7) (T := TX7) (N := 10) hx hb hw inW7 hown hK.1 hP 0 rfl rfl 1 (by decide) (hw _ kw_1_20) (fun _ h9 => h9) rfl dX7_count_57 ?_
    refine va_getN (D := G.1) (ci := 1) (v := .int now_windows) (C := RX1) (T := TX1) (N := 12) hx hb hw inW1 hown hK.1 hP 2 rfl rfl 0 (by decide) ((nf_6 hK.2).use rfl) (fun _ h9 => h9) rfl dX7_count_60 ?_
    exact hRet _ _ _ _ _ hf hS dX7_count_63
  have hf := iq c_1 hf
  by_cases c_2 : v1 = 1
  · have hf := ip c_2 hf
    refine lv_tableIn (tgt := 64) hx hb dX7_count_1 (by rw [c_2]; decide) (by rw [c_2]; decide) (by rw [c_2]; rfl) (by decide) ?_
    refine lv_aload_n hx hb dX7_count_64 rfl (lv_at hl 0 rfl) ?_
    refine va_get (D := G.1) (ci := 7) (v := .ref now_h) (C := RX7) (T := TX7) (N := 10) hx hb hw inW7 hown hK.1 hP 0 rfl rfl 1 (by decide) (hw _ kw_1_20) (fun _ h9 => h9) rfl dX7_count_65 ?_
    refine va_getN (D := G.1) (ci := 1) (v := .int now_strings) (C := RX1) (T := TX1) (N := 12) hx hb hw inW1 hown hK.1 hP 2 rfl rfl 6 (by decide) ((nf_18 hK.2).use rfl) (fun _ h9 => h9) rfl dX7_count_68 ?_
    exact hRet _ _ _ _ _ hf hS dX7_count_71
  have hf := iq c_2 hf
  by_cases c_3 : v1 = 2
  · have hf := ip c_3 hf
    refine lv_tableIn (tgt := 72) hx hb dX7_count_1 (by rw [c_3]; decide) (by rw [c_3]; decide) (by rw [c_3]; rfl) (by decide) ?_
    refine lv_aload_n hx hb dX7_count_72 rfl (lv_at hl 0 rfl) ?_
    refine va_get (D := G.1) (ci := 7) (v := .ref now_h) (C := RX7) (T := TX7) (N := 10) hx hb hw inW7 hown hK.1 hP 0 rfl rfl 1 (by decide) (hw _ kw_1_20) (fun _ h9 => h9) rfl dX7_count_73 ?_
    refine va_getN (D := G.1) (ci := 1) (v := .int now_hour) (C := RX1) (T := TX1) (N := 12) hx hb hw inW1 hown hK.1 hP 2 rfl rfl 5 (by decide) ((nf_16 hK.2).use rfl) (fun _ h9 => h9) rfl dX7_count_76 ?_
    exact hRet _ _ _ _ _ hf hS dX7_count_79
  have hf := iq c_3 hf
  by_cases c_4 : v1 = 3
  · have hf := ip c_4 hf
    refine lv_tableIn (tgt := 80) hx hb dX7_count_1 (by rw [c_4]; decide) (by rw [c_4]; decide) (by rw [c_4]; rfl) (by decide) ?_
    refine lv_aload_n hx hb dX7_count_80 rfl (lv_at hl 0 rfl) ?_
    refine va_get (D := G.1) (ci := 7) (v := .ref now_h) (C := RX7) (T := TX7) (N := 10) hx hb hw inW7 hown hK.1 hP 0 rfl rfl 1 (by decide) (hw _ kw_1_20) (fun _ h9 => h9) rfl dX7_count_81 ?_
    refine va_getN (D := G.1) (ci := 1) (v := .int now_damp) (C := RX1) (T := TX1) (N := 12) hx hb hw inW1 hown hK.1 hP 2 rfl rfl 2 (by decide) ((nf_10 hK.2).use rfl) (fun _ h9 => h9) rfl dX7_count_84 ?_
    exact hRet _ _ _ _ _ hf hS dX7_count_87
  have hf := iq c_4 hf
  by_cases c_5 : v1 = 4
  · have hf := ip c_5 hf
    refine lv_tableIn (tgt := 88) hx hb dX7_count_1 (by rw [c_5]; decide) (by rw [c_5]; decide) (by rw [c_5]; rfl) (by decide) ?_
    refine lv_aload_n hx hb dX7_count_88 rfl (lv_at hl 0 rfl) ?_
    refine va_get (D := G.1) (ci := 7) (v := .ref now_h) (C := RX7) (T := TX7) (N := 10) hx hb hw inW7 hown hK.1 hP 0 rfl rfl 1 (by decide) (hw _ kw_1_20) (fun _ h9 => h9) rfl dX7_count_89 ?_
    refine va_getN (D := G.1) (ci := 1) (v := .int now_heard) (C := RX1) (T := TX1) (N := 12) hx hb hw inW1 hown hK.1 hP 2 rfl rfl 3 (by decide) ((nf_13 hK.2).use rfl) (fun _ h9 => h9) rfl dX7_count_92 ?_
    exact hRet _ _ _ _ _ hf hS dX7_count_95
  have hf := iq c_5 hf
  by_cases c_6 : v1 = 5
  · have hf := ip c_6 hf
    refine lv_tableIn (tgt := 96) hx hb dX7_count_1 (by rw [c_6]; decide) (by rw [c_6]; decide) (by rw [c_6]; rfl) (by decide) ?_
    refine lv_aload_n hx hb dX7_count_96 rfl (lv_at hl 0 rfl) ?_
    refine va_get (D := G.1) (ci := 7) (v := .ref now_h) (C := RX7) (T := TX7) (N := 10) hx hb hw inW7 hown hK.1 hP 0 rfl rfl 1 (by decide) (hw _ kw_1_20) (fun _ h9 => h9) rfl dX7_count_97 ?_
    refine va_getN (D := G.1) (ci := 1) (v := .int now_washes) (C := RX1) (T := TX1) (N := 12) hx hb hw inW1 hown hK.1 hP 2 rfl rfl 1 (by decide) ((nf_8 hK.2).use rfl) (fun _ h9 => h9) rfl dX7_count_100 ?_
    exact hRet _ _ _ _ _ hf hS dX7_count_103
  have hf := iq c_6 hf
  by_cases c_7 : v1 = 6
  · have hf := ip c_7 hf
    refine lv_tableIn (tgt := 104) hx hb dX7_count_1 (by rw [c_7]; decide) (by rw [c_7]; decide) (by rw [c_7]; rfl) (by decide) ?_
    refine lv_aload_n hx hb dX7_count_104 rfl (lv_at hl 0 rfl) ?_
    refine va_get (D := G.1) (ci := 7) (v := .ref now_h) (C := RX7) (T := TX7) (N := 10) hx hb hw inW7 hown hK.1 hP 0 rfl rfl 1 (by decide) (hw _ kw_1_20) (fun _ h9 => h9) rfl dX7_count_105 ?_
    obtain ⟨r_8, hc_9, hf⟩ := bd1_in hf
    refine rcI (va_runV (As := []) (rest := []) ⟨hx, hb, hml, hown, hw⟩ ((ctX1_slackStrings l G now_h now_a now_windows now_washes now_damp now_heard now_lines now_hour now_strings now_washPairs now_washHours now_pairs _ hc_9) _) (kV hw calX1_slackStrings kw_49_21 rfl rfl ⟨Nat.le_of_ble_eq_true rfl, Nat.le_of_ble_eq_true rfl⟩) (rpV (hP.sub (ws' := [oX1 now_h now_a now_windows now_washes now_damp now_heard now_lines now_hour now_strings, arI G (now_a 8) 8 now_washPairs, arI G (now_a 9) 8 now_washHours, arI G (now_a 10) 21 now_pairs]) [2, 3, 4, 5] rfl) hK (ci := 1) (q0 := 0) rfl rfl) rfl rfl hl.1 rfl (lv_room (Nat.le_of_ble_eq_true rfl)) dX7_count_108 ⟨Nat.zero_le _, Nat.zero_le _⟩) hS hA hP (fun H locs hP hS => ?_)
    exact hRet _ _ _ _ _ hf hS dX7_count_111
  have hf := iq c_7 hf
  by_cases c_10 : v1 = 7
  · have hf := ip c_10 hf
    refine lv_tableIn (tgt := 112) hx hb dX7_count_1 (by rw [c_10]; decide) (by rw [c_10]; decide) (by rw [c_10]; rfl) (by decide) ?_
    refine lv_aload_n hx hb dX7_count_112 rfl (lv_at hl 0 rfl) ?_
    refine va_get (D := G.1) (ci := 7) (v := .ref now_h) (C := RX7) (T := TX7) (N := 10) hx hb hw inW7 hown hK.1 hP 0 rfl rfl 1 (by decide) (hw _ kw_1_20) (fun _ h9 => h9) rfl dX7_count_113 ?_
    obtain ⟨r_11, hc_12, hf⟩ := bd1_in hf
    refine rcI (va_runV (As := []) (rest := []) ⟨hx, hb, hml, hown, hw⟩ ((ctX1_lengthOfStrings l G now_h now_a now_windows now_washes now_damp now_heard now_lines now_hour now_strings now_pairs _ hc_12) _) (kV hw calX1_lengthOfStrings kw_50_1 rfl rfl ⟨Nat.le_of_ble_eq_true rfl, Nat.le_of_ble_eq_true rfl⟩) (rpV (hP.sub (ws' := [oX1 now_h now_a now_windows now_washes now_damp now_heard now_lines now_hour now_strings, arI G (now_a 10) 21 now_pairs]) [2, 5] rfl) hK (ci := 1) (q0 := 0) rfl rfl) rfl rfl hl.1 rfl (lv_room (Nat.le_of_ble_eq_true rfl)) dX7_count_116 ⟨Nat.zero_le _, Nat.zero_le _⟩) hS hA hP (fun H locs hP hS => ?_)
    exact hRet _ _ _ _ _ hf hS dX7_count_119
  have hf := iq c_10 hf
  by_cases c_13 : v1 = 8
  · have hf := ip c_13 hf
    refine lv_tableIn (tgt := 120) hx hb dX7_count_1 (by rw [c_13]; decide) (by rw [c_13]; decide) (by rw [c_13]; rfl) (by decide) ?_
    refine lv_aload_n hx hb dX7_count_120 rfl (lv_at hl 0 rfl) ?_
    refine va_get (D := G.1) (ci := 7) (v := .ref rd_h) (C := RX7) (T := TX7) (N := 10) hx hb hw inW7 hown hK.1 hP 0 rfl rfl 0 (by decide) (hw _ kw_1_16) (fun _ h9 => h9) rfl dX7_count_121 ?_
    refine va_getN (D := G.1) (ci := 3) (v := .int rd_taped) (C := RX3) (T := TX3) (N := 9) hx hb hw inW3 hown hK.1 hP 1 rfl rfl 1 (by decide) ((nf_0 hK.2).use rfl) (fun _ h9 => h9) rfl dX7_count_124 ?_
    exact hRet _ _ _ _ _ hf hS dX7_count_127
  have hf := iq c_13 hf
  by_cases c_14 : v1 = 9
  · have hf := ip c_14 hf
    refine lv_tableIn (tgt := 128) hx hb dX7_count_1 (by rw [c_14]; decide) (by rw [c_14]; decide) (by rw [c_14]; rfl) (by decide) ?_
    refine lv_aload_n hx hb dX7_count_128 rfl (lv_at hl 0 rfl) ?_
    refine va_get (D := G.1) (ci := 7) (v := .ref now_h) (C := RX7) (T := TX7) (N := 10) hx hb hw inW7 hown hK.1 hP 0 rfl rfl 1 (by decide) (hw _ kw_1_20) (fun _ h9 => h9) rfl dX7_count_129 ?_
    refine va_getN (D := G.1) (ci := 1) (v := .int now_lines) (C := RX1) (T := TX1) (N := 12) hx hb hw inW1 hown hK.1 hP 2 rfl rfl 4 (by decide) ((nf_14 hK.2).use rfl) (fun _ h9 => h9) rfl dX7_count_132 ?_
    exact hRet _ _ _ _ _ hf hS dX7_count_135
  have hf := iq c_14 hf
  refine lv_tableOut (tgt := 136) hx hb dX7_count_1 (by have c_1_t : (v1 : Int32).toInt ≠ 0 := ne_toInt c_1; have c_2_t : (v1 : Int32).toInt ≠ 1 := ne_toInt c_2; have c_3_t : (v1 : Int32).toInt ≠ 2 := ne_toInt c_3; have c_4_t : (v1 : Int32).toInt ≠ 3 := ne_toInt c_4; have c_5_t : (v1 : Int32).toInt ≠ 4 := ne_toInt c_5; have c_6_t : (v1 : Int32).toInt ≠ 5 := ne_toInt c_6; have c_7_t : (v1 : Int32).toInt ≠ 6 := ne_toInt c_7; have c_10_t : (v1 : Int32).toInt ≠ 7 := ne_toInt c_10; have c_13_t : (v1 : Int32).toInt ≠ 8 := ne_toInt c_13; have c_14_t : (v1 : Int32).toInt ≠ 9 := ne_toInt c_14; omega) (by decide) ?_
  refine lv_iconst (v := (-1)) hx hb dX7_count_136 (by decide) ?_
  exact hRet _ _ _ _ _ hf hS dX7_count_137
