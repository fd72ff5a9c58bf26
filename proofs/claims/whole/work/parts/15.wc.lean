theorem calX8_within : CalS yX8_within cX8_within 6 (some .boolean) 3 := ⟨⟨kw_14_4, kw_1_5, by decide +kernel⟩, kw_14_3⟩
set_option maxHeartbeats 8000000 in
set_option maxRecDepth 100000 in
theorem ctX8_within (l : Launch) (G : GT) (v0 : Int64) (v2 : Int64) (v4 : Int64) (r : Int32) (hf : fX8_within v0 v2 v4 = some r) : RdI l yX8_within (Cond.code yX8_within cX8_within 6 (some .boolean)) { frames := 0, cells := 0, slots := 0, locals := 0 } G [.long v0, .long v2, .long v4] [] r := by
  intro sz
  refine Met.ofW (cc := cX8_within) (maxL := 6) (ret := (some .boolean)) (by decide) rfl ?_
  intro p e s m args below meth c s₁ B hml hv
  obtain ⟨hargs, hsz, hP, hK⟩ := hv
  subst hsz
  obtain ⟨hx, hb, hr, hw, hown, hlk⟩ := fwB B
  refine fw_enter hargs (Nat.le_of_ble_eq_true rfl) (fun ls hl => ?_)
  have hl : lv_has ls 6 [(0, .long v0), (2, .long v2), (4, .long v4)] := hl
  refine fw_Q (P := fun Q => ∃ A : Nat → Prop, va_S A s.heap s.heap [] ∧ (∀ q, s.heap.size ≤ q → A q) ∧ ∀ (v : Int32) (H : Heap) (locs : List Loc) (pc : Nat) (ls : Array Slot), some v = some r → va_S A s.heap H locs → narrow .boolean (.int v) = .int v → decode cX8_within pc = .ok (.ireturn, 1) → W p l e ({ frames := 0, cells := 0, slots := 0, locals := 0 } : Room) s m args below meth c H locs 0 0 Q (F0 m pc ls [.int v])) ⟨fun q => s.heap.size ≤ q, va_S.rf, fun q h => h, fun v H locs pc ls h hS hn hd => retRZ hx hb hr hlk hS hn h hd⟩ ?_
  rintro Q ⟨A, hS, hA, hRet⟩
  change W p l e ({ frames := 0, cells := 0, slots := 0, locals := 0 } : Room) s m args below meth c _ _ 0 0 Q _
  unfold fX8_within at hf
  refine lv_lload_n hx hb dX8_within_0 rfl (lv_at hl 0 rfl) ?_
  refine lv_lload_n hx hb dX8_within_1 rfl (lv_at hl 1 rfl) ?_
  refine W.lcmp hx hb dX8_within_2 ?_
  refine lv_if_lt (tgt := 17) hx hb dX8_within_3 (by decide) (fun c_1 => ?_) (fun c_1 => ?_)
  · have hf := ip c_1 hf
    refine lv_iconst (v := 0) hx hb dX8_within_17 (by decide) ?_
    exact hRet _ _ _ _ _ hf hS (by decide +kernel) dX8_within_18
  · have hf := iq c_1 hf
    refine lv_lload_n hx hb dX8_within_6 rfl (lv_at hl 0 rfl) ?_
    refine lv_lload hx hb dX8_within_7 (lv_at hl 2 rfl) ?_
    refine W.lcmp hx hb dX8_within_9 ?_
    refine lv_if_gt (tgt := 17) hx hb dX8_within_10 (by decide) (fun c_2 => ?_) (fun c_2 => ?_)
    · have hf := ip c_2 hf
      refine lv_iconst (v := 0) hx hb dX8_within_17 (by decide) ?_
      exact hRet _ _ _ _ _ hf hS (by decide +kernel) dX8_within_18
    · have hf := iq c_2 hf
      refine lv_iconst (v := 1) hx hb dX8_within_13 (by decide) ?_
      refine lv_goto (tgt := 18) hx hb dX8_within_14 (by decide) ?_
      exact hRet _ _ _ _ _ hf hS (by decide +kernel) dX8_within_18
theorem calX8_feed : CalV yX8_feed cX8_feed 8 (some .int) 5 := ⟨⟨kw_6_20, kw_1_5, by decide +kernel⟩, kw_6_18, kw_6_19⟩
set_option maxHeartbeats 8000000 in
set_option maxRecDepth 100000 in
theorem ctX8_feed (l : Launch) (G : GT) (t_h : Nat) (t_a : Nat → Nat) (t_thrown : Int32) (t_tape : Nat → Int32) (t_taped : Int32) (t_at : Int32) (t_behind : Int32) (t_size : Int32) (t_kind : Int32) (t_number : Int32) (t_wrong : Int32) (t_wrongAt : Int32) (t_faultKind : Int32) (t_faultPlace : Int32) (t_x : Int32) (t_wayLong : Int32) (t_bothLeast : Int32) (v1 : Int32) (v2 : Int32) (v3 : Int32) (v4 : Int32) (v5 : Int32) (r : Int32) (o_t_thrown : Int32) (o_t_tape : Nat → Int32) (o_t_taped : Int32) (hf : fX8_feed t_thrown t_tape t_taped v1 v2 v3 v4 v5 = some (r, o_t_thrown, o_t_tape, o_t_taped)) : WrI l yX8_feed (Cond.code yX8_feed cX8_feed 8 (some .int)) { frames := 0, cells := 0, slots := 0, locals := 0 } G [.ref t_h, .int v1, .int v2, .int v3, .int v4, .int v5] [oX8 t_h t_a t_thrown t_taped t_at t_behind t_size t_kind t_number t_wrong t_wrongAt t_faultKind t_faultPlace t_x t_wayLong t_bothLeast, arI G (t_a 3) 900 t_tape] [oX8 t_h t_a o_t_thrown o_t_taped t_at t_behind t_size t_kind t_number t_wrong t_wrongAt t_faultKind t_faultPlace t_x t_wayLong t_bothLeast, arI G (t_a 3) 900 o_t_tape] r := by
  intro sz
  refine Met.ofW (cc := cX8_feed) (maxL := 8) (ret := (some .int)) (by decide) rfl ?_
  intro p e s m args below meth c s₁ B hml hv
  obtain ⟨hargs, hsz, hP, hD0, hK⟩ := hv
  subst hsz
  obtain ⟨hx, hb, hr, hw, hown, hlk⟩ := fwB B
  refine fw_enter hargs (Nat.le_of_ble_eq_true rfl) (fun ls hl => ?_)
  have hl : lv_has ls 8 [(0, .ref t_h), (1, .int v1), (2, .int v2), (3, .int v3), (4, .int v4), (5, .int v5)] := hl
  refine fw_Q (P := fun Q => ∃ A : Nat → Prop, va_D A [oX8 t_h t_a t_thrown t_taped t_at t_behind t_size t_kind t_number t_wrong t_wrongAt t_faultKind t_faultPlace t_x t_wayLong t_bothLeast, arI G (t_a 3) 900 t_tape] ∧ va_S A s.heap s.heap [] ∧ (∀ q, s.heap.size ≤ q → A q) ∧ ∀ (v : Int32) (n_t_thrown : Int32) (n_t_tape : Nat → Int32) (n_t_taped : Int32) (H : Heap) (locs : List Loc) (pc : Nat) (ls : Array Slot), some (v, n_t_thrown, n_t_tape, n_t_taped) = some (r, o_t_thrown, o_t_tape, o_t_taped) → va_P G.1 vwCl [oX8 t_h t_a n_t_thrown n_t_taped t_at t_behind t_size t_kind t_number t_wrong t_wrongAt t_faultKind t_faultPlace t_x t_wayLong t_bothLeast, arI G (t_a 3) 900 n_t_tape] H → va_S A s.heap H locs → decode cX8_feed pc = .ok (.ireturn, 1) → W p l e ({ frames := 0, cells := 0, slots := 0, locals := 0 } : Room) s m args below meth c H locs 0 0 Q (F0 m pc ls [.int v])) ⟨va_A [oX8 t_h t_a t_thrown t_taped t_at t_behind t_size t_kind t_number t_wrong t_wrongAt t_faultKind t_faultPlace t_x t_wayLong t_bothLeast, arI G (t_a 3) 900 t_tape] s.heap.size, hD0.self (sz := s.heap.size), va_S.rf, fun q h => Or.inr h, ?_⟩ ?_
  · intro v n_t_thrown n_t_tape n_t_taped H locs pc ls h hP hS hd
    cases h
    exact retWI hx hb hr hlk hS hP rfl hd
  rintro Q ⟨A, hD, hS, hA, hRet⟩
  change W p l e ({ frames := 0, cells := 0, slots := 0, locals := 0 } : Room) s m args below meth c _ _ 0 0 Q _
  have L24 : ∀ (t_thrown : Int32) (K : (Nat → Int32) → Int32 → Option (Int32 × Int32 × (Nat → Int32) × Int32)) (n : Nat) (l6 : Int32) (t_tape : Nat → Int32) (t_taped : Int32) (H : Heap) (locs : List Loc) (ls : Array Slot), va_P G.1 vwCl [oX8 t_h t_a t_thrown t_taped t_at t_behind t_size t_kind t_number t_wrong t_wrongAt t_faultKind t_faultPlace t_x t_wayLong t_bothLeast, arI G (t_a 3) 900 t_tape] H → va_D A [oX8 t_h t_a t_thrown t_taped t_at t_behind t_size t_kind t_number t_wrong t_wrongAt t_faultKind t_faultPlace t_x t_wayLong t_bothLeast, arI G (t_a 3) 900 t_tape] → va_S A s.heap H locs → lv_has ls 8 [(0, .ref t_h), (1, .int v1), (2, .int v2), (3, .int v3), (4, .int v4), (5, .int v5), (6, .int l6)] → fX8_feed_24 v1 v2 v3 v4 v5 K n l6 t_tape t_taped = some (r, o_t_thrown, o_t_tape, o_t_taped) → (∀ (kt_tape : Nat → Int32) (kt_taped : Int32) (H : Heap) (locs : List Loc) (ls : Array Slot), va_P G.1 vwCl [oX8 t_h t_a t_thrown kt_taped t_at t_behind t_size t_kind t_number t_wrong t_wrongAt t_faultKind t_faultPlace t_x t_wayLong t_bothLeast, arI G (t_a 3) 900 kt_tape] H → va_D A [oX8 t_h t_a t_thrown kt_taped t_at t_behind t_size t_kind t_number t_wrong t_wrongAt t_faultKind t_faultPlace t_x t_wayLong t_bothLeast, arI G (t_a 3) 900 kt_tape] → va_S A s.heap H locs → lv_has ls 8 [(0, .ref t_h)] → K kt_tape kt_taped = some (r, o_t_thrown, o_t_tape, o_t_taped) → W p l e ({ frames := 0, cells := 0, slots := 0, locals := 0 } : Room) s m args below meth c H locs 0 0 Q (F0 m 121 ls [])) → W p l e ({ frames := 0, cells := 0, slots := 0, locals := 0 } : Room) s m args below meth c H locs 0 0 Q (F0 m 24 ls []) := by
    intro t_thrown K n
    induction n with
    | zero => intro l6 t_tape t_taped H locs ls hP hD hS hl hf; rw [fX8_feed_24] at hf; cases hf
    | succ n ih =>
      intro l6 t_tape t_taped H locs ls hP hD hS hl hf hX
      rw [fX8_feed_24] at hf
      refine lv_iload hx hb dX8_feed_24 (lv_at hl 6 rfl) ?_
      refine lv_bipush (v := 20) hx hb dX8_feed_26 (by decide) ?_
      refine lv_icmp_ge (tgt := 121) hx hb dX8_feed_28 (by decide) (fun c_2 => ?_) (fun c_2 => ?_)
      · have hf := ip c_2 hf
        exact hX _ _ _ _ _ hP hD hS (lv_sub hl [0] rfl) hf
      · have hf := iq c_2 hf
        refine lv_iload hx hb dX8_feed_31 (lv_at hl 6 rfl) ?_
        refine lv_iconst (v := 4) hx hb dX8_feed_33 (by decide) ?_
        refine jn_el hf (fun k_4 ek_4 hf => ?_)
        have J77 : ∀ (z_3 : Int32) (H : Heap) (locs : List Loc) (ls : Array Slot), va_P G.1 vwCl [oX8 t_h t_a t_thrown t_taped t_at t_behind t_size t_kind t_number t_wrong t_wrongAt t_faultKind t_faultPlace t_x t_wayLong t_bothLeast, arI G (t_a 3) 900 t_tape] H → va_D A [oX8 t_h t_a t_thrown t_taped t_at t_behind t_size t_kind t_number t_wrong t_wrongAt t_faultKind t_faultPlace t_x t_wayLong t_bothLeast, arI G (t_a 3) 900 t_tape] → va_S A s.heap H locs → lv_has ls 8 [(0, .ref t_h), (1, .int v1), (2, .int v2), (3, .int v3), (4, .int v4), (5, .int v5), (6, .int l6)] → k_4 z_3 = some (r, o_t_thrown, o_t_tape, o_t_taped) → W p l e ({ frames := 0, cells := 0, slots := 0, locals := 0 } : Room) s m args below meth c H locs 0 0 Q (F0 m 77 ls [.int z_3]) := by
          intro z_3 H locs ls hP hD hS hl hf
          rw [ek_4] at hf
          refine lv_istore (lv' := [(7, .int z_3), (0, .ref t_h), (1, .int v1), (2, .int v2), (3, .int v3), (4, .int v4), (5, .int v5), (6, .int l6)]) hx hb dX8_feed_77 hl (by decide) rfl (fun ls hl => ?_)
          refine lv_aload_n hx hb dX8_feed_79 rfl (lv_at hl 1 rfl) ?_
          refine va_get (D := G.1) (ci := 8) (v := .ref (t_a 3)) (C := RX8) (T := TX8) (N := 33) hx hb hw inW8 hown hK.1 hP 0 rfl rfl 3 (by decide) (hw _ kw_5_13) (fun _ h9 => h9) rfl dX8_feed_80 ?_
          refine lv_aload_n hx hb dX8_feed_83 rfl (lv_at hl 1 rfl) ?_
          refine va_get (D := G.1) (ci := 8) (v := .int t_taped) (C := RX8) (T := TX8) (N := 33) hx hb hw inW8 hown hK.1 hP 0 rfl rfl 5 (by decide) (hw _ kw_6_22) (fun _ h9 => h9) rfl dX8_feed_84 ?_
          refine lv_iload hx hb dX8_feed_87 (lv_at hl 0 rfl) ?_
          refine lv_bipush (v := 24) hx hb dX8_feed_89 (by decide) ?_
          refine lv_bipush (v := 8) hx hb dX8_feed_91 (by decide) ?_
          refine lv_iload hx hb dX8_feed_93 (lv_at hl 7 rfl) ?_
          refine lv_iconst (v := 4) hx hb dX8_feed_95 (by decide) ?_
          refine lv_irem hx hb dX8_feed_96 (by decide) ?_
          refine lv_imul hx hb dX8_feed_97 ?_
          refine lv_isub hx hb dX8_feed_98 ?_
          refine lv_ishr hx hb dX8_feed_99 ?_
          refine lv_sipush (v := 255) hx hb dX8_feed_100 (by decide) ?_
          refine lv_iand hx hb dX8_feed_103 ?_
          obtain ⟨hi_6, hf⟩ := wrI_in hf
          refine xiast hx hb hK.1 hP hD hS 1 0 rfl rfl hi_6 dX8_feed_104 (fun t_tape_5 H locs et_tape_5 hP hD hS => ?_)
          have hf := hf t_tape_5 et_tape_5
          have hP : va_P G.1 vwCl [oX8 t_h t_a t_thrown t_taped t_at t_behind t_size t_kind t_number t_wrong t_wrongAt t_faultKind t_faultPlace t_x t_wayLong t_bothLeast, arI G (t_a 3) 900 t_tape_5] H := hP
          have hD : va_D A [oX8 t_h t_a t_thrown t_taped t_at t_behind t_size t_kind t_number t_wrong t_wrongAt t_faultKind t_faultPlace t_x t_wayLong t_bothLeast, arI G (t_a 3) 900 t_tape_5] := hD
          refine lv_aload_n hx hb dX8_feed_105 rfl (lv_at hl 1 rfl) ?_
          refine lv_dup hx hb dX8_feed_106 rfl ?_
          refine va_get (D := G.1) (ci := 8) (v := .int t_taped) (C := RX8) (T := TX8) (N := 33) hx hb hw inW8 hown hK.1 hP 0 rfl rfl 5 (by decide) (hw _ kw_6_22) (fun _ h9 => h9) rfl dX8_feed_107 ?_
          refine lv_iconst (v := 1) hx hb dX8_feed_110 (by decide) ?_
          refine lv_iadd hx hb dX8_feed_111 ?_
          refine lv_topi (fun y_7 ey_7 => ?_)
          have hf := bnd_all hf y_7 ey_7
          refine va_put (D := G.1) (ci := 8) (v := .int y_7) (ty := .int) (C := RX8) (T := TX8) (N := 33) hx hb hw inW8 tyX8 tyX8_ok nmX8 hown hK.1 hP hD hS 0 rfl rfl 5 (by decide) (hw _ kw_6_22) (fun _ h9 => h9) rfl (by decide +kernel) rfl rfl (Nat.le_of_ble_eq_true rfl) dX8_feed_112 (fun H locs hP hD hS => ?_)
          have hP : va_P G.1 vwCl [oX8 t_h t_a t_thrown y_7 t_at t_behind t_size t_kind t_number t_wrong t_wrongAt t_faultKind t_faultPlace t_x t_wayLong t_bothLeast, arI G (t_a 3) 900 t_tape_5] H := hP
          have hD : va_D A [oX8 t_h t_a t_thrown y_7 t_at t_behind t_size t_kind t_number t_wrong t_wrongAt t_faultKind t_faultPlace t_x t_wayLong t_bothLeast, arI G (t_a 3) 900 t_tape_5] := hD
          refine lv_iinc (v := (l6 + 1)) (lv' := [(6, .int (l6 + 1)), (7, .int z_3), (0, .ref t_h), (1, .int v1), (2, .int v2), (3, .int v3), (4, .int v4), (5, .int v5)]) hx hb dX8_feed_115 hl (k := 7) rfl (by rfl) (by decide) rfl (fun ls hl => ?_)
          refine lv_goto (tgt := 24) hx hb dX8_feed_118 (by decide) ?_
          exact ih _ _ _ _ _ _ hP hD hS (lv_sub hl [2, 3, 4, 5, 6, 7, 0] rfl) hf hX
        refine lv_icmp_ge (tgt := 41) hx hb dX8_feed_34 (by decide) (fun c_8 => ?_) (fun c_8 => ?_)
        · have hf := ip c_8 hf
          refine lv_iload hx hb dX8_feed_41 (lv_at hl 6 rfl) ?_
          refine lv_bipush (v := 8) hx hb dX8_feed_43 (by decide) ?_
          refine lv_icmp_ge (tgt := 52) hx hb dX8_feed_45 (by decide) (fun c_9 => ?_) (fun c_9 => ?_)
          · have hf := ip c_9 hf
            refine lv_iload hx hb dX8_feed_52 (lv_at hl 6 rfl) ?_
            refine lv_bipush (v := 12) hx hb dX8_feed_54 (by decide) ?_
            refine lv_icmp_ge (tgt := 63) hx hb dX8_feed_56 (by decide) (fun c_10 => ?_) (fun c_10 => ?_)
            · have hf := ip c_10 hf
              refine lv_iload hx hb dX8_feed_63 (lv_at hl 6 rfl) ?_
              refine lv_bipush (v := 16) hx hb dX8_feed_65 (by decide) ?_
              refine lv_icmp_ge (tgt := 75) hx hb dX8_feed_67 (by decide) (fun c_11 => ?_) (fun c_11 => ?_)
              · have hf := ip c_11 hf
                refine lv_iload hx hb dX8_feed_75 (lv_at hl 5 rfl) ?_
                exact J77 _ _ _ _ hP hD hS (lv_sub hl [0, 1, 2, 3, 4, 5, 6] rfl) hf
              · have hf := iq c_11 hf
                refine lv_iload hx hb dX8_feed_70 (lv_at hl 4 rfl) ?_
                refine lv_goto (tgt := 77) hx hb dX8_feed_72 (by decide) ?_
                exact J77 _ _ _ _ hP hD hS (lv_sub hl [0, 1, 2, 3, 4, 5, 6] rfl) hf
            · have hf := iq c_10 hf
              refine lv_iload_n hx hb dX8_feed_59 rfl (lv_at hl 3 rfl) ?_
              refine lv_goto (tgt := 77) hx hb dX8_feed_60 (by decide) ?_
              exact J77 _ _ _ _ hP hD hS (lv_sub hl [0, 1, 2, 3, 4, 5, 6] rfl) hf
          · have hf := iq c_9 hf
            refine lv_iload_n hx hb dX8_feed_48 rfl (lv_at hl 2 rfl) ?_
            refine lv_goto (tgt := 77) hx hb dX8_feed_49 (by decide) ?_
            exact J77 _ _ _ _ hP hD hS (lv_sub hl [0, 1, 2, 3, 4, 5, 6] rfl) hf
        · have hf := iq c_8 hf
          refine lv_iload_n hx hb dX8_feed_37 rfl (lv_at hl 1 rfl) ?_
          refine lv_goto (tgt := 77) hx hb dX8_feed_38 (by decide) ?_
          exact J77 _ _ _ _ hP hD hS (lv_sub hl [0, 1, 2, 3, 4, 5, 6] rfl) hf
  unfold fX8_feed at hf
  refine lv_aload_n hx hb dX8_feed_0 rfl (lv_at hl 0 rfl) ?_
  refine lv_iconst (v := 0) hx hb dX8_feed_1 (by decide) ?_
  refine va_put (D := G.1) (ci := 8) (v := .int 0) (ty := .int) (C := RX8) (T := TX8) (N := 33) hx hb hw inW8 tyX8 tyX8_ok nmX8 hown hK.1 hP hD hS 0 rfl rfl 0 (by decide) (hw _ kw_6_21) (fun _ h9 => h9) rfl (by decide +kernel) rfl rfl (Nat.le_of_ble_eq_true rfl) dX8_feed_2 (fun H locs hP hD hS => ?_)
  have hP : va_P G.1 vwCl [oX8 t_h t_a 0 t_taped t_at t_behind t_size t_kind t_number t_wrong t_wrongAt t_faultKind t_faultPlace t_x t_wayLong t_bothLeast, arI G (t_a 3) 900 t_tape] H := hP
  have hD : va_D A [oX8 t_h t_a 0 t_taped t_at t_behind t_size t_kind t_number t_wrong t_wrongAt t_faultKind t_faultPlace t_x t_wayLong t_bothLeast, arI G (t_a 3) 900 t_tape] := hD
  refine lv_aload_n hx hb dX8_feed_5 rfl (lv_at hl 0 rfl) ?_
  refine va_get (D := G.1) (ci := 8) (v := .int t_taped) (C := RX8) (T := TX8) (N := 33) hx hb hw inW8 hown hK.1 hP 0 rfl rfl 5 (by decide) (hw _ kw_6_22) (fun _ h9 => h9) rfl dX8_feed_6 ?_
  refine lv_bipush (v := 20) hx hb dX8_feed_9 (by decide) ?_
  refine lv_iadd hx hb dX8_feed_11 ?_
  refine lv_sipush (v := 900) hx hb dX8_feed_12 (by decide) ?_
  refine lv_icmp_le (tgt := 21) hx hb dX8_feed_15 (by decide) (fun c_1 => ?_) (fun c_1 => ?_)
  · have hf := ip c_1 hf
    refine lv_iconst (v := 0) hx hb dX8_feed_21 (by decide) ?_
    refine lv_istore (lv' := [(6, .int 0), (0, .ref t_h), (1, .int v1), (2, .int v2), (3, .int v3), (4, .int v4), (5, .int v5)]) hx hb dX8_feed_22 hl (by decide) rfl (fun ls hl => ?_)
    refine L24 _ _ _ _ _ _ _ _ _ hP hD hS (lv_sub hl [1, 2, 3, 4, 5, 6, 0] rfl) hf (fun t_tape_12 t_taped_13 H locs ls hP hD hS hl hf => ?_)
    refine lv_aload_n hx hb dX8_feed_121 rfl (lv_at hl 0 rfl) ?_
    refine va_get (D := G.1) (ci := 8) (v := .int t_taped_13) (C := RX8) (T := TX8) (N := 33) hx hb hw inW8 hown hK.1 hP 0 rfl rfl 5 (by decide) (hw _ kw_6_22) (fun _ h9 => h9) rfl dX8_feed_122 ?_
    exact hRet _ _ _ _ _ _ _ _ hf hP hS dX8_feed_125
  · have hf := iq c_1 hf
    refine lv_bipush (v := (-5)) hx hb dX8_feed_18 (by decide) ?_
    exact hRet _ _ _ _ _ _ _ _ hf hP hS dX8_feed_20
theorem calX8_see : CalV yX8_see cX8_see 2 (some .int) 1 := ⟨⟨kw_14_14, kw_1_5, by decide +kernel⟩, kw_14_12, kw_14_13⟩
set_option maxHeartbeats 8000000 in
set_option maxRecDepth 100000 in
theorem ctX8_see (l : Launch) (G : GT) (t_h : Nat) (t_a : Nat → Nat) (t_thrown : Int32) (t_tape : Nat → Int32) (t_taped : Int32) (t_at : Int32) (t_behind : Int32) (t_size : Int32) (t_kind : Int32) (t_number : Int32) (t_wrong : Int32) (t_wrongAt : Int32) (t_faultKind : Int32) (t_faultPlace : Int32) (t_x : Int32) (t_wayLong : Int32) (t_bothLeast : Int32) (v1 : Int32) (r : Int32) (hf : fX8_see t_tape t_size v1 = some r) : RdI l yX8_see (Cond.code yX8_see cX8_see 2 (some .int)) { frames := 0, cells := 0, slots := 0, locals := 0 } G [.ref t_h, .int v1] [oX8 t_h t_a t_thrown t_taped t_at t_behind t_size t_kind t_number t_wrong t_wrongAt t_faultKind t_faultPlace t_x t_wayLong t_bothLeast, arI G (t_a 3) 900 t_tape] r := by
  intro sz
  refine Met.ofW (cc := cX8_see) (maxL := 2) (ret := (some .int)) (by decide) rfl ?_
  intro p e s m args below meth c s₁ B hml hv
  obtain ⟨hargs, hsz, hP, hK⟩ := hv
  subst hsz
  obtain ⟨hx, hb, hr, hw, hown, hlk⟩ := fwB B
  refine fw_enter hargs (Nat.le_of_ble_eq_true rfl) (fun ls hl => ?_)
  have hl : lv_has ls 2 [(0, .ref t_h), (1, .int v1)] := hl
  refine fw_Q (P := fun Q => ∃ A : Nat → Prop, va_S A s.heap s.heap [] ∧ (∀ q, s.heap.size ≤ q → A q) ∧ ∀ (v : Int32) (H : Heap) (locs : List Loc) (pc : Nat) (ls : Array Slot), some v = some r → va_S A s.heap H locs → decode cX8_see pc = .ok (.ireturn, 1) → W p l e ({ frames := 0, cells := 0, slots := 0, locals := 0 } : Room) s m args below meth c H locs 0 0 Q (F0 m pc ls [.int v])) ⟨fun q => s.heap.size ≤ q, va_S.rf, fun q h => h, fun v H locs pc ls h hS hd => retRI hx hb hr hlk hS h hd⟩ ?_
  rintro Q ⟨A, hS, hA, hRet⟩
  change W p l e ({ frames := 0, cells := 0, slots := 0, locals := 0 } : Room) s m args below meth c _ _ 0 0 Q _
  unfold fX8_see at hf
  refine lv_iload_n hx hb dX8_see_0 rfl (lv_at hl 1 rfl) ?_
  refine lv_aload_n hx hb dX8_see_1 rfl (lv_at hl 0 rfl) ?_
  refine va_get (D := G.1) (ci := 8) (v := .int t_size) (C := RX8) (T := TX8) (N := 33) hx hb hw inW8 hown hK.1 hP 0 rfl rfl 8 (by decide) (hw _ kw_13_20) (fun _ h9 => h9) rfl dX8_see_2 ?_
  refine lv_icmp_ge (tgt := 17) hx hb dX8_see_5 (by decide) (fun c_1 => ?_) (fun c_1 => ?_)
  · have hf := ip c_1 hf
    refine lv_iconst (v := (-1)) hx hb dX8_see_17 (by decide) ?_
    exact hRet _ _ _ _ _ hf hS dX8_see_18
  · have hf := iq c_1 hf
    refine lv_aload_n hx hb dX8_see_8 rfl (lv_at hl 0 rfl) ?_
    refine va_get (D := G.1) (ci := 8) (v := .ref (t_a 3)) (C := RX8) (T := TX8) (N := 33) hx hb hw inW8 hown hK.1 hP 0 rfl rfl 3 (by decide) (hw _ kw_5_13) (fun _ h9 => h9) rfl dX8_see_9 ?_
    refine lv_iload_n hx hb dX8_see_12 rfl (lv_at hl 1 rfl) ?_
    obtain ⟨hi_3, hf⟩ := rdI_in hf
    refine va_iald hx hb hK.1 hP 1 0 rfl rfl hi_3 dX8_see_13 ?_
    refine lv_topi (fun x_2 ex_2 => ?_)
    have hf := hf x_2 ex_2
    refine lv_goto (tgt := 18) hx hb dX8_see_14 (by decide) ?_
    exact hRet _ _ _ _ _ hf hS dX8_see_18
theorem calX8_isSmall : CalS yX8_isSmall cX8_isSmall 1 (some .boolean) 1 := ⟨⟨kw_14_17, kw_1_5, by decide +kernel⟩, kw_14_16⟩
set_option maxHeartbeats 8000000 in
set_option maxRecDepth 100000 in
theorem ctX8_isSmall (l : Launch) (G : GT) (v0 : Int32) (r : Int32) (hf : fX8_isSmall v0 = some r) : RdI l yX8_isSmall (Cond.code yX8_isSmall cX8_isSmall 1 (some .boolean)) { frames := 0, cells := 0, slots := 0, locals := 0 } G [.int v0] [] r := by
  intro sz
  refine Met.ofW (cc := cX8_isSmall) (maxL := 1) (ret := (some .boolean)) (by decide) rfl ?_
  intro p e s m args below meth c s₁ B hml hv
  obtain ⟨hargs, hsz, hP, hK⟩ := hv
  subst hsz
  obtain ⟨hx, hb, hr, hw, hown, hlk⟩ := fwB B
  refine fw_enter hargs (Nat.le_of_ble_eq_true rfl) (fun ls hl => ?_)
  have hl : lv_has ls 1 [(0, .int v0)] := hl
  refine fw_Q (P := fun Q => ∃ A : Nat → Prop, va_S A s.heap s.heap [] ∧ (∀ q, s.heap.size ≤ q → A q) ∧ ∀ (v : Int32) (H : Heap) (locs : List Loc) (pc : Nat) (ls : Array Slot), some v = some r → va_S A s.heap H locs → narrow .boolean (.int v) = .int v → decode cX8_isSmall pc = .ok (.ireturn, 1) → W p l e ({ frames := 0, cells := 0, slots := 0, locals := 0 } : Room) s m args below meth c H locs 0 0 Q (F0 m pc ls [.int v])) ⟨fun q => s.heap.size ≤ q, va_S.rf, fun q h => h, fun v H locs pc ls h hS hn hd => retRZ hx hb hr hlk hS hn h hd⟩ ?_
  rintro Q ⟨A, hS, hA, hRet⟩
  change W p l e ({ frames := 0, cells := 0, slots := 0, locals := 0 } : Room) s m args below meth c _ _ 0 0 Q _
  unfold fX8_isSmall at hf
  refine lv_iload_n hx hb dX8_isSmall_0 rfl (lv_at hl 0 rfl) ?_
  refine lv_bipush (v := 97) hx hb dX8_isSmall_1 (by decide) ?_
  refine lv_icmp_lt (tgt := 16) hx hb dX8_isSmall_3 (by decide) (fun c_1 => ?_) (fun c_1 => ?_)
  · have hf := ip c_1 hf
    refine lv_iconst (v := 0) hx hb dX8_isSmall_16 (by decide) ?_
    exact hRet _ _ _ _ _ hf hS (by decide +kernel) dX8_isSmall_17
  · have hf := iq c_1 hf
    refine lv_iload_n hx hb dX8_isSmall_6 rfl (lv_at hl 0 rfl) ?_
    refine lv_bipush (v := 122) hx hb dX8_isSmall_7 (by decide) ?_
    refine lv_icmp_gt (tgt := 16) hx hb dX8_isSmall_9 (by decide) (fun c_2 => ?_) (fun c_2 => ?_)
    · have hf := ip c_2 hf
      refine lv_iconst (v := 0) hx hb dX8_isSmall_16 (by decide) ?_
      exact hRet _ _ _ _ _ hf hS (by decide +kernel) dX8_isSmall_17
    · have hf := iq c_2 hf
      refine lv_iconst (v := 1) hx hb dX8_isSmall_12 (by decide) ?_
      refine lv_goto (tgt := 17) hx hb dX8_isSmall_13 (by decide) ?_
      exact hRet _ _ _ _ _ hf hS (by decide +kernel) dX8_isSmall_17
theorem calX8_isDigit : CalS yX8_isDigit cX8_isDigit 1 (some .boolean) 1 := ⟨⟨kw_15_2, kw_1_5, by decide +kernel⟩, kw_15_1⟩
set_option maxHeartbeats 8000000 in
set_option maxRecDepth 100000 in
theorem ctX8_isDigit (l : Launch) (G : GT) (v0 : Int32) (r : Int32) (hf : fX8_isDigit v0 = some r) : RdI l yX8_isDigit (Cond.code yX8_isDigit cX8_isDigit 1 (some .boolean)) { frames := 0, cells := 0, slots := 0, locals := 0 } G [.int v0] [] r := by
  intro sz
  refine Met.ofW (cc := cX8_isDigit) (maxL := 1) (ret := (some .boolean)) (by decide) rfl ?_
  intro p e s m args below meth c s₁ B hml hv
  obtain ⟨hargs, hsz, hP, hK⟩ := hv
  subst hsz
  obtain ⟨hx, hb, hr, hw, hown, hlk⟩ := fwB B
  refine fw_enter hargs (Nat.le_of_ble_eq_true rfl) (fun ls hl => ?_)
  have hl : lv_has ls 1 [(0, .int v0)] := hl
  refine fw_Q (P := fun Q => ∃ A : Nat → Prop, va_S A s.heap s.heap [] ∧ (∀ q, s.heap.size ≤ q → A q) ∧ ∀ (v : Int32) (H : Heap) (locs : List Loc) (pc : Nat) (ls : Array Slot), some v = some r → va_S A s.heap H locs → narrow .boolean (.int v) = .int v → decode cX8_isDigit pc = .ok (.ireturn, 1) → W p l e ({ frames := 0, cells := 0, slots := 0, locals := 0 } : Room) s m args below meth c H locs 0 0 Q (F0 m pc ls [.int v])) ⟨fun q => s.heap.size ≤ q, va_S.rf, fun q h => h, fun v H locs pc ls h hS hn hd => retRZ hx hb hr hlk hS hn h hd⟩ ?_
  rintro Q ⟨A, hS, hA, hRet⟩
  change W p l e ({ frames := 0, cells := 0, slots := 0, locals := 0 } : Room) s m args below meth c _ _ 0 0 Q _
  unfold fX8_isDigit at hf
  refine lv_iload_n hx hb dX8_isDigit_0 rfl (lv_at hl 0 rfl) ?_
  refine lv_bipush (v := 48) hx hb dX8_isDigit_1 (by decide) ?_
  refine lv_icmp_lt (tgt := 16) hx hb dX8_isDigit_3 (by decide) (fun c_1 => ?_) (fun c_1 => ?_)
  · have hf := ip c_1 hf
    refine lv_iconst (v := 0) hx hb dX8_isDigit_16 (by decide) ?_
    exact hRet _ _ _ _ _ hf hS (by decide +kernel) dX8_isDigit_17
  · have hf := iq c_1 hf
    refine lv_iload_n hx hb dX8_isDigit_6 rfl (lv_at hl 0 rfl) ?_
    refine lv_bipush (v := 57) hx hb dX8_isDigit_7 (by decide) ?_
    refine lv_icmp_gt (tgt := 16) hx hb dX8_isDigit_9 (by decide) (fun c_2 => ?_) (fun c_2 => ?_)
    · have hf := ip c_2 hf
      refine lv_iconst (v := 0) hx hb dX8_isDigit_16 (by decide) ?_
      exact hRet _ _ _ _ _ hf hS (by decide +kernel) dX8_isDigit_17
    · have hf := iq c_2 hf
      refine lv_iconst (v := 1) hx hb dX8_isDigit_12 (by decide) ?_
      refine lv_goto (tgt := 17) hx hb dX8_isDigit_13 (by decide) ?_
      exact hRet _ _ _ _ _ hf hS (by decide +kernel) dX8_isDigit_17
theorem calX8_fails : CalV yX8_fails cX8_fails 2 none 1 := ⟨⟨kw_15_18, kw_1_5, by decide +kernel⟩, kw_15_16, kw_15_17⟩
set_option maxHeartbeats 8000000 in
set_option maxRecDepth 100000 in
theorem ctX8_fails (l : Launch) (G : GT) (t_h : Nat) (t_a : Nat → Nat) (t_thrown : Int32) (t_taped : Int32) (t_at : Int32) (t_behind : Int32) (t_size : Int32) (t_kind : Int32) (t_number : Int32) (t_wrong : Int32) (t_wrongAt : Int32) (t_faultKind : Int32) (t_faultPlace : Int32) (t_x : Int32) (t_wayLong : Int32) (t_bothLeast : Int32) (v1 : Int32) (o_t_wrong : Int32) (o_t_wrongAt : Int32) (hf : fX8_fails t_at t_kind t_wrong t_wrongAt v1 = some (o_t_wrong, o_t_wrongAt)) : WrV l yX8_fails (Cond.code yX8_fails cX8_fails 2 none) { frames := 0, cells := 0, slots := 0, locals := 0 } G [.ref t_h, .int v1] [oX8 t_h t_a t_thrown t_taped t_at t_behind t_size t_kind t_number t_wrong t_wrongAt t_faultKind t_faultPlace t_x t_wayLong t_bothLeast] [oX8 t_h t_a t_thrown t_taped t_at t_behind t_size t_kind t_number o_t_wrong o_t_wrongAt t_faultKind t_faultPlace t_x t_wayLong t_bothLeast] := by
  intro sz
  refine Met.ofW (cc := cX8_fails) (maxL := 2) (ret := none) (by decide) rfl ?_
  intro p e s m args below meth c s₁ B hml hv
  obtain ⟨hargs, hsz, hP, hD0, hK⟩ := hv
  subst hsz
  obtain ⟨hx, hb, hr, hw, hown, hlk⟩ := fwB B
  refine fw_enter hargs (Nat.le_of_ble_eq_true rfl) (fun ls hl => ?_)
  have hl : lv_has ls 2 [(0, .ref t_h), (1, .int v1)] := hl
  refine fw_Q (P := fun Q => ∃ A : Nat → Prop, va_D A [oX8 t_h t_a t_thrown t_taped t_at t_behind t_size t_kind t_number t_wrong t_wrongAt t_faultKind t_faultPlace t_x t_wayLong t_bothLeast] ∧ va_S A s.heap s.heap [] ∧ (∀ q, s.heap.size ≤ q → A q) ∧ ∀ (n_t_wrong : Int32) (n_t_wrongAt : Int32) (H : Heap) (locs : List Loc) (pc : Nat) (ls : Array Slot), some (n_t_wrong, n_t_wrongAt) = some (o_t_wrong, o_t_wrongAt) → va_P G.1 vwCl [oX8 t_h t_a t_thrown t_taped t_at t_behind t_size t_kind t_number n_t_wrong n_t_wrongAt t_faultKind t_faultPlace t_x t_wayLong t_bothLeast] H → va_S A s.heap H locs → decode cX8_fails pc = .ok (.return_, 1) → W p l e ({ frames := 0, cells := 0, slots := 0, locals := 0 } : Room) s m args below meth c H locs 0 0 Q (F0 m pc ls [])) ⟨va_A [oX8 t_h t_a t_thrown t_taped t_at t_behind t_size t_kind t_number t_wrong t_wrongAt t_faultKind t_faultPlace t_x t_wayLong t_bothLeast] s.heap.size, hD0.self (sz := s.heap.size), va_S.rf, fun q h => Or.inr h, ?_⟩ ?_
  · intro n_t_wrong n_t_wrongAt H locs pc ls h hP hS hd
    cases h
    exact retWV hx hb hr hlk hS hP hd
  rintro Q ⟨A, hD, hS, hA, hRet⟩
  change W p l e ({ frames := 0, cells := 0, slots := 0, locals := 0 } : Room) s m args below meth c _ _ 0 0 Q _
  unfold fX8_fails at hf
  refine lv_aload_n hx hb dX8_fails_0 rfl (lv_at hl 0 rfl) ?_
  refine va_get (D := G.1) (ci := 8) (v := .int t_wrong) (C := RX8) (T := TX8) (N := 33) hx hb hw inW8 hown hK.1 hP 0 rfl rfl 11 (by decide) (hw _ kw_13_22) (fun _ h9 => h9) rfl dX8_fails_1 ?_
  refine lv_if_eq (tgt := 8) hx hb dX8_fails_4 (by decide) (fun c_1 => ?_) (fun c_1 => ?_)
  · have hf := ip c_1 hf
    refine lv_aload_n hx hb dX8_fails_8 rfl (lv_at hl 0 rfl) ?_
    refine lv_aload_n hx hb dX8_fails_9 rfl (lv_at hl 0 rfl) ?_
    refine va_get (D := G.1) (ci := 8) (v := .int t_kind) (C := RX8) (T := TX8) (N := 33) hx hb hw inW8 hown hK.1 hP 0 rfl rfl 9 (by decide) (hw _ kw_13_23) (fun _ h9 => h9) rfl dX8_fails_10 ?_
    refine lv_bipush (v := 11) hx hb dX8_fails_13 (by decide) ?_
    refine jn_el hf (fun k_3 ek_3 hf => ?_)
    have J23 : ∀ (z_2 : Int32) (H : Heap) (locs : List Loc) (ls : Array Slot), va_P G.1 vwCl [oX8 t_h t_a t_thrown t_taped t_at t_behind t_size t_kind t_number t_wrong t_wrongAt t_faultKind t_faultPlace t_x t_wayLong t_bothLeast] H → va_D A [oX8 t_h t_a t_thrown t_taped t_at t_behind t_size t_kind t_number t_wrong t_wrongAt t_faultKind t_faultPlace t_x t_wayLong t_bothLeast] → va_S A s.heap H locs → lv_has ls 2 [(0, .ref t_h)] → k_3 z_2 = some (o_t_wrong, o_t_wrongAt) → W p l e ({ frames := 0, cells := 0, slots := 0, locals := 0 } : Room) s m args below meth c H locs 0 0 Q (F0 m 23 ls [.int z_2, .ref t_h]) := by
      intro z_2 H locs ls hP hD hS hl hf
      rw [ek_3] at hf
      refine va_put (D := G.1) (ci := 8) (v := .int z_2) (ty := .int) (C := RX8) (T := TX8) (N := 33) hx hb hw inW8 tyX8 tyX8_ok nmX8 hown hK.1 hP hD hS 0 rfl rfl 11 (by decide) (hw _ kw_13_22) (fun _ h9 => h9) rfl (by decide +kernel) rfl rfl (Nat.le_of_ble_eq_true rfl) dX8_fails_23 (fun H locs hP hD hS => ?_)
      have hP : va_P G.1 vwCl [oX8 t_h t_a t_thrown t_taped t_at t_behind t_size t_kind t_number z_2 t_wrongAt t_faultKind t_faultPlace t_x t_wayLong t_bothLeast] H := hP
      have hD : va_D A [oX8 t_h t_a t_thrown t_taped t_at t_behind t_size t_kind t_number z_2 t_wrongAt t_faultKind t_faultPlace t_x t_wayLong t_bothLeast] := hD
      refine lv_aload_n hx hb dX8_fails_26 rfl (lv_at hl 0 rfl) ?_
      refine lv_aload_n hx hb dX8_fails_27 rfl (lv_at hl 0 rfl) ?_
      refine va_get (D := G.1) (ci := 8) (v := .int t_at) (C := RX8) (T := TX8) (N := 33) hx hb hw inW8 hown hK.1 hP 0 rfl rfl 6 (by decide) (hw _ kw_14_9) (fun _ h9 => h9) rfl dX8_fails_28 ?_
      refine va_put (D := G.1) (ci := 8) (v := .int t_at) (ty := .int) (C := RX8) (T := TX8) (N := 33) hx hb hw inW8 tyX8 tyX8_ok nmX8 hown hK.1 hP hD hS 0 rfl rfl 12 (by decide) (hw _ kw_14_1) (fun _ h9 => h9) rfl (by decide +kernel) rfl rfl (Nat.le_of_ble_eq_true rfl) dX8_fails_31 (fun H locs hP hD hS => ?_)
      have hP : va_P G.1 vwCl [oX8 t_h t_a t_thrown t_taped t_at t_behind t_size t_kind t_number z_2 t_at t_faultKind t_faultPlace t_x t_wayLong t_bothLeast] H := hP
      have hD : va_D A [oX8 t_h t_a t_thrown t_taped t_at t_behind t_size t_kind t_number z_2 t_at t_faultKind t_faultPlace t_x t_wayLong t_bothLeast] := hD
      exact hRet _ _ _ _ _ _ hf hP hS dX8_fails_34
    refine lv_icmp_ne (tgt := 22) hx hb dX8_fails_15 (by decide) (fun c_4 => ?_) (fun c_4 => ?_)
    · have hf := iq c_4 hf
      refine lv_iload_n hx hb dX8_fails_22 rfl (lv_at hl 1 rfl) ?_
      exact J23 _ _ _ _ hP hD hS (lv_sub hl [0] rfl) hf
    · have hf := ip c_4 hf
      refine lv_iconst (v := 1) hx hb dX8_fails_18 (by decide) ?_
      refine lv_goto (tgt := 23) hx hb dX8_fails_19 (by decide) ?_
      exact J23 _ _ _ _ hP hD hS (lv_sub hl [0] rfl) hf
  · have hf := iq c_1 hf
    exact hRet _ _ _ _ _ _ hf hP hS dX8_fails_7
theorem calX8_is : CalV yX8_is cX8_is 2 (some .boolean) 1 := ⟨⟨kw_15_10, kw_1_5, by decide +kernel⟩, kw_15_8, kw_15_9⟩
set_option maxHeartbeats 8000000 in
set_option maxRecDepth 100000 in
theorem ctX8_is (l : Launch) (G : GT) (t_h : Nat) (t_a : Nat → Nat) (t_thrown : Int32) (t_taped : Int32) (t_at : Int32) (t_behind : Int32) (t_size : Int32) (t_kind : Int32) (t_number : Int32) (t_wrong : Int32) (t_wrongAt : Int32) (t_faultKind : Int32) (t_faultPlace : Int32) (t_x : Int32) (t_wayLong : Int32) (t_bothLeast : Int32) (v1 : Int32) (r : Int32) (hf : fX8_is t_kind t_wrong v1 = some r) : RdI l yX8_is (Cond.code yX8_is cX8_is 2 (some .boolean)) { frames := 0, cells := 0, slots := 0, locals := 0 } G [.ref t_h, .int v1] [oX8 t_h t_a t_thrown t_taped t_at t_behind t_size t_kind t_number t_wrong t_wrongAt t_faultKind t_faultPlace t_x t_wayLong t_bothLeast] r := by
  intro sz
  refine Met.ofW (cc := cX8_is) (maxL := 2) (ret := (some .boolean)) (by decide) rfl ?_
  intro p e s m args below meth c s₁ B hml hv
  obtain ⟨hargs, hsz, hP, hK⟩ := hv
  subst hsz
  obtain ⟨hx, hb, hr, hw, hown, hlk⟩ := fwB B
  refine fw_enter hargs (Nat.le_of_ble_eq_true rfl) (fun ls hl => ?_)
  have hl : lv_has ls 2 [(0, .ref t_h), (1, .int v1)] := hl
  refine fw_Q (P := fun Q => ∃ A : Nat → Prop, va_S A s.heap s.heap [] ∧ (∀ q, s.heap.size ≤ q → A q) ∧ ∀ (v : Int32) (H : Heap) (locs : List Loc) (pc : Nat) (ls : Array Slot), some v = some r → va_S A s.heap H locs → narrow .boolean (.int v) = .int v → decode cX8_is pc = .ok (.ireturn, 1) → W p l e ({ frames := 0, cells := 0, slots := 0, locals := 0 } : Room) s m args below meth c H locs 0 0 Q (F0 m pc ls [.int v])) ⟨fun q => s.heap.size ≤ q, va_S.rf, fun q h => h, fun v H locs pc ls h hS hn hd => retRZ hx hb hr hlk hS hn h hd⟩ ?_
  rintro Q ⟨A, hS, hA, hRet⟩
  change W p l e ({ frames := 0, cells := 0, slots := 0, locals := 0 } : Room) s m args below meth c _ _ 0 0 Q _
  unfold fX8_is at hf
  refine lv_aload_n hx hb dX8_is_0 rfl (lv_at hl 0 rfl) ?_
  refine va_get (D := G.1) (ci := 8) (v := .int t_wrong) (C := RX8) (T := TX8) (N := 33) hx hb hw inW8 hown hK.1 hP 0 rfl rfl 11 (by decide) (hw _ kw_13_22) (fun _ h9 => h9) rfl dX8_is_1 ?_
  refine lv_if_ne (tgt := 19) hx hb dX8_is_4 (by decide) (fun c_1 => ?_) (fun c_1 => ?_)
  · have hf := iq c_1 hf
    refine lv_iconst (v := 0) hx hb dX8_is_19 (by decide) ?_
    exact hRet _ _ _ _ _ hf hS (by decide +kernel) dX8_is_20
  · have hf := ip c_1 hf
    refine lv_aload_n hx hb dX8_is_7 rfl (lv_at hl 0 rfl) ?_
    refine va_get (D := G.1) (ci := 8) (v := .int t_kind) (C := RX8) (T := TX8) (N := 33) hx hb hw inW8 hown hK.1 hP 0 rfl rfl 9 (by decide) (hw _ kw_13_23) (fun _ h9 => h9) rfl dX8_is_8 ?_
    refine lv_iload_n hx hb dX8_is_11 rfl (lv_at hl 1 rfl) ?_
    refine lv_icmp_ne (tgt := 19) hx hb dX8_is_12 (by decide) (fun c_2 => ?_) (fun c_2 => ?_)
    · have hf := iq c_2 hf
      refine lv_iconst (v := 0) hx hb dX8_is_19 (by decide) ?_
      exact hRet _ _ _ _ _ hf hS (by decide +kernel) dX8_is_20
    · have hf := ip c_2 hf
      refine lv_iconst (v := 1) hx hb dX8_is_15 (by decide) ?_
      refine lv_goto (tgt := 20) hx hb dX8_is_16 (by decide) ?_
      exact hRet _ _ _ _ _ hf hS (by decide +kernel) dX8_is_20
theorem calX8_stepsOf : CalS yX8_stepsOf cX8_stepsOf 2 (some .int) 2 := ⟨⟨kw_16_9, kw_1_5, by decide +kernel⟩, kw_16_8⟩
set_option maxHeartbeats 8000000 in
set_option maxRecDepth 100000 in
theorem ctX8_stepsOf (l : Launch) (G : GT) (v0 : Int32) (v1 : Int32) (r : Int32) (hf : fX8_stepsOf v0 v1 = some r) : RdI l yX8_stepsOf (Cond.code yX8_stepsOf cX8_stepsOf 2 (some .int)) { frames := 0, cells := 0, slots := 0, locals := 0 } G [.int v0, .int v1] [] r := by
  intro sz
  refine Met.ofW (cc := cX8_stepsOf) (maxL := 2) (ret := (some .int)) (by decide) rfl ?_
  intro p e s m args below meth c s₁ B hml hv
  obtain ⟨hargs, hsz, hP, hK⟩ := hv
  subst hsz
  obtain ⟨hx, hb, hr, hw, hown, hlk⟩ := fwB B
  refine fw_enter hargs (Nat.le_of_ble_eq_true rfl) (fun ls hl => ?_)
  have hl : lv_has ls 2 [(0, .int v0), (1, .int v1)] := hl
  refine fw_Q (P := fun Q => ∃ A : Nat → Prop, va_S A s.heap s.heap [] ∧ (∀ q, s.heap.size ≤ q → A q) ∧ ∀ (v : Int32) (H : Heap) (locs : List Loc) (pc : Nat) (ls : Array Slot), some v = some r → va_S A s.heap H locs → decode cX8_stepsOf pc = .ok (.ireturn, 1) → W p l e ({ frames := 0, cells := 0, slots := 0, locals := 0 } : Room) s m args below meth c H locs 0 0 Q (F0 m pc ls [.int v])) ⟨fun q => s.heap.size ≤ q, va_S.rf, fun q h => h, fun v H locs pc ls h hS hd => retRI hx hb hr hlk hS h hd⟩ ?_
  rintro Q ⟨A, hS, hA, hRet⟩
  change W p l e ({ frames := 0, cells := 0, slots := 0, locals := 0 } : Room) s m args below meth c _ _ 0 0 Q _
  unfold fX8_stepsOf at hf
  refine lv_iload_n hx hb dX8_stepsOf_0 rfl (lv_at hl 0 rfl) ?_
  refine lv_iload_n hx hb dX8_stepsOf_1 rfl (lv_at hl 1 rfl) ?_
  refine lv_icmp_ge (tgt := 11) hx hb dX8_stepsOf_2 (by decide) (fun c_1 => ?_) (fun c_1 => ?_)
  · have hf := ip c_1 hf
    refine lv_iload_n hx hb dX8_stepsOf_11 rfl (lv_at hl 0 rfl) ?_
    refine lv_iload_n hx hb dX8_stepsOf_12 rfl (lv_at hl 1 rfl) ?_
    refine lv_isub hx hb dX8_stepsOf_13 ?_
    exact hRet _ _ _ _ _ hf hS dX8_stepsOf_14
  · have hf := iq c_1 hf
    refine lv_iload_n hx hb dX8_stepsOf_5 rfl (lv_at hl 1 rfl) ?_
    refine lv_iload_n hx hb dX8_stepsOf_6 rfl (lv_at hl 0 rfl) ?_
    refine lv_isub hx hb dX8_stepsOf_7 ?_
    refine lv_goto (tgt := 14) hx hb dX8_stepsOf_8 (by decide) ?_
    exact hRet _ _ _ _ _ hf hS dX8_stepsOf_14
theorem calX8_stringsAt : CalS yX8_stringsAt cX8_stringsAt 4 (some .int) 2 := ⟨⟨kw_17_3, kw_1_5, by decide +kernel⟩, kw_17_2⟩
set_option maxHeartbeats 8000000 in
set_option maxRecDepth 100000 in
theorem ctX8_stringsAt (l : Launch) (G : GT) (p0_n : Nat) (p0_q : Nat) (p0_f : Nat → Int32) (v1 : Int32) (r : Int32) (hf : fX8_stringsAt p0_n p0_f v1 = some r) : RdI l yX8_stringsAt (Cond.code yX8_stringsAt cX8_stringsAt 4 (some .int)) { frames := 0, cells := 0, slots := 0, locals := 0 } G [.ref p0_q, .int v1] [arI G p0_q p0_n p0_f] r := by
  intro sz
  refine Met.ofW (cc := cX8_stringsAt) (maxL := 4) (ret := (some .int)) (by decide) rfl ?_
  intro p e s m args below meth c s₁ B hml hv
  obtain ⟨hargs, hsz, hP, hK⟩ := hv
  subst hsz
  obtain ⟨hx, hb, hr, hw, hown, hlk⟩ := fwB B
  refine fw_enter hargs (Nat.le_of_ble_eq_true rfl) (fun ls hl => ?_)
  have hl : lv_has ls 4 [(0, .ref p0_q), (1, .int v1)] := hl
  refine fw_Q (P := fun Q => ∃ A : Nat → Prop, va_S A s.heap s.heap [] ∧ (∀ q, s.heap.size ≤ q → A q) ∧ ∀ (v : Int32) (H : Heap) (locs : List Loc) (pc : Nat) (ls : Array Slot), some v = some r → va_S A s.heap H locs → decode cX8_stringsAt pc = .ok (.ireturn, 1) → W p l e ({ frames := 0, cells := 0, slots := 0, locals := 0 } : Room) s m args below meth c H locs 0 0 Q (F0 m pc ls [.int v])) ⟨fun q => s.heap.size ≤ q, va_S.rf, fun q h => h, fun v H locs pc ls h hS hd => retRI hx hb hr hlk hS h hd⟩ ?_
  rintro Q ⟨A, hS, hA, hRet⟩
  change W p l e ({ frames := 0, cells := 0, slots := 0, locals := 0 } : Room) s m args below meth c _ _ 0 0 Q _
  have L4 : ∀  (K : Int32 → Option Int32) (n : Nat) (l2 : Int32) (l3 : Int32) (H : Heap) (locs : List Loc) (ls : Array Slot), va_P G.1 vwCl [arI G p0_q p0_n p0_f] H → va_S A s.heap H locs → lv_has ls 4 [(0, .ref p0_q), (1, .int v1), (2, .int l2), (3, .int l3)] → fX8_stringsAt_4 p0_n v1 p0_f K n l2 l3 = some r → (∀ (k2 : Int32) (H : Heap) (locs : List Loc) (ls : Array Slot), va_P G.1 vwCl [arI G p0_q p0_n p0_f] H → va_S A s.heap H locs → lv_has ls 4 [(2, .int k2)] → K k2 = some r → W p l e ({ frames := 0, cells := 0, slots := 0, locals := 0 } : Room) s m args below meth c H locs 0 0 Q (F0 m 38 ls [])) → W p l e ({ frames := 0, cells := 0, slots := 0, locals := 0 } : Room) s m args below meth c H locs 0 0 Q (F0 m 4 ls []) := by
    intro  K n
    induction n with
    | zero => intro l2 l3 H locs ls hP hS hl hf; rw [fX8_stringsAt_4] at hf; cases hf
    | succ n ih =>
      intro l2 l3 H locs ls hP hS hl hf hX
      rw [fX8_stringsAt_4] at hf
      refine lv_iload_n hx hb dX8_stringsAt_4 rfl (lv_at hl 3 rfl) ?_
      refine lv_bipush (v := 12) hx hb dX8_stringsAt_5 (by decide) ?_
      refine lv_icmp_ge (tgt := 38) hx hb dX8_stringsAt_7 (by decide) (fun c_1 => ?_) (fun c_1 => ?_)
      · have hf := ip c_1 hf
        exact hX _ _ _ _ hP hS (lv_sub hl [2] rfl) hf
      · have hf := iq c_1 hf
        refine lv_iload_n hx hb dX8_stringsAt_10 rfl (lv_at hl 2 rfl) ?_
        refine lv_aload_n hx hb dX8_stringsAt_11 rfl (lv_at hl 0 rfl) ?_
        refine lv_bipush (v := 42) hx hb dX8_stringsAt_12 (by decide) ?_
        refine lv_bipush (v := 12) hx hb dX8_stringsAt_14 (by decide) ?_
        refine lv_iload_n hx hb dX8_stringsAt_16 rfl (lv_at hl 1 rfl) ?_
        refine lv_imul hx hb dX8_stringsAt_17 ?_
        refine lv_iadd hx hb dX8_stringsAt_18 ?_
        refine lv_iload_n hx hb dX8_stringsAt_19 rfl (lv_at hl 3 rfl) ?_
        refine lv_iadd hx hb dX8_stringsAt_20 ?_
        obtain ⟨hi_3, hf⟩ := rdI_in hf
        refine va_iald hx hb hK.1 hP 0 0 rfl rfl hi_3 dX8_stringsAt_21 ?_
        refine lv_topi (fun x_2 ex_2 => ?_)
        have hf := hf x_2 ex_2
        refine lv_if_le (tgt := 29) hx hb dX8_stringsAt_22 (by decide) (fun c_4 => ?_) (fun c_4 => ?_)
        · have hf := ip c_4 hf
          refine lv_iconst (v := 0) hx hb dX8_stringsAt_29 (by decide) ?_
          refine lv_iadd hx hb dX8_stringsAt_30 ?_
          refine lv_topi (fun y_5 ey_5 => ?_)
          have hf := bnd_all hf y_5 ey_5
          refine lv_istore_n (lv' := [(2, .int y_5), (0, .ref p0_q), (1, .int v1), (3, .int l3)]) hx hb dX8_stringsAt_31 rfl hl (by decide) rfl (fun ls hl => ?_)
          refine lv_iinc (v := (l3 + 1)) (lv' := [(3, .int (l3 + 1)), (2, .int y_5), (0, .ref p0_q), (1, .int v1)]) hx hb dX8_stringsAt_32 hl (k := 3) rfl (by rfl) (by decide) rfl (fun ls hl => ?_)
          refine lv_goto (tgt := 4) hx hb dX8_stringsAt_35 (by decide) ?_
          exact ih _ _ _ _ _ hP hS (lv_sub hl [2, 3, 1, 0] rfl) hf hX
        · have hf := iq c_4 hf
          refine lv_iconst (v := 1) hx hb dX8_stringsAt_25 (by decide) ?_
          refine lv_goto (tgt := 30) hx hb dX8_stringsAt_26 (by decide) ?_
          refine lv_iadd hx hb dX8_stringsAt_30 ?_
          refine lv_topi (fun y_6 ey_6 => ?_)
          have hf := bnd_all hf y_6 ey_6
          refine lv_istore_n (lv' := [(2, .int y_6), (0, .ref p0_q), (1, .int v1), (3, .int l3)]) hx hb dX8_stringsAt_31 rfl hl (by decide) rfl (fun ls hl => ?_)
          refine lv_iinc (v := (l3 + 1)) (lv' := [(3, .int (l3 + 1)), (2, .int y_6), (0, .ref p0_q), (1, .int v1)]) hx hb dX8_stringsAt_32 hl (k := 3) rfl (by rfl) (by decide) rfl (fun ls hl => ?_)
          refine lv_goto (tgt := 4) hx hb dX8_stringsAt_35 (by decide) ?_
          exact ih _ _ _ _ _ hP hS (lv_sub hl [2, 3, 1, 0] rfl) hf hX
  unfold fX8_stringsAt at hf
  refine lv_iconst (v := 0) hx hb dX8_stringsAt_0 (by decide) ?_
  refine lv_istore_n (lv' := [(2, .int 0), (0, .ref p0_q), (1, .int v1)]) hx hb dX8_stringsAt_1 rfl hl (by decide) rfl (fun ls hl => ?_)
  refine lv_iconst (v := 0) hx hb dX8_stringsAt_2 (by decide) ?_
  refine lv_istore_n (lv' := [(3, .int 0), (2, .int 0), (0, .ref p0_q), (1, .int v1)]) hx hb dX8_stringsAt_3 rfl hl (by decide) rfl (fun ls hl => ?_)
  refine L4  _ _ _ _ _ _ _ hP hS (lv_sub hl [2, 3, 1, 0] rfl) hf (fun w_7 H locs ls hP hS hl hf => ?_)
  refine lv_iload_n hx hb dX8_stringsAt_38 rfl (lv_at hl 0 rfl) ?_
  exact hRet _ _ _ _ _ hf hS dX8_stringsAt_39
theorem calX8_isBetween : CalS yX8_isBetween cX8_isBetween 3 (some .boolean) 3 := ⟨⟨kw_17_9, kw_1_5, by decide +kernel⟩, kw_17_8⟩
set_option maxHeartbeats 8000000 in
set_option maxRecDepth 100000 in
theorem ctX8_isBetween (l : Launch) (G : GT) (v0 : Int32) (v1 : Int32) (v2 : Int32) (r : Int32) (hf : fX8_isBetween v0 v1 v2 = some r) : RdI l yX8_isBetween (Cond.code yX8_isBetween cX8_isBetween 3 (some .boolean)) { frames := 0, cells := 0, slots := 0, locals := 0 } G [.int v0, .int v1, .int v2] [] r := by
  intro sz
  refine Met.ofW (cc := cX8_isBetween) (maxL := 3) (ret := (some .boolean)) (by decide) rfl ?_
  intro p e s m args below meth c s₁ B hml hv
  obtain ⟨hargs, hsz, hP, hK⟩ := hv
  subst hsz
  obtain ⟨hx, hb, hr, hw, hown, hlk⟩ := fwB B
  refine fw_enter hargs (Nat.le_of_ble_eq_true rfl) (fun ls hl => ?_)
  have hl : lv_has ls 3 [(0, .int v0), (1, .int v1), (2, .int v2)] := hl
  refine fw_Q (P := fun Q => ∃ A : Nat → Prop, va_S A s.heap s.heap [] ∧ (∀ q, s.heap.size ≤ q → A q) ∧ ∀ (v : Int32) (H : Heap) (locs : List Loc) (pc : Nat) (ls : Array Slot), some v = some r → va_S A s.heap H locs → narrow .boolean (.int v) = .int v → decode cX8_isBetween pc = .ok (.ireturn, 1) → W p l e ({ frames := 0, cells := 0, slots := 0, locals := 0 } : Room) s m args below meth c H locs 0 0 Q (F0 m pc ls [.int v])) ⟨fun q => s.heap.size ≤ q, va_S.rf, fun q h => h, fun v H locs pc ls h hS hn hd => retRZ hx hb hr hlk hS hn h hd⟩ ?_
  rintro Q ⟨A, hS, hA, hRet⟩
  change W p l e ({ frames := 0, cells := 0, slots := 0, locals := 0 } : Room) s m args below meth c _ _ 0 0 Q _
  unfold fX8_isBetween at hf
  refine lv_iload_n hx hb dX8_isBetween_0 rfl (lv_at hl 0 rfl) ?_
  refine lv_iload_n hx hb dX8_isBetween_1 rfl (lv_at hl 1 rfl) ?_
  refine lv_icmp_le (tgt := 14) hx hb dX8_isBetween_2 (by decide) (fun c_1 => ?_) (fun c_1 => ?_)
  · have hf := ip c_1 hf
    refine lv_iconst (v := 0) hx hb dX8_isBetween_14 (by decide) ?_
    exact hRet _ _ _ _ _ hf hS (by decide +kernel) dX8_isBetween_15
  · have hf := iq c_1 hf
    refine lv_iload_n hx hb dX8_isBetween_5 rfl (lv_at hl 0 rfl) ?_
    refine lv_iload_n hx hb dX8_isBetween_6 rfl (lv_at hl 2 rfl) ?_
    refine lv_icmp_ge (tgt := 14) hx hb dX8_isBetween_7 (by decide) (fun c_2 => ?_) (fun c_2 => ?_)
    · have hf := ip c_2 hf
      refine lv_iconst (v := 0) hx hb dX8_isBetween_14 (by decide) ?_
      exact hRet _ _ _ _ _ hf hS (by decide +kernel) dX8_isBetween_15
    · have hf := iq c_2 hf
      refine lv_iconst (v := 1) hx hb dX8_isBetween_10 (by decide) ?_
      refine lv_goto (tgt := 15) hx hb dX8_isBetween_11 (by decide) ?_
      exact hRet _ _ _ _ _ hf hS (by decide +kernel) dX8_isBetween_15
theorem calX8_crosses : CalS yX8_crosses cX8_crosses 6 (some .boolean) 4 := ⟨⟨kw_17_6, kw_1_5, by decide +kernel⟩, kw_17_5⟩
set_option maxHeartbeats 8000000 in
set_option maxRecDepth 100000 in
theorem ctX8_crosses (l : Launch) (G : GT) (v0 : Int32) (v1 : Int32) (v2 : Int32) (v3 : Int32) (r : Int32) (hf : fX8_crosses v0 v1 v2 v3 = some r) : RdI l yX8_crosses (Cond.code yX8_crosses cX8_crosses 6 (some .boolean)) { frames := 1, cells := 0, slots := 0, locals := 22 } G [.int v0, .int v1, .int v2, .int v3] [] r := by
  intro sz
  refine Met.ofW (cc := cX8_crosses) (maxL := 6) (ret := (some .boolean)) (by decide) rfl ?_
  intro p e s m args below meth c s₁ B hml hv
  obtain ⟨hargs, hsz, hP, hK⟩ := hv
  subst hsz
  obtain ⟨hx, hb, hr, hw, hown, hlk⟩ := fwB B
  refine fw_enter hargs (Nat.le_of_ble_eq_true rfl) (fun ls hl => ?_)
  have hl : lv_has ls 6 [(0, .int v0), (1, .int v1), (2, .int v2), (3, .int v3)] := hl
  refine fw_Q (P := fun Q => ∃ A : Nat → Prop, va_S A s.heap s.heap [] ∧ (∀ q, s.heap.size ≤ q → A q) ∧ ∀ (v : Int32) (H : Heap) (locs : List Loc) (pc : Nat) (ls : Array Slot), some v = some r → va_S A s.heap H locs → narrow .boolean (.int v) = .int v → decode cX8_crosses pc = .ok (.ireturn, 1) → W p l e ({ frames := 1, cells := 0, slots := 0, locals := 22 } : Room) s m args below meth c H locs 0 0 Q (F0 m pc ls [.int v])) ⟨fun q => s.heap.size ≤ q, va_S.rf, fun q h => h, fun v H locs pc ls h hS hn hd => retRZ hx hb hr hlk hS hn h hd⟩ ?_
  rintro Q ⟨A, hS, hA, hRet⟩
  change W p l e ({ frames := 1, cells := 0, slots := 0, locals := 22 } : Room) s m args below meth c _ _ 0 0 Q _
  unfold fX8_crosses at hf
  refine lv_iload_n hx hb dX8_crosses_0 rfl (lv_at hl 0 rfl) ?_
  refine lv_iload_n hx hb dX8_crosses_1 rfl (lv_at hl 1 rfl) ?_
  refine jn_el hf (fun k_2 ek_2 hf => ?_)
  have J10 : ∀ (z_1 : Int32) (H : Heap) (locs : List Loc) (ls : Array Slot), va_P G.1 vwCl [] H → va_S A s.heap H locs → lv_has ls 6 [(0, .int v0), (1, .int v1), (2, .int v2), (3, .int v3)] → k_2 z_1 = some r → W p l e ({ frames := 1, cells := 0, slots := 0, locals := 22 } : Room) s m args below meth c H locs 0 0 Q (F0 m 10 ls [.int z_1]) := by
    intro z_1 H locs ls hP hS hl hf
    rw [ek_2] at hf
    refine lv_istore (lv' := [(4, .int z_1), (0, .int v0), (1, .int v1), (2, .int v2), (3, .int v3)]) hx hb dX8_crosses_10 hl (by decide) rfl (fun ls hl => ?_)
    refine lv_iload_n hx hb dX8_crosses_12 rfl (lv_at hl 1 rfl) ?_
    refine lv_iload_n hx hb dX8_crosses_13 rfl (lv_at hl 2 rfl) ?_
    refine jn_el hf (fun k_4 ek_4 hf => ?_)
    have J22 : ∀ (z_3 : Int32) (H : Heap) (locs : List Loc) (ls : Array Slot), va_P G.1 vwCl [] H → va_S A s.heap H locs → lv_has ls 6 [(2, .int v2), (3, .int v3), (4, .int z_1)] → k_4 z_3 = some r → W p l e ({ frames := 1, cells := 0, slots := 0, locals := 22 } : Room) s m args below meth c H locs 0 0 Q (F0 m 22 ls [.int z_3]) := by
      intro z_3 H locs ls hP hS hl hf
      rw [ek_4] at hf
      refine lv_istore (lv' := [(5, .int z_3), (2, .int v2), (3, .int v3), (4, .int z_1)]) hx hb dX8_crosses_22 hl (by decide) rfl (fun ls hl => ?_)
      refine lv_iload_n hx hb dX8_crosses_24 rfl (lv_at hl 1 rfl) ?_
      refine lv_iload hx hb dX8_crosses_25 (lv_at hl 3 rfl) ?_
      refine lv_icmp_eq (tgt := 48) hx hb dX8_crosses_27 (by decide) (fun c_5 => ?_) (fun c_5 => ?_)
      · have hf := ip c_5 hf
        refine lv_iconst (v := 0) hx hb dX8_crosses_48 (by decide) ?_
        exact hRet _ _ _ _ _ hf hS (by decide +kernel) dX8_crosses_49
      · have hf := iq c_5 hf
        refine lv_iload_n hx hb dX8_crosses_30 rfl (lv_at hl 1 rfl) ?_
        refine lv_iload hx hb dX8_crosses_31 (lv_at hl 0 rfl) ?_
        refine lv_icmp_eq (tgt := 48) hx hb dX8_crosses_33 (by decide) (fun c_6 => ?_) (fun c_6 => ?_)
        · have hf := ip c_6 hf
          refine lv_iconst (v := 0) hx hb dX8_crosses_48 (by decide) ?_
          exact hRet _ _ _ _ _ hf hS (by decide +kernel) dX8_crosses_49
        · have hf := iq c_6 hf
          refine lv_iload_n hx hb dX8_crosses_36 rfl (lv_at hl 2 rfl) ?_
          refine lv_iload hx hb dX8_crosses_37 (lv_at hl 3 rfl) ?_
          refine lv_icmp_eq (tgt := 48) hx hb dX8_crosses_39 (by decide) (fun c_7 => ?_) (fun c_7 => ?_)
          · have hf := ip c_7 hf
            refine lv_iconst (v := 0) hx hb dX8_crosses_48 (by decide) ?_
            exact hRet _ _ _ _ _ hf hS (by decide +kernel) dX8_crosses_49
          · have hf := iq c_7 hf
            refine lv_iload_n hx hb dX8_crosses_42 rfl (lv_at hl 2 rfl) ?_
            refine lv_iload hx hb dX8_crosses_43 (lv_at hl 0 rfl) ?_
            refine lv_icmp_ne (tgt := 50) hx hb dX8_crosses_45 (by decide) (fun c_8 => ?_) (fun c_8 => ?_)
            · have hf := iq c_8 hf
              refine lv_iload_n hx hb dX8_crosses_50 rfl (lv_at hl 1 rfl) ?_
              refine lv_iload hx hb dX8_crosses_51 (lv_at hl 3 rfl) ?_
              refine lv_iload hx hb dX8_crosses_53 (lv_at hl 0 rfl) ?_
              obtain ⟨r_9, hc_10, hf⟩ := bd1_in hf
              refine rcI (va_runS (As := [.int v2, .int z_1, .int z_3]) (rest := []) ⟨hx, hb, hml, hown, hw⟩ ((ctX8_isBetween l G v2 z_1 z_3 _ hc_10) _) (kS hw calX8_isBetween kw_17_7 rfl rfl ⟨Nat.le_of_ble_eq_true rfl, Nat.le_of_ble_eq_true rfl⟩) (rpS (hP.sub (ws' := []) [] rfl) hK) rfl rfl hl.1 rfl (lv_room (Nat.le_of_ble_eq_true rfl)) dX8_crosses_55 ⟨Nat.zero_le _, Nat.zero_le _⟩) hS hA hP (fun H locs hP hS => ?_)
              refine lv_iload_n hx hb dX8_crosses_58 rfl (lv_at hl 2 rfl) ?_
              refine lv_iload hx hb dX8_crosses_59 (lv_at hl 3 rfl) ?_
              refine lv_iload hx hb dX8_crosses_61 (lv_at hl 0 rfl) ?_
              obtain ⟨r_11, hc_12, hf⟩ := bd1_in hf
              refine rcI (va_runS (As := [.int v3, .int z_1, .int z_3]) (rest := [.int r_9]) ⟨hx, hb, hml, hown, hw⟩ ((ctX8_isBetween l G v3 z_1 z_3 _ hc_12) _) (kS hw calX8_isBetween kw_17_7 rfl rfl ⟨Nat.le_of_ble_eq_true rfl, Nat.le_of_ble_eq_true rfl⟩) (rpS (hP.sub (ws' := []) [] rfl) hK) rfl rfl hl.1 rfl (lv_room (Nat.le_of_ble_eq_true rfl)) dX8_crosses_63 ⟨Nat.zero_le _, Nat.zero_le _⟩) hS hA hP (fun H locs hP hS => ?_)
              refine lv_icmp_eq (tgt := 73) hx hb dX8_crosses_66 (by decide) (fun c_13 => ?_) (fun c_13 => ?_)
              · have hf := ip c_13 hf
                refine lv_iconst (v := 0) hx hb dX8_crosses_73 (by decide) ?_
                exact hRet _ _ _ _ _ hf hS (by decide +kernel) dX8_crosses_74
              · have hf := iq c_13 hf
                refine lv_iconst (v := 1) hx hb dX8_crosses_69 (by decide) ?_
                refine lv_goto (tgt := 74) hx hb dX8_crosses_70 (by decide) ?_
                exact hRet _ _ _ _ _ hf hS (by decide +kernel) dX8_crosses_74
            · have hf := ip c_8 hf
              refine lv_iconst (v := 0) hx hb dX8_crosses_48 (by decide) ?_
              exact hRet _ _ _ _ _ hf hS (by decide +kernel) dX8_crosses_49
    refine lv_icmp_ge (tgt := 21) hx hb dX8_crosses_14 (by decide) (fun c_14 => ?_) (fun c_14 => ?_)
    · have hf := ip c_14 hf
      refine lv_iload_n hx hb dX8_crosses_21 rfl (lv_at hl 1 rfl) ?_
      exact J22 _ _ _ _ hP hS (lv_sub hl [3, 4, 0] rfl) hf
    · have hf := iq c_14 hf
      refine lv_iload_n hx hb dX8_crosses_17 rfl (lv_at hl 2 rfl) ?_
      refine lv_goto (tgt := 22) hx hb dX8_crosses_18 (by decide) ?_
      exact J22 _ _ _ _ hP hS (lv_sub hl [3, 4, 0] rfl) hf
  refine lv_icmp_ge (tgt := 9) hx hb dX8_crosses_2 (by decide) (fun c_15 => ?_) (fun c_15 => ?_)
  · have hf := ip c_15 hf
    refine lv_iload_n hx hb dX8_crosses_9 rfl (lv_at hl 1 rfl) ?_
    exact J10 _ _ _ _ hP hS (lv_sub hl [0, 1, 2, 3] rfl) hf
  · have hf := iq c_15 hf
    refine lv_iload_n hx hb dX8_crosses_5 rfl (lv_at hl 0 rfl) ?_
    refine lv_goto (tgt := 10) hx hb dX8_crosses_6 (by decide) ?_
    exact J10 _ _ _ _ hP hS (lv_sub hl [0, 1, 2, 3] rfl) hf
theorem calX8_refusesIn : CalS yX8_refusesIn cX8_refusesIn 5 (some .int) 3 := ⟨⟨kw_17_0, kw_1_5, by decide +kernel⟩, kw_16_23⟩
set_option maxHeartbeats 8000000 in
set_option maxRecDepth 100000 in
theorem ctX8_refusesIn (l : Launch) (G : GT) (p0_n : Nat) (p0_q : Nat) (p0_f : Nat → Int32) (v1 : Int32) (v2 : Int32) (r : Int32) (hf : fX8_refusesIn p0_n p0_f v1 v2 = some r) : RdI l yX8_refusesIn (Cond.code yX8_refusesIn cX8_refusesIn 5 (some .int)) { frames := 2, cells := 0, slots := 0, locals := 47 } G [.ref p0_q, .int v1, .int v2] [arI G p0_q p0_n p0_f] r := by
  intro sz
  refine Met.ofW (cc := cX8_refusesIn) (maxL := 5) (ret := (some .int)) (by decide) rfl ?_
  intro p e s m args below meth c s₁ B hml hv
  obtain ⟨hargs, hsz, hP, hK⟩ := hv
  subst hsz
  obtain ⟨hx, hb, hr, hw, hown, hlk⟩ := fwB B
  refine fw_enter hargs (Nat.le_of_ble_eq_true rfl) (fun ls hl => ?_)
  have hl : lv_has ls 5 [(0, .ref p0_q), (1, .int v1), (2, .int v2)] := hl
  refine fw_Q (P := fun Q => ∃ A : Nat → Prop, va_S A s.heap s.heap [] ∧ (∀ q, s.heap.size ≤ q → A q) ∧ ∀ (v : Int32) (H : Heap) (locs : List Loc) (pc : Nat) (ls : Array Slot), some v = some r → va_S A s.heap H locs → decode cX8_refusesIn pc = .ok (.ireturn, 1) → W p l e ({ frames := 2, cells := 0, slots := 0, locals := 47 } : Room) s m args below meth c H locs 0 0 Q (F0 m pc ls [.int v])) ⟨fun q => s.heap.size ≤ q, va_S.rf, fun q h => h, fun v H locs pc ls h hS hd => retRI hx hb hr hlk hS h hd⟩ ?_
  rintro Q ⟨A, hS, hA, hRet⟩
  change W p l e ({ frames := 2, cells := 0, slots := 0, locals := 47 } : Room) s m args below meth c _ _ 0 0 Q _
  have L60 : ∀ (l3 : Int32) (K : Option Int32) (n : Nat) (l4 : Int32) (H : Heap) (locs : List Loc) (ls : Array Slot), va_P G.1 vwCl [arI G p0_q p0_n p0_f] H → va_S A s.heap H locs → lv_has ls 5 [(0, .ref p0_q), (1, .int v1), (2, .int v2), (3, .int l3), (4, .int l4)] → fX8_refusesIn_60 p0_n v1 v2 l3 p0_f K n l4 = some r → (∀  (H : Heap) (locs : List Loc) (ls : Array Slot), va_P G.1 vwCl [arI G p0_q p0_n p0_f] H → va_S A s.heap H locs → lv_has ls 5 [(0, .ref p0_q), (1, .int v1), (2, .int v2), (3, .int l3)] → K = some r → W p l e ({ frames := 2, cells := 0, slots := 0, locals := 47 } : Room) s m args below meth c H locs 0 0 Q (F0 m 102 ls [])) → W p l e ({ frames := 2, cells := 0, slots := 0, locals := 47 } : Room) s m args below meth c H locs 0 0 Q (F0 m 60 ls []) := by
    intro l3 K n
    induction n with
    | zero => intro l4 H locs ls hP hS hl hf; rw [fX8_refusesIn_60] at hf; cases hf
    | succ n ih =>
      intro l4 H locs ls hP hS hl hf hX
      rw [fX8_refusesIn_60] at hf
      refine lv_iload hx hb dX8_refusesIn_60 (lv_at hl 4 rfl) ?_
      refine lv_aload_n hx hb dX8_refusesIn_62 rfl (lv_at hl 0 rfl) ?_
      refine lv_iconst (v := 0) hx hb dX8_refusesIn_63 (by decide) ?_
      obtain ⟨hi_19, hf⟩ := rdI_in hf
      refine va_iald hx hb hK.1 hP 0 0 rfl rfl hi_19 dX8_refusesIn_64 ?_
      refine lv_topi (fun x_18 ex_18 => ?_)
      have hf := hf x_18 ex_18
      refine lv_icmp_ge (tgt := 102) hx hb dX8_refusesIn_65 (by decide) (fun c_20 => ?_) (fun c_20 => ?_)
      · have hf := ip c_20 hf
        exact hX  _ _ _ hP hS (lv_sub hl [0, 1, 2, 3] rfl) hf
      · have hf := iq c_20 hf
        refine lv_aload_n hx hb dX8_refusesIn_68 rfl (lv_at hl 0 rfl) ?_
        refine lv_bipush (v := 42) hx hb dX8_refusesIn_69 (by decide) ?_
        refine lv_bipush (v := 12) hx hb dX8_refusesIn_71 (by decide) ?_
        refine lv_iload_n hx hb dX8_refusesIn_73 rfl (lv_at hl 3 rfl) ?_
        refine lv_imul hx hb dX8_refusesIn_74 ?_
        refine lv_iadd hx hb dX8_refusesIn_75 ?_
        refine lv_iload hx hb dX8_refusesIn_76 (lv_at hl 4 rfl) ?_
        refine lv_iadd hx hb dX8_refusesIn_78 ?_
        obtain ⟨hi_22, hf⟩ := rdI_in hf
        refine va_iald hx hb hK.1 hP 0 0 rfl rfl hi_22 dX8_refusesIn_79 ?_
        refine lv_topi (fun x_21 ex_21 => ?_)
        have hf := hf x_21 ex_21
        refine lv_if_le (tgt := 96) hx hb dX8_refusesIn_80 (by decide) (fun c_23 => ?_) (fun c_23 => ?_)
        · have hf := ip c_23 hf
          refine lv_iinc (v := (l4 + 1)) (lv' := [(4, .int (l4 + 1)), (0, .ref p0_q), (1, .int v1), (2, .int v2), (3, .int l3)]) hx hb dX8_refusesIn_96 hl (k := 4) rfl (by rfl) (by decide) rfl (fun ls hl => ?_)
          refine lv_goto (tgt := 60) hx hb dX8_refusesIn_99 (by decide) ?_
          exact ih _ _ _ _ hP hS (lv_sub hl [1, 2, 3, 4, 0] rfl) hf hX
        · have hf := iq c_23 hf
          refine lv_iload_n hx hb dX8_refusesIn_83 rfl (lv_at hl 1 rfl) ?_
          refine lv_iload_n hx hb dX8_refusesIn_84 rfl (lv_at hl 2 rfl) ?_
          refine lv_iload_n hx hb dX8_refusesIn_85 rfl (lv_at hl 3 rfl) ?_
          refine lv_iload hx hb dX8_refusesIn_86 (lv_at hl 4 rfl) ?_
          obtain ⟨r_24, hc_25, hf⟩ := bd1_in hf
          refine rcI (va_runS (As := [.int v1, .int v2, .int l3, .int l4]) (rest := []) ⟨hx, hb, hml, hown, hw⟩ ((ctX8_crosses l G v1 v2 l3 l4 _ hc_25) _) (kS hw calX8_crosses kw_17_4 rfl rfl ⟨Nat.le_of_ble_eq_true rfl, Nat.le_of_ble_eq_true rfl⟩) (rpS (hP.sub (ws' := []) [] rfl) hK) rfl rfl hl.1 rfl (lv_room (Nat.le_of_ble_eq_true rfl)) dX8_refusesIn_88 ⟨Nat.zero_le _, Nat.zero_le _⟩) hS hA hP (fun H locs hP hS => ?_)
          refine lv_if_eq (tgt := 96) hx hb dX8_refusesIn_91 (by decide) (fun c_26 => ?_) (fun c_26 => ?_)
          · have hf := ip c_26 hf
            refine lv_iinc (v := (l4 + 1)) (lv' := [(4, .int (l4 + 1)), (0, .ref p0_q), (1, .int v1), (2, .int v2), (3, .int l3)]) hx hb dX8_refusesIn_96 hl (k := 4) rfl (by rfl) (by decide) rfl (fun ls hl => ?_)
            refine lv_goto (tgt := 60) hx hb dX8_refusesIn_99 (by decide) ?_
            exact ih _ _ _ _ hP hS (lv_sub hl [1, 2, 3, 4, 0] rfl) hf hX
          · have hf := iq c_26 hf
            refine lv_iconst (v := 4) hx hb dX8_refusesIn_94 (by decide) ?_
            exact hRet _ _ _ _ _ hf hS dX8_refusesIn_95
  have L48 : ∀  (K : Option Int32) (n : Nat) (l3 : Int32) (H : Heap) (locs : List Loc) (ls : Array Slot), va_P G.1 vwCl [arI G p0_q p0_n p0_f] H → va_S A s.heap H locs → lv_has ls 5 [(0, .ref p0_q), (1, .int v1), (2, .int v2), (3, .int l3)] → fX8_refusesIn_48 p0_n v1 v2 p0_f K n l3 = some r → (∀  (H : Heap) (locs : List Loc) (ls : Array Slot), va_P G.1 vwCl [arI G p0_q p0_n p0_f] H → va_S A s.heap H locs → lv_has ls 5 [] → K = some r → W p l e ({ frames := 2, cells := 0, slots := 0, locals := 47 } : Room) s m args below meth c H locs 0 0 Q (F0 m 108 ls [])) → W p l e ({ frames := 2, cells := 0, slots := 0, locals := 47 } : Room) s m args below meth c H locs 0 0 Q (F0 m 48 ls []) := by
    intro  K n
    induction n with
    | zero => intro l3 H locs ls hP hS hl hf; rw [fX8_refusesIn_48] at hf; cases hf
    | succ n ih =>
      intro l3 H locs ls hP hS hl hf hX
      rw [fX8_refusesIn_48] at hf
      refine lv_iload_n hx hb dX8_refusesIn_48 rfl (lv_at hl 3 rfl) ?_
      refine lv_aload_n hx hb dX8_refusesIn_49 rfl (lv_at hl 0 rfl) ?_
      refine lv_iconst (v := 0) hx hb dX8_refusesIn_50 (by decide) ?_
      obtain ⟨hi_15, hf⟩ := rdI_in hf
      refine va_iald hx hb hK.1 hP 0 0 rfl rfl hi_15 dX8_refusesIn_51 ?_
      refine lv_topi (fun x_14 ex_14 => ?_)
      have hf := hf x_14 ex_14
      refine lv_icmp_ge (tgt := 108) hx hb dX8_refusesIn_52 (by decide) (fun c_16 => ?_) (fun c_16 => ?_)
      · have hf := ip c_16 hf
        exact hX  _ _ _ hP hS (lv_sub hl [] rfl) hf
      · have hf := iq c_16 hf
        refine lv_iload_n hx hb dX8_refusesIn_55 rfl (lv_at hl 3 rfl) ?_
        refine lv_iconst (v := 1) hx hb dX8_refusesIn_56 (by decide) ?_
        refine lv_iadd hx hb dX8_refusesIn_57 ?_
        refine lv_topi (fun y_17 ey_17 => ?_)
        have hf := bnd_all hf y_17 ey_17
        refine lv_istore (lv' := [(4, .int y_17), (0, .ref p0_q), (1, .int v1), (2, .int v2), (3, .int l3)]) hx hb dX8_refusesIn_58 hl (by decide) rfl (fun ls hl => ?_)
        refine L60 _ _ _ _ _ _ _ hP hS (lv_sub hl [1, 2, 3, 4, 0] rfl) hf (fun  H locs ls hP hS hl hf => ?_)
        refine lv_iinc (v := (l3 + 1)) (lv' := [(3, .int (l3 + 1)), (0, .ref p0_q), (1, .int v1), (2, .int v2)]) hx hb dX8_refusesIn_102 hl (k := 3) rfl (by rfl) (by decide) rfl (fun ls hl => ?_)
        refine lv_goto (tgt := 48) hx hb dX8_refusesIn_105 (by decide) ?_
        exact ih _ _ _ _ hP hS (lv_sub hl [1, 2, 3, 0] rfl) hf hX
  unfold fX8_refusesIn at hf
  refine lv_aload_n hx hb dX8_refusesIn_0 rfl (lv_at hl 0 rfl) ?_
  refine lv_bipush (v := 42) hx hb dX8_refusesIn_1 (by decide) ?_
  refine lv_bipush (v := 12) hx hb dX8_refusesIn_3 (by decide) ?_
  refine lv_iload_n hx hb dX8_refusesIn_5 rfl (lv_at hl 1 rfl) ?_
  refine lv_imul hx hb dX8_refusesIn_6 ?_
  refine lv_iadd hx hb dX8_refusesIn_7 ?_
  refine lv_iload_n hx hb dX8_refusesIn_8 rfl (lv_at hl 2 rfl) ?_
  refine lv_iadd hx hb dX8_refusesIn_9 ?_
  obtain ⟨hi_2, hf⟩ := rdI_in hf
  refine va_iald hx hb hK.1 hP 0 0 rfl rfl hi_2 dX8_refusesIn_10 ?_
  refine lv_topi (fun x_1 ex_1 => ?_)
  have hf := hf x_1 ex_1
  refine lv_if_le (tgt := 16) hx hb dX8_refusesIn_11 (by decide) (fun c_3 => ?_) (fun c_3 => ?_)
  · have hf := ip c_3 hf
    refine lv_aload_n hx hb dX8_refusesIn_16 rfl (lv_at hl 0 rfl) ?_
    refine lv_iload_n hx hb dX8_refusesIn_17 rfl (lv_at hl 1 rfl) ?_
    obtain ⟨r_4, hc_5, hf⟩ := bd1_in hf
    refine rcI (va_runS (As := [.ref p0_q, .int v1]) (rest := []) ⟨hx, hb, hml, hown, hw⟩ ((ctX8_stringsAt l G p0_n p0_q p0_f v1 _ hc_5) _) (kS hw calX8_stringsAt kw_17_1 rfl rfl ⟨Nat.le_of_ble_eq_true rfl, Nat.le_of_ble_eq_true rfl⟩) (rpS (hP.sub (ws' := [arI G p0_q p0_n p0_f]) [0] rfl) hK) rfl rfl hl.1 rfl (lv_room (Nat.le_of_ble_eq_true rfl)) dX8_refusesIn_18 ⟨Nat.zero_le _, Nat.zero_le _⟩) hS hA hP (fun H locs hP hS => ?_)
    refine lv_aload_n hx hb dX8_refusesIn_21 rfl (lv_at hl 0 rfl) ?_
    refine lv_bipush (v := 6) hx hb dX8_refusesIn_22 (by decide) ?_
    refine lv_iload_n hx hb dX8_refusesIn_24 rfl (lv_at hl 1 rfl) ?_
    refine lv_iadd hx hb dX8_refusesIn_25 ?_
    obtain ⟨hi_7, hf⟩ := rdI_in hf
    refine va_iald hx hb hK.1 hP 0 0 rfl rfl hi_7 dX8_refusesIn_26 ?_
    refine lv_topi (fun x_6 ex_6 => ?_)
    have hf := hf x_6 ex_6
    refine lv_icmp_ge (tgt := 44) hx hb dX8_refusesIn_27 (by decide) (fun c_8 => ?_) (fun c_8 => ?_)
    · have hf := ip c_8 hf
      refine lv_iconst (v := 3) hx hb dX8_refusesIn_44 (by decide) ?_
      exact hRet _ _ _ _ _ hf hS dX8_refusesIn_45
    · have hf := iq c_8 hf
      refine lv_aload_n hx hb dX8_refusesIn_30 rfl (lv_at hl 0 rfl) ?_
      refine lv_iload_n hx hb dX8_refusesIn_31 rfl (lv_at hl 2 rfl) ?_
      obtain ⟨r_9, hc_10, hf⟩ := bd1_in hf
      refine rcI (va_runS (As := [.ref p0_q, .int v2]) (rest := []) ⟨hx, hb, hml, hown, hw⟩ ((ctX8_stringsAt l G p0_n p0_q p0_f v2 _ hc_10) _) (kS hw calX8_stringsAt kw_17_1 rfl rfl ⟨Nat.le_of_ble_eq_true rfl, Nat.le_of_ble_eq_true rfl⟩) (rpS (hP.sub (ws' := [arI G p0_q p0_n p0_f]) [0] rfl) hK) rfl rfl hl.1 rfl (lv_room (Nat.le_of_ble_eq_true rfl)) dX8_refusesIn_32 ⟨Nat.zero_le _, Nat.zero_le _⟩) hS hA hP (fun H locs hP hS => ?_)
      refine lv_aload_n hx hb dX8_refusesIn_35 rfl (lv_at hl 0 rfl) ?_
      refine lv_bipush (v := 6) hx hb dX8_refusesIn_36 (by decide) ?_
      refine lv_iload_n hx hb dX8_refusesIn_38 rfl (lv_at hl 2 rfl) ?_
      refine lv_iadd hx hb dX8_refusesIn_39 ?_
      obtain ⟨hi_12, hf⟩ := rdI_in hf
      refine va_iald hx hb hK.1 hP 0 0 rfl rfl hi_12 dX8_refusesIn_40 ?_
      refine lv_topi (fun x_11 ex_11 => ?_)
      have hf := hf x_11 ex_11
      refine lv_icmp_lt (tgt := 46) hx hb dX8_refusesIn_41 (by decide) (fun c_13 => ?_) (fun c_13 => ?_)
      · have hf := ip c_13 hf
        refine lv_iconst (v := 0) hx hb dX8_refusesIn_46 (by decide) ?_
        refine lv_istore_n (lv' := [(3, .int 0), (0, .ref p0_q), (1, .int v1), (2, .int v2)]) hx hb dX8_refusesIn_47 rfl hl (by decide) rfl (fun ls hl => ?_)
        refine L48  _ _ _ _ _ _ hP hS (lv_sub hl [1, 2, 3, 0] rfl) hf (fun  H locs ls hP hS hl hf => ?_)
        refine lv_iconst (v := 0) hx hb dX8_refusesIn_108 (by decide) ?_
        exact hRet _ _ _ _ _ hf hS dX8_refusesIn_109
      · have hf := iq c_13 hf
        refine lv_iconst (v := 3) hx hb dX8_refusesIn_44 (by decide) ?_
        exact hRet _ _ _ _ _ hf hS dX8_refusesIn_45
  · have hf := iq c_3 hf
    refine lv_iconst (v := 2) hx hb dX8_refusesIn_14 (by decide) ?_
    exact hRet _ _ _ _ _ hf hS dX8_refusesIn_15
theorem calX8_sets : CalS yX8_sets cX8_sets 4 none 4 := ⟨⟨kw_17_12, kw_1_5, by decide +kernel⟩, kw_17_11⟩
set_option maxHeartbeats 8000000 in
set_option maxRecDepth 100000 in
theorem ctX8_sets (l : Launch) (G : GT) (p0_n : Nat) (p0_q : Nat) (p0_f : Nat → Int32) (v1 : Int32) (v2 : Int32) (v3 : Int32) (o_p0_f : Nat → Int32) (hf : fX8_sets p0_n p0_f v1 v2 v3 = some o_p0_f) : WrV l yX8_sets (Cond.code yX8_sets cX8_sets 4 none) { frames := 0, cells := 0, slots := 0, locals := 0 } G [.ref p0_q, .int v1, .int v2, .int v3] [arI G p0_q p0_n p0_f] [arI G p0_q p0_n o_p0_f] := by
  intro sz
  refine Met.ofW (cc := cX8_sets) (maxL := 4) (ret := none) (by decide) rfl ?_
  intro p e s m args below meth c s₁ B hml hv
  obtain ⟨hargs, hsz, hP, hD0, hK⟩ := hv
  subst hsz
  obtain ⟨hx, hb, hr, hw, hown, hlk⟩ := fwB B
  refine fw_enter hargs (Nat.le_of_ble_eq_true rfl) (fun ls hl => ?_)
  have hl : lv_has ls 4 [(0, .ref p0_q), (1, .int v1), (2, .int v2), (3, .int v3)] := hl
  refine fw_Q (P := fun Q => ∃ A : Nat → Prop, va_D A [arI G p0_q p0_n p0_f] ∧ va_S A s.heap s.heap [] ∧ (∀ q, s.heap.size ≤ q → A q) ∧ ∀ (n_p0_f : Nat → Int32) (H : Heap) (locs : List Loc) (pc : Nat) (ls : Array Slot), some n_p0_f = some o_p0_f → va_P G.1 vwCl [arI G p0_q p0_n n_p0_f] H → va_S A s.heap H locs → decode cX8_sets pc = .ok (.return_, 1) → W p l e ({ frames := 0, cells := 0, slots := 0, locals := 0 } : Room) s m args below meth c H locs 0 0 Q (F0 m pc ls [])) ⟨va_A [arI G p0_q p0_n p0_f] s.heap.size, hD0.self (sz := s.heap.size), va_S.rf, fun q h => Or.inr h, ?_⟩ ?_
  · intro n_p0_f H locs pc ls h hP hS hd
    cases h
    exact retWV hx hb hr hlk hS hP hd
  rintro Q ⟨A, hD, hS, hA, hRet⟩
  change W p l e ({ frames := 0, cells := 0, slots := 0, locals := 0 } : Room) s m args below meth c _ _ 0 0 Q _
  unfold fX8_sets at hf
  refine lv_aload_n hx hb dX8_sets_0 rfl (lv_at hl 0 rfl) ?_
  refine lv_bipush (v := 42) hx hb dX8_sets_1 (by decide) ?_
  refine lv_bipush (v := 12) hx hb dX8_sets_3 (by decide) ?_
  refine lv_iload_n hx hb dX8_sets_5 rfl (lv_at hl 1 rfl) ?_
  refine lv_imul hx hb dX8_sets_6 ?_
  refine lv_iadd hx hb dX8_sets_7 ?_
  refine lv_iload_n hx hb dX8_sets_8 rfl (lv_at hl 2 rfl) ?_
  refine lv_iadd hx hb dX8_sets_9 ?_
  refine lv_iload_n hx hb dX8_sets_10 rfl (lv_at hl 3 rfl) ?_
  obtain ⟨hi_2, hf⟩ := wrI_in hf
  refine xiast hx hb hK.1 hP hD hS 0 0 rfl rfl hi_2 dX8_sets_11 (fun p0_f_1 H locs ep0_f_1 hP hD hS => ?_)
  have hf := hf p0_f_1 ep0_f_1
  have hP : va_P G.1 vwCl [arI G p0_q p0_n p0_f_1] H := hP
  have hD : va_D A [arI G p0_q p0_n p0_f_1] := hD
  refine lv_aload_n hx hb dX8_sets_12 rfl (lv_at hl 0 rfl) ?_
  refine lv_bipush (v := 42) hx hb dX8_sets_13 (by decide) ?_
  refine lv_bipush (v := 12) hx hb dX8_sets_15 (by decide) ?_
  refine lv_iload_n hx hb dX8_sets_17 rfl (lv_at hl 2 rfl) ?_
  refine lv_imul hx hb dX8_sets_18 ?_
  refine lv_iadd hx hb dX8_sets_19 ?_
  refine lv_iload_n hx hb dX8_sets_20 rfl (lv_at hl 1 rfl) ?_
  refine lv_iadd hx hb dX8_sets_21 ?_
  refine lv_iload_n hx hb dX8_sets_22 rfl (lv_at hl 3 rfl) ?_
  obtain ⟨hi_4, hf⟩ := wrI_in hf
  refine xiast hx hb hK.1 hP hD hS 0 0 rfl rfl hi_4 dX8_sets_23 (fun p0_f_3 H locs ep0_f_3 hP hD hS => ?_)
  have hf := hf p0_f_3 ep0_f_3
  have hP : va_P G.1 vwCl [arI G p0_q p0_n p0_f_3] H := hP
  have hD : va_D A [arI G p0_q p0_n p0_f_3] := hD
  exact hRet _ _ _ _ _ hf hP hS dX8_sets_24
theorem calX8_fault : CalV yX8_fault cX8_fault 2 (some .int) 1 := ⟨⟨kw_17_20, kw_1_5, by decide +kernel⟩, kw_17_18, kw_17_19⟩
set_option maxHeartbeats 8000000 in
set_option maxRecDepth 100000 in
theorem ctX8_fault (l : Launch) (G : GT) (t_h : Nat) (t_a : Nat → Nat) (t_thrown : Int32) (t_taped : Int32) (t_at : Int32) (t_behind : Int32) (t_size : Int32) (t_kind : Int32) (t_number : Int32) (t_wrong : Int32) (t_wrongAt : Int32) (t_faultKind : Int32) (t_faultPlace : Int32) (t_x : Int32) (t_wayLong : Int32) (t_bothLeast : Int32) (v1 : Int32) (r : Int32) (o_t_thrown : Int32) (hf : fX8_fault t_thrown t_faultKind t_faultPlace v1 = some (r, o_t_thrown)) : WrI l yX8_fault (Cond.code yX8_fault cX8_fault 2 (some .int)) { frames := 0, cells := 0, slots := 0, locals := 0 } G [.ref t_h, .int v1] [oX8 t_h t_a t_thrown t_taped t_at t_behind t_size t_kind t_number t_wrong t_wrongAt t_faultKind t_faultPlace t_x t_wayLong t_bothLeast] [oX8 t_h t_a o_t_thrown t_taped t_at t_behind t_size t_kind t_number t_wrong t_wrongAt t_faultKind t_faultPlace t_x t_wayLong t_bothLeast] r := by
  intro sz
  refine Met.ofW (cc := cX8_fault) (maxL := 2) (ret := (some .int)) (by decide) rfl ?_
  intro p e s m args below meth c s₁ B hml hv
  obtain ⟨hargs, hsz, hP, hD0, hK⟩ := hv
  subst hsz
  obtain ⟨hx, hb, hr, hw, hown, hlk⟩ := fwB B
  refine fw_enter hargs (Nat.le_of_ble_eq_true rfl) (fun ls hl => ?_)
  have hl : lv_has ls 2 [(0, .ref t_h), (1, .int v1)] := hl
  refine fw_Q (P := fun Q => ∃ A : Nat → Prop, va_D A [oX8 t_h t_a t_thrown t_taped t_at t_behind t_size t_kind t_number t_wrong t_wrongAt t_faultKind t_faultPlace t_x t_wayLong t_bothLeast] ∧ va_S A s.heap s.heap [] ∧ (∀ q, s.heap.size ≤ q → A q) ∧ ∀ (v : Int32) (n_t_thrown : Int32) (H : Heap) (locs : List Loc) (pc : Nat) (ls : Array Slot), some (v, n_t_thrown) = some (r, o_t_thrown) → va_P G.1 vwCl [oX8 t_h t_a n_t_thrown t_taped t_at t_behind t_size t_kind t_number t_wrong t_wrongAt t_faultKind t_faultPlace t_x t_wayLong t_bothLeast] H → va_S A s.heap H locs → decode cX8_fault pc = .ok (.ireturn, 1) → W p l e ({ frames := 0, cells := 0, slots := 0, locals := 0 } : Room) s m args below meth c H locs 0 0 Q (F0 m pc ls [.int v])) ⟨va_A [oX8 t_h t_a t_thrown t_taped t_at t_behind t_size t_kind t_number t_wrong t_wrongAt t_faultKind t_faultPlace t_x t_wayLong t_bothLeast] s.heap.size, hD0.self (sz := s.heap.size), va_S.rf, fun q h => Or.inr h, ?_⟩ ?_
  · intro v n_t_thrown H locs pc ls h hP hS hd
    cases h
    exact retWI hx hb hr hlk hS hP rfl hd
  rintro Q ⟨A, hD, hS, hA, hRet⟩
  change W p l e ({ frames := 0, cells := 0, slots := 0, locals := 0 } : Room) s m args below meth c _ _ 0 0 Q _
  unfold fX8_fault at hf
  refine lv_aload_n hx hb dX8_fault_0 rfl (lv_at hl 0 rfl) ?_
  refine lv_iconst (v := 0) hx hb dX8_fault_1 (by decide) ?_
  refine va_put (D := G.1) (ci := 8) (v := .int 0) (ty := .int) (C := RX8) (T := TX8) (N := 33) hx hb hw inW8 tyX8 tyX8_ok nmX8 hown hK.1 hP hD hS 0 rfl rfl 0 (by decide) (hw _ kw_6_21) (fun _ h9 => h9) rfl (by decide +kernel) rfl rfl (Nat.le_of_ble_eq_true rfl) dX8_fault_2 (fun H locs hP hD hS => ?_)
  have hP : va_P G.1 vwCl [oX8 t_h t_a 0 t_taped t_at t_behind t_size t_kind t_number t_wrong t_wrongAt t_faultKind t_faultPlace t_x t_wayLong t_bothLeast] H := hP
  have hD : va_D A [oX8 t_h t_a 0 t_taped t_at t_behind t_size t_kind t_number t_wrong t_wrongAt t_faultKind t_faultPlace t_x t_wayLong t_bothLeast] := hD
  refine lv_iload_n hx hb dX8_fault_5 rfl (lv_at hl 1 rfl) ?_
  refine lv_if_ne (tgt := 16) hx hb dX8_fault_6 (by decide) (fun c_1 => ?_) (fun c_1 => ?_)
  · have hf := iq c_1 hf
    refine lv_iload_n hx hb dX8_fault_16 rfl (lv_at hl 1 rfl) ?_
    refine lv_iconst (v := 1) hx hb dX8_fault_17 (by decide) ?_
    refine lv_icmp_ne (tgt := 28) hx hb dX8_fault_18 (by decide) (fun c_2 => ?_) (fun c_2 => ?_)
    · have hf := iq c_2 hf
      refine lv_iconst (v := (-1)) hx hb dX8_fault_28 (by decide) ?_
      exact hRet _ _ _ _ _ _ hf hP hS dX8_fault_29
    · have hf := ip c_2 hf
      refine lv_aload_n hx hb dX8_fault_21 rfl (lv_at hl 0 rfl) ?_
      refine va_get (D := G.1) (ci := 8) (v := .int t_faultPlace) (C := RX8) (T := TX8) (N := 33) hx hb hw inW8 hown hK.1 hP 0 rfl rfl 14 (by decide) (hw _ kw_5_15) (fun _ h9 => h9) rfl dX8_fault_22 ?_
      refine lv_goto (tgt := 29) hx hb dX8_fault_25 (by decide) ?_
      exact hRet _ _ _ _ _ _ hf hP hS dX8_fault_29
  · have hf := ip c_1 hf
    refine lv_aload_n hx hb dX8_fault_9 rfl (lv_at hl 0 rfl) ?_
    refine va_get (D := G.1) (ci := 8) (v := .int t_faultKind) (C := RX8) (T := TX8) (N := 33) hx hb hw inW8 hown hK.1 hP 0 rfl rfl 13 (by decide) (hw _ kw_14_0) (fun _ h9 => h9) rfl dX8_fault_10 ?_
    refine lv_goto (tgt := 29) hx hb dX8_fault_13 (by decide) ?_
    exact hRet _ _ _ _ _ _ hf hP hS dX8_fault_29
theorem calX8_isWindow : CalV yX8_isWindow cX8_isWindow 3 (some .boolean) 1 := ⟨⟨kw_20_7, kw_1_5, by decide +kernel⟩, kw_20_5, kw_20_6⟩
set_option maxHeartbeats 8000000 in
set_option maxRecDepth 100000 in
theorem ctX8_isWindow (l : Launch) (G : GT) (t_h : Nat) (t_a : Nat → Nat) (t_thrown : Int32) (t_all : Nat → Int32) (t_taped : Int32) (t_at : Int32) (t_behind : Int32) (t_size : Int32) (t_kind : Int32) (t_number : Int32) (t_wrong : Int32) (t_wrongAt : Int32) (t_faultKind : Int32) (t_faultPlace : Int32) (t_x : Int32) (t_wayLong : Int32) (t_bothLeast : Int32) (v1 : Int64) (r : Int32) (hf : fX8_isWindow t_all v1 = some r) : RdI l yX8_isWindow (Cond.code yX8_isWindow cX8_isWindow 3 (some .boolean)) { frames := 1, cells := 0, slots := 0, locals := 25 } G [.ref t_h, .long v1] [oX8 t_h t_a t_thrown t_taped t_at t_behind t_size t_kind t_number t_wrong t_wrongAt t_faultKind t_faultPlace t_x t_wayLong t_bothLeast, arI G (t_a 1) 558 t_all] r := by
  intro sz
  refine Met.ofW (cc := cX8_isWindow) (maxL := 3) (ret := (some .boolean)) (by decide) rfl ?_
  intro p e s m args below meth c s₁ B hml hv
  obtain ⟨hargs, hsz, hP, hK⟩ := hv
  subst hsz
  obtain ⟨hx, hb, hr, hw, hown, hlk⟩ := fwB B
  refine fw_enter hargs (Nat.le_of_ble_eq_true rfl) (fun ls hl => ?_)
  have hl : lv_has ls 3 [(0, .ref t_h), (1, .long v1)] := hl
  refine fw_Q (P := fun Q => ∃ A : Nat → Prop, va_S A s.heap s.heap [] ∧ (∀ q, s.heap.size ≤ q → A q) ∧ ∀ (v : Int32) (H : Heap) (locs : List Loc) (pc : Nat) (ls : Array Slot), some v = some r → va_S A s.heap H locs → narrow .boolean (.int v) = .int v → decode cX8_isWindow pc = .ok (.ireturn, 1) → W p l e ({ frames := 1, cells := 0, slots := 0, locals := 25 } : Room) s m args below meth c H locs 0 0 Q (F0 m pc ls [.int v])) ⟨fun q => s.heap.size ≤ q, va_S.rf, fun q h => h, fun v H locs pc ls h hS hn hd => retRZ hx hb hr hlk hS hn h hd⟩ ?_
  rintro Q ⟨A, hS, hA, hRet⟩
  change W p l e ({ frames := 1, cells := 0, slots := 0, locals := 25 } : Room) s m args below meth c _ _ 0 0 Q _
  unfold fX8_isWindow at hf
  refine lv_lload_n hx hb dX8_isWindow_0 rfl (lv_at hl 1 rfl) ?_
  refine lv_lconst (v := 0) hx hb dX8_isWindow_1 (by decide) ?_
  refine lv_aload_n hx hb dX8_isWindow_2 rfl (lv_at hl 0 rfl) ?_
  refine va_get (D := G.1) (ci := 8) (v := .ref (t_a 1)) (C := RX8) (T := TX8) (N := 33) hx hb hw inW8 hown hK.1 hP 0 rfl rfl 1 (by decide) (hw _ kw_5_11) (fun _ h9 => h9) rfl dX8_isWindow_3 ?_
  refine lv_iconst (v := 0) hx hb dX8_isWindow_6 (by decide) ?_
  obtain ⟨hi_2, hf⟩ := rdI_in hf
  refine va_iald hx hb hK.1 hP 1 0 rfl rfl hi_2 dX8_isWindow_7 ?_
  refine lv_topi (fun x_1 ex_1 => ?_)
  have hf := hf x_1 ex_1
  refine lv_iconst (v := 1) hx hb dX8_isWindow_8 (by decide) ?_
  refine lv_isub hx hb dX8_isWindow_9 ?_
  refine lv_i2l hx hb dX8_isWindow_10 rfl ?_
  obtain ⟨r_3, hc_4, hf⟩ := bd1_in hf
  refine rcI (va_runS (As := [.long v1, .long 0, .long (Int32.toInt64 (x_1 - 1))]) (rest := []) ⟨hx, hb, hml, hown, hw⟩ ((ctX8_within l G v1 0 (Int32.toInt64 (x_1 - 1)) _ hc_4) _) (kS hw calX8_within kw_14_2 rfl rfl ⟨Nat.le_of_ble_eq_true rfl, Nat.le_of_ble_eq_true rfl⟩) (rpS (hP.sub (ws' := []) [] rfl) hK) rfl rfl hl.1 rfl (lv_room (Nat.le_of_ble_eq_true rfl)) dX8_isWindow_11 ⟨Nat.zero_le _, Nat.zero_le _⟩) hS hA hP (fun H locs hP hS => ?_)
  obtain ⟨hzn, hf⟩ := bzI_in hf
  exact hRet _ _ _ _ _ hf hS hzn dX8_isWindow_14
theorem calX8_isPair : CalV yX8_isPair cX8_isPair 3 (some .boolean) 1 := ⟨⟨kw_21_16, kw_1_5, by decide +kernel⟩, kw_21_14, kw_21_15⟩
set_option maxHeartbeats 8000000 in
set_option maxRecDepth 100000 in
theorem ctX8_isPair (l : Launch) (G : GT) (t_h : Nat) (t_a : Nat → Nat) (t_thrown : Int32) (t_all : Nat → Int32) (t_taped : Int32) (t_at : Int32) (t_behind : Int32) (t_size : Int32) (t_kind : Int32) (t_number : Int32) (t_wrong : Int32) (t_wrongAt : Int32) (t_faultKind : Int32) (t_faultPlace : Int32) (t_x : Int32) (t_wayLong : Int32) (t_bothLeast : Int32) (v1 : Int64) (r : Int32) (hf : fX8_isPair t_all v1 = some r) : RdI l yX8_isPair (Cond.code yX8_isPair cX8_isPair 3 (some .boolean)) { frames := 2, cells := 0, slots := 0, locals := 47 } G [.ref t_h, .long v1] [oX8 t_h t_a t_thrown t_taped t_at t_behind t_size t_kind t_number t_wrong t_wrongAt t_faultKind t_faultPlace t_x t_wayLong t_bothLeast, arI G (t_a 1) 558 t_all] r := by
  intro sz
  refine Met.ofW (cc := cX8_isPair) (maxL := 3) (ret := (some .boolean)) (by decide) rfl ?_
  intro p e s m args below meth c s₁ B hml hv
  obtain ⟨hargs, hsz, hP, hK⟩ := hv
  subst hsz
  obtain ⟨hx, hb, hr, hw, hown, hlk⟩ := fwB B
  refine fw_enter hargs (Nat.le_of_ble_eq_true rfl) (fun ls hl => ?_)
  have hl : lv_has ls 3 [(0, .ref t_h), (1, .long v1)] := hl
  refine fw_Q (P := fun Q => ∃ A : Nat → Prop, va_S A s.heap s.heap [] ∧ (∀ q, s.heap.size ≤ q → A q) ∧ ∀ (v : Int32) (H : Heap) (locs : List Loc) (pc : Nat) (ls : Array Slot), some v = some r → va_S A s.heap H locs → narrow .boolean (.int v) = .int v → decode cX8_isPair pc = .ok (.ireturn, 1) → W p l e ({ frames := 2, cells := 0, slots := 0, locals := 47 } : Room) s m args below meth c H locs 0 0 Q (F0 m pc ls [.int v])) ⟨fun q => s.heap.size ≤ q, va_S.rf, fun q h => h, fun v H locs pc ls h hS hn hd => retRZ hx hb hr hlk hS hn h hd⟩ ?_
  rintro Q ⟨A, hS, hA, hRet⟩
  change W p l e ({ frames := 2, cells := 0, slots := 0, locals := 47 } : Room) s m args below meth c _ _ 0 0 Q _
  unfold fX8_isPair at hf
  refine lv_lload_n hx hb dX8_isPair_0 rfl (lv_at hl 1 rfl) ?_
  refine lv_lconst (v := 0) hx hb dX8_isPair_1 (by decide) ?_
  refine W.lcmp hx hb dX8_isPair_2 ?_
  refine lv_if_lt (tgt := 48) hx hb dX8_isPair_3 (by decide) (fun c_1 => ?_) (fun c_1 => ?_)
  · have hf := ip c_1 hf
    refine lv_iconst (v := 0) hx hb dX8_isPair_48 (by decide) ?_
    exact hRet _ _ _ _ _ hf hS (by decide +kernel) dX8_isPair_49
  · have hf := iq c_1 hf
    refine lv_aload_n hx hb dX8_isPair_6 rfl (lv_at hl 0 rfl) ?_
    refine lv_lload_n hx hb dX8_isPair_7 rfl (lv_at hl 1 rfl) ?_
    refine lv_ldc2 hx hb hown (hw _ kw_21_17) dX8_isPair_8 ?_
    refine lv_ldiv hx hb dX8_isPair_11 (by decide) ?_
    obtain ⟨r_2, hc_3, hf⟩ := bd1_in hf
    refine rcI (va_runV (As := [.long (v1 / 20)]) (rest := []) ⟨hx, hb, hml, hown, hw⟩ ((ctX8_isWindow l G t_h t_a t_thrown t_all t_taped t_at t_behind t_size t_kind t_number t_wrong t_wrongAt t_faultKind t_faultPlace t_x t_wayLong t_bothLeast (v1 / 20) _ hc_3) _) (kV hw calX8_isWindow kw_20_4 rfl rfl ⟨Nat.le_of_ble_eq_true rfl, Nat.le_of_ble_eq_true rfl⟩) (rpV (hP.sub (ws' := [oX8 t_h t_a t_thrown t_taped t_at t_behind t_size t_kind t_number t_wrong t_wrongAt t_faultKind t_faultPlace t_x t_wayLong t_bothLeast, arI G (t_a 1) 558 t_all]) [0, 1] rfl) hK (ci := 8) (q0 := 0) rfl rfl) rfl rfl hl.1 rfl (lv_room (Nat.le_of_ble_eq_true rfl)) dX8_isPair_12 ⟨Nat.zero_le _, Nat.zero_le _⟩) hS hA hP (fun H locs hP hS => ?_)
    refine lv_if_eq (tgt := 48) hx hb dX8_isPair_15 (by decide) (fun c_4 => ?_) (fun c_4 => ?_)
    · have hf := ip c_4 hf
      refine lv_iconst (v := 0) hx hb dX8_isPair_48 (by decide) ?_
      exact hRet _ _ _ _ _ hf hS (by decide +kernel) dX8_isPair_49
    · have hf := iq c_4 hf
      refine lv_aload_n hx hb dX8_isPair_18 rfl (lv_at hl 0 rfl) ?_
      refine lv_lload_n hx hb dX8_isPair_19 rfl (lv_at hl 1 rfl) ?_
      refine lv_ldc2 hx hb hown (hw _ kw_21_17) dX8_isPair_20 ?_
      refine lv_lrem hx hb dX8_isPair_23 (by decide) ?_
      obtain ⟨r_5, hc_6, hf⟩ := bd1_in hf
      refine rcI (va_runV (As := [.long (v1 - v1 / 20 * 20)]) (rest := []) ⟨hx, hb, hml, hown, hw⟩ ((ctX8_isWindow l G t_h t_a t_thrown t_all t_taped t_at t_behind t_size t_kind t_number t_wrong t_wrongAt t_faultKind t_faultPlace t_x t_wayLong t_bothLeast (v1 - v1 / 20 * 20) _ hc_6) _) (kV hw calX8_isWindow kw_20_4 rfl rfl ⟨Nat.le_of_ble_eq_true rfl, Nat.le_of_ble_eq_true rfl⟩) (rpV (hP.sub (ws' := [oX8 t_h t_a t_thrown t_taped t_at t_behind t_size t_kind t_number t_wrong t_wrongAt t_faultKind t_faultPlace t_x t_wayLong t_bothLeast, arI G (t_a 1) 558 t_all]) [0, 1] rfl) hK (ci := 8) (q0 := 0) rfl rfl) rfl rfl hl.1 rfl (lv_room (Nat.le_of_ble_eq_true rfl)) dX8_isPair_24 ⟨Nat.zero_le _, Nat.zero_le _⟩) hS hA hP (fun H locs hP hS => ?_)
      refine lv_if_eq (tgt := 48) hx hb dX8_isPair_27 (by decide) (fun c_7 => ?_) (fun c_7 => ?_)
      · have hf := ip c_7 hf
        refine lv_iconst (v := 0) hx hb dX8_isPair_48 (by decide) ?_
        exact hRet _ _ _ _ _ hf hS (by decide +kernel) dX8_isPair_49
      · have hf := iq c_7 hf
        refine lv_lload_n hx hb dX8_isPair_30 rfl (lv_at hl 1 rfl) ?_
        refine lv_ldc2 hx hb hown (hw _ kw_21_17) dX8_isPair_31 ?_
        refine lv_ldiv hx hb dX8_isPair_34 (by decide) ?_
        refine lv_lload_n hx hb dX8_isPair_35 rfl (lv_at hl 1 rfl) ?_
        refine lv_ldc2 hx hb hown (hw _ kw_21_17) dX8_isPair_36 ?_
        refine lv_lrem hx hb dX8_isPair_39 (by decide) ?_
        refine W.lcmp hx hb dX8_isPair_40 ?_
        refine lv_if_ge (tgt := 48) hx hb dX8_isPair_41 (by decide) (fun c_8 => ?_) (fun c_8 => ?_)
        · have hf := ip c_8 hf
          refine lv_iconst (v := 0) hx hb dX8_isPair_48 (by decide) ?_
          exact hRet _ _ _ _ _ hf hS (by decide +kernel) dX8_isPair_49
        · have hf := iq c_8 hf
          refine lv_iconst (v := 1) hx hb dX8_isPair_44 (by decide) ?_
          refine lv_goto (tgt := 49) hx hb dX8_isPair_45 (by decide) ?_
          exact hRet _ _ _ _ _ hf hS (by decide +kernel) dX8_isPair_49
theorem calX8_knotsOf : CalV yX8_knotsOf cX8_knotsOf 3 (some .int) 2 := ⟨⟨kw_22_14, kw_1_5, by decide +kernel⟩, kw_22_12, kw_22_13⟩
set_option maxHeartbeats 8000000 in
set_option maxRecDepth 100000 in
theorem ctX8_knotsOf (l : Launch) (G : GT) (t_h : Nat) (t_a : Nat → Nat) (t_thrown : Int32) (t_all : Nat → Int32) (t_taped : Int32) (t_at : Int32) (t_behind : Int32) (t_size : Int32) (t_kind : Int32) (t_number : Int32) (t_wrong : Int32) (t_wrongAt : Int32) (t_faultKind : Int32) (t_faultPlace : Int32) (t_x : Int32) (t_wayLong : Int32) (t_bothLeast : Int32) (v1 : Int32) (v2 : Int32) (r : Int32) (hf : fX8_knotsOf t_all v1 v2 = some r) : RdI l yX8_knotsOf (Cond.code yX8_knotsOf cX8_knotsOf 3 (some .int)) { frames := 0, cells := 0, slots := 0, locals := 0 } G [.ref t_h, .int v1, .int v2] [oX8 t_h t_a t_thrown t_taped t_at t_behind t_size t_kind t_number t_wrong t_wrongAt t_faultKind t_faultPlace t_x t_wayLong t_bothLeast, arI G (t_a 1) 558 t_all] r := by
  intro sz
  refine Met.ofW (cc := cX8_knotsOf) (maxL := 3) (ret := (some .int)) (by decide) rfl ?_
  intro p e s m args below meth c s₁ B hml hv
  obtain ⟨hargs, hsz, hP, hK⟩ := hv
  subst hsz
  obtain ⟨hx, hb, hr, hw, hown, hlk⟩ := fwB B
  refine fw_enter hargs (Nat.le_of_ble_eq_true rfl) (fun ls hl => ?_)
  have hl : lv_has ls 3 [(0, .ref t_h), (1, .int v1), (2, .int v2)] := hl
  refine fw_Q (P := fun Q => ∃ A : Nat → Prop, va_S A s.heap s.heap [] ∧ (∀ q, s.heap.size ≤ q → A q) ∧ ∀ (v : Int32) (H : Heap) (locs : List Loc) (pc : Nat) (ls : Array Slot), some v = some r → va_S A s.heap H locs → decode cX8_knotsOf pc = .ok (.ireturn, 1) → W p l e ({ frames := 0, cells := 0, slots := 0, locals := 0 } : Room) s m args below meth c H locs 0 0 Q (F0 m pc ls [.int v])) ⟨fun q => s.heap.size ≤ q, va_S.rf, fun q h => h, fun v H locs pc ls h hS hd => retRI hx hb hr hlk hS h hd⟩ ?_
  rintro Q ⟨A, hS, hA, hRet⟩
  change W p l e ({ frames := 0, cells := 0, slots := 0, locals := 0 } : Room) s m args below meth c _ _ 0 0 Q _
  unfold fX8_knotsOf at hf
  refine lv_aload_n hx hb dX8_knotsOf_0 rfl (lv_at hl 0 rfl) ?_
  refine va_get (D := G.1) (ci := 8) (v := .ref (t_a 1)) (C := RX8) (T := TX8) (N := 33) hx hb hw inW8 hown hK.1 hP 0 rfl rfl 1 (by decide) (hw _ kw_5_11) (fun _ h9 => h9) rfl dX8_knotsOf_1 ?_
  refine lv_bipush (v := 42) hx hb dX8_knotsOf_4 (by decide) ?_
  refine lv_bipush (v := 12) hx hb dX8_knotsOf_6 (by decide) ?_
  refine lv_iload_n hx hb dX8_knotsOf_8 rfl (lv_at hl 1 rfl) ?_
  refine lv_imul hx hb dX8_knotsOf_9 ?_
  refine lv_iadd hx hb dX8_knotsOf_10 ?_
  refine lv_iload_n hx hb dX8_knotsOf_11 rfl (lv_at hl 2 rfl) ?_
  refine lv_iadd hx hb dX8_knotsOf_12 ?_
  obtain ⟨hi_2, hf⟩ := rdI_in hf
  refine va_iald hx hb hK.1 hP 1 0 rfl rfl hi_2 dX8_knotsOf_13 ?_
  refine lv_topi (fun x_1 ex_1 => ?_)
  have hf := hf x_1 ex_1
  refine lv_iconst (v := 1) hx hb dX8_knotsOf_14 (by decide) ?_
  refine lv_isub hx hb dX8_knotsOf_15 ?_
  exact hRet _ _ _ _ _ hf hS dX8_knotsOf_16
theorem calX8_isTied : CalV yX8_isTied cX8_isTied 3 (some .boolean) 2 := ⟨⟨kw_20_19, kw_1_5, by decide +kernel⟩, kw_20_17, kw_20_18⟩
set_option maxHeartbeats 8000000 in
set_option maxRecDepth 100000 in
theorem ctX8_isTied (l : Launch) (G : GT) (t_h : Nat) (t_a : Nat → Nat) (t_thrown : Int32) (t_all : Nat → Int32) (t_taped : Int32) (t_at : Int32) (t_behind : Int32) (t_size : Int32) (t_kind : Int32) (t_number : Int32) (t_wrong : Int32) (t_wrongAt : Int32) (t_faultKind : Int32) (t_faultPlace : Int32) (t_x : Int32) (t_wayLong : Int32) (t_bothLeast : Int32) (v1 : Int32) (v2 : Int32) (r : Int32) (hf : fX8_isTied t_all v1 v2 = some r) : RdI l yX8_isTied (Cond.code yX8_isTied cX8_isTied 3 (some .boolean)) { frames := 0, cells := 0, slots := 0, locals := 0 } G [.ref t_h, .int v1, .int v2] [oX8 t_h t_a t_thrown t_taped t_at t_behind t_size t_kind t_number t_wrong t_wrongAt t_faultKind t_faultPlace t_x t_wayLong t_bothLeast, arI G (t_a 1) 558 t_all] r := by
  intro sz
  refine Met.ofW (cc := cX8_isTied) (maxL := 3) (ret := (some .boolean)) (by decide) rfl ?_
  intro p e s m args below meth c s₁ B hml hv
  obtain ⟨hargs, hsz, hP, hK⟩ := hv
  subst hsz
  obtain ⟨hx, hb, hr, hw, hown, hlk⟩ := fwB B
  refine fw_enter hargs (Nat.le_of_ble_eq_true rfl) (fun ls hl => ?_)
  have hl : lv_has ls 3 [(0, .ref t_h), (1, .int v1), (2, .int v2)] := hl
  refine fw_Q (P := fun Q => ∃ A : Nat → Prop, va_S A s.heap s.heap [] ∧ (∀ q, s.heap.size ≤ q → A q) ∧ ∀ (v : Int32) (H : Heap) (locs : List Loc) (pc : Nat) (ls : Array Slot), some v = some r → va_S A s.heap H locs → narrow .boolean (.int v) = .int v → decode cX8_isTied pc = .ok (.ireturn, 1) → W p l e ({ frames := 0, cells := 0, slots := 0, locals := 0 } : Room) s m args below meth c H locs 0 0 Q (F0 m pc ls [.int v])) ⟨fun q => s.heap.size ≤ q, va_S.rf, fun q h => h, fun v H locs pc ls h hS hn hd => retRZ hx hb hr hlk hS hn h hd⟩ ?_
  rintro Q ⟨A, hS, hA, hRet⟩
  change W p l e ({ frames := 0, cells := 0, slots := 0, locals := 0 } : Room) s m args below meth c _ _ 0 0 Q _
  unfold fX8_isTied at hf
  refine lv_aload_n hx hb dX8_isTied_0 rfl (lv_at hl 0 rfl) ?_
  refine va_get (D := G.1) (ci := 8) (v := .ref (t_a 1)) (C := RX8) (T := TX8) (N := 33) hx hb hw inW8 hown hK.1 hP 0 rfl rfl 1 (by decide) (hw _ kw_5_11) (fun _ h9 => h9) rfl dX8_isTied_1 ?_
  refine lv_bipush (v := 42) hx hb dX8_isTied_4 (by decide) ?_
  refine lv_bipush (v := 12) hx hb dX8_isTied_6 (by decide) ?_
  refine lv_iload_n hx hb dX8_isTied_8 rfl (lv_at hl 1 rfl) ?_
  refine lv_imul hx hb dX8_isTied_9 ?_
  refine lv_iadd hx hb dX8_isTied_10 ?_
  refine lv_iload_n hx hb dX8_isTied_11 rfl (lv_at hl 2 rfl) ?_
  refine lv_iadd hx hb dX8_isTied_12 ?_
  obtain ⟨hi_2, hf⟩ := rdI_in hf
  refine va_iald hx hb hK.1 hP 1 0 rfl rfl hi_2 dX8_isTied_13 ?_
  refine lv_topi (fun x_1 ex_1 => ?_)
  have hf := hf x_1 ex_1
  refine lv_if_le (tgt := 21) hx hb dX8_isTied_14 (by decide) (fun c_3 => ?_) (fun c_3 => ?_)
  · have hf := ip c_3 hf
    refine lv_iconst (v := 0) hx hb dX8_isTied_21 (by decide) ?_
    exact hRet _ _ _ _ _ hf hS (by decide +kernel) dX8_isTied_22
  · have hf := iq c_3 hf
    refine lv_iconst (v := 1) hx hb dX8_isTied_17 (by decide) ?_
    refine lv_goto (tgt := 22) hx hb dX8_isTied_18 (by decide) ?_
    exact hRet _ _ _ _ _ hf hS (by decide +kernel) dX8_isTied_22
theorem calX8_lengthOf : CalV yX8_lengthOf cX8_lengthOf 4 (some .int) 2 := ⟨⟨kw_22_10, kw_1_5, by decide +kernel⟩, kw_22_8, kw_22_9⟩
set_option maxHeartbeats 8000000 in
set_option maxRecDepth 100000 in
theorem ctX8_lengthOf (l : Launch) (G : GT) (t_h : Nat) (t_a : Nat → Nat) (t_thrown : Int32) (t_all : Nat → Int32) (t_taped : Int32) (t_at : Int32) (t_behind : Int32) (t_size : Int32) (t_kind : Int32) (t_number : Int32) (t_wrong : Int32) (t_wrongAt : Int32) (t_faultKind : Int32) (t_faultPlace : Int32) (t_x : Int32) (t_wayLong : Int32) (t_bothLeast : Int32) (v1 : Int32) (v2 : Int32) (r : Int32) (hf : fX8_lengthOf t_all v1 v2 = some r) : RdI l yX8_lengthOf (Cond.code yX8_lengthOf cX8_lengthOf 4 (some .int)) { frames := 1, cells := 0, slots := 0, locals := 21 } G [.ref t_h, .int v1, .int v2] [oX8 t_h t_a t_thrown t_taped t_at t_behind t_size t_kind t_number t_wrong t_wrongAt t_faultKind t_faultPlace t_x t_wayLong t_bothLeast, arI G (t_a 1) 558 t_all] r := by
  intro sz
  refine Met.ofW (cc := cX8_lengthOf) (maxL := 4) (ret := (some .int)) (by decide) rfl ?_
  intro p e s m args below meth c s₁ B hml hv
  obtain ⟨hargs, hsz, hP, hK⟩ := hv
  subst hsz
  obtain ⟨hx, hb, hr, hw, hown, hlk⟩ := fwB B
  refine fw_enter hargs (Nat.le_of_ble_eq_true rfl) (fun ls hl => ?_)
  have hl : lv_has ls 4 [(0, .ref t_h), (1, .int v1), (2, .int v2)] := hl
  refine fw_Q (P := fun Q => ∃ A : Nat → Prop, va_S A s.heap s.heap [] ∧ (∀ q, s.heap.size ≤ q → A q) ∧ ∀ (v : Int32) (H : Heap) (locs : List Loc) (pc : Nat) (ls : Array Slot), some v = some r → va_S A s.heap H locs → decode cX8_lengthOf pc = .ok (.ireturn, 1) → W p l e ({ frames := 1, cells := 0, slots := 0, locals := 21 } : Room) s m args below meth c H locs 0 0 Q (F0 m pc ls [.int v])) ⟨fun q => s.heap.size ≤ q, va_S.rf, fun q h => h, fun v H locs pc ls h hS hd => retRI hx hb hr hlk hS h hd⟩ ?_
  rintro Q ⟨A, hS, hA, hRet⟩
  change W p l e ({ frames := 1, cells := 0, slots := 0, locals := 21 } : Room) s m args below meth c _ _ 0 0 Q _
  unfold fX8_lengthOf at hf
  refine lv_iload_n hx hb dX8_lengthOf_0 rfl (lv_at hl 1 rfl) ?_
  refine lv_iload_n hx hb dX8_lengthOf_1 rfl (lv_at hl 2 rfl) ?_
  obtain ⟨r_1, hc_2, hf⟩ := bd1_in hf
  refine rcI (va_runS (As := [.int v1, .int v2]) (rest := []) ⟨hx, hb, hml, hown, hw⟩ ((ctX8_stepsOf l G v1 v2 _ hc_2) _) (kS hw calX8_stepsOf kw_16_7 rfl rfl ⟨Nat.le_of_ble_eq_true rfl, Nat.le_of_ble_eq_true rfl⟩) (rpS (hP.sub (ws' := []) [] rfl) hK) rfl rfl hl.1 rfl (lv_room (Nat.le_of_ble_eq_true rfl)) dX8_lengthOf_2 ⟨Nat.zero_le _, Nat.zero_le _⟩) hS hA hP (fun H locs hP hS => ?_)
  refine lv_istore_n (lv' := [(3, .int r_1), (0, .ref t_h), (1, .int v1), (2, .int v2)]) hx hb dX8_lengthOf_5 rfl hl (by decide) rfl (fun ls hl => ?_)
  refine lv_iload_n hx hb dX8_lengthOf_6 rfl (lv_at hl 0 rfl) ?_
  refine lv_aload_n hx hb dX8_lengthOf_7 rfl (lv_at hl 1 rfl) ?_
  refine va_get (D := G.1) (ci := 8) (v := .ref (t_a 1)) (C := RX8) (T := TX8) (N := 33) hx hb hw inW8 hown hK.1 hP 0 rfl rfl 1 (by decide) (hw _ kw_5_11) (fun _ h9 => h9) rfl dX8_lengthOf_8 ?_
  refine lv_iconst (v := 0) hx hb dX8_lengthOf_11 (by decide) ?_
  obtain ⟨hi_4, hf⟩ := rdI_in hf
  refine va_iald hx hb hK.1 hP 1 0 rfl rfl hi_4 dX8_lengthOf_12 ?_
  refine lv_topi (fun x_3 ex_3 => ?_)
  have hf := hf x_3 ex_3
  refine lv_iload_n hx hb dX8_lengthOf_13 rfl (lv_at hl 0 rfl) ?_
  refine lv_isub hx hb dX8_lengthOf_14 ?_
  refine lv_imul hx hb dX8_lengthOf_15 ?_
  exact hRet _ _ _ _ _ hf hS dX8_lengthOf_16
theorem calX8_lossOf : CalV yX8_lossOf cX8_lossOf 3 (some .int) 2 := ⟨⟨kw_22_18, kw_1_5, by decide +kernel⟩, kw_22_16, kw_22_17⟩
set_option maxHeartbeats 8000000 in
set_option maxRecDepth 100000 in
theorem ctX8_lossOf (l : Launch) (G : GT) (t_h : Nat) (t_a : Nat → Nat) (t_thrown : Int32) (t_all : Nat → Int32) (t_taped : Int32) (t_at : Int32) (t_behind : Int32) (t_size : Int32) (t_kind : Int32) (t_number : Int32) (t_wrong : Int32) (t_wrongAt : Int32) (t_faultKind : Int32) (t_faultPlace : Int32) (t_x : Int32) (t_wayLong : Int32) (t_bothLeast : Int32) (v1 : Int32) (v2 : Int32) (r : Int32) (hf : fX8_lossOf t_all v1 v2 = some r) : RdI l yX8_lossOf (Cond.code yX8_lossOf cX8_lossOf 3 (some .int)) { frames := 2, cells := 0, slots := 0, locals := 44 } G [.ref t_h, .int v1, .int v2] [oX8 t_h t_a t_thrown t_taped t_at t_behind t_size t_kind t_number t_wrong t_wrongAt t_faultKind t_faultPlace t_x t_wayLong t_bothLeast, arI G (t_a 1) 558 t_all] r := by
  intro sz
  refine Met.ofW (cc := cX8_lossOf) (maxL := 3) (ret := (some .int)) (by decide) rfl ?_
  intro p e s m args below meth c s₁ B hml hv
  obtain ⟨hargs, hsz, hP, hK⟩ := hv
  subst hsz
  obtain ⟨hx, hb, hr, hw, hown, hlk⟩ := fwB B
  refine fw_enter hargs (Nat.le_of_ble_eq_true rfl) (fun ls hl => ?_)
  have hl : lv_has ls 3 [(0, .ref t_h), (1, .int v1), (2, .int v2)] := hl
  refine fw_Q (P := fun Q => ∃ A : Nat → Prop, va_S A s.heap s.heap [] ∧ (∀ q, s.heap.size ≤ q → A q) ∧ ∀ (v : Int32) (H : Heap) (locs : List Loc) (pc : Nat) (ls : Array Slot), some v = some r → va_S A s.heap H locs → decode cX8_lossOf pc = .ok (.ireturn, 1) → W p l e ({ frames := 2, cells := 0, slots := 0, locals := 44 } : Room) s m args below meth c H locs 0 0 Q (F0 m pc ls [.int v])) ⟨fun q => s.heap.size ≤ q, va_S.rf, fun q h => h, fun v H locs pc ls h hS hd => retRI hx hb hr hlk hS h hd⟩ ?_
  rintro Q ⟨A, hS, hA, hRet⟩
  change W p l e ({ frames := 2, cells := 0, slots := 0, locals := 44 } : Room) s m args below meth c _ _ 0 0 Q _
  unfold fX8_lossOf at hf
  refine lv_aload_n hx hb dX8_lossOf_0 rfl (lv_at hl 0 rfl) ?_
  refine lv_iload_n hx hb dX8_lossOf_1 rfl (lv_at hl 1 rfl) ?_
  refine lv_iload_n hx hb dX8_lossOf_2 rfl (lv_at hl 2 rfl) ?_
  obtain ⟨r_1, hc_2, hf⟩ := bd1_in hf
  refine rcI (va_runV (As := [.int v1, .int v2]) (rest := []) ⟨hx, hb, hml, hown, hw⟩ ((ctX8_lengthOf l G t_h t_a t_thrown t_all t_taped t_at t_behind t_size t_kind t_number t_wrong t_wrongAt t_faultKind t_faultPlace t_x t_wayLong t_bothLeast v1 v2 _ hc_2) _) (kV hw calX8_lengthOf kw_22_7 rfl rfl ⟨Nat.le_of_ble_eq_true rfl, Nat.le_of_ble_eq_true rfl⟩) (rpV (hP.sub (ws' := [oX8 t_h t_a t_thrown t_taped t_at t_behind t_size t_kind t_number t_wrong t_wrongAt t_faultKind t_faultPlace t_x t_wayLong t_bothLeast, arI G (t_a 1) 558 t_all]) [0, 1] rfl) hK (ci := 8) (q0 := 0) rfl rfl) rfl rfl hl.1 rfl (lv_room (Nat.le_of_ble_eq_true rfl)) dX8_lossOf_3 ⟨Nat.zero_le _, Nat.zero_le _⟩) hS hA hP (fun H locs hP hS => ?_)
  refine lv_bipush (v := 10) hx hb dX8_lossOf_6 (by decide) ?_
  refine lv_aload_n hx hb dX8_lossOf_8 rfl (lv_at hl 0 rfl) ?_
  refine va_get (D := G.1) (ci := 8) (v := .ref (t_a 1)) (C := RX8) (T := TX8) (N := 33) hx hb hw inW8 hown hK.1 hP 0 rfl rfl 1 (by decide) (hw _ kw_5_11) (fun _ h9 => h9) rfl dX8_lossOf_9 ?_
  refine lv_iconst (v := 2) hx hb dX8_lossOf_12 (by decide) ?_
  obtain ⟨hi_4, hf⟩ := rdI_in hf
  refine va_iald hx hb hK.1 hP 1 0 rfl rfl hi_4 dX8_lossOf_13 ?_
  refine lv_topi (fun x_3 ex_3 => ?_)
  have hf := hf x_3 ex_3
  refine lv_iadd hx hb dX8_lossOf_14 ?_
  refine lv_imul hx hb dX8_lossOf_15 ?_
  refine lv_bipush (v := 10) hx hb dX8_lossOf_16 (by decide) ?_
  refine lv_idiv hx hb dX8_lossOf_18 (by decide) ?_
  refine lv_aload_n hx hb dX8_lossOf_19 rfl (lv_at hl 0 rfl) ?_
  refine lv_iload_n hx hb dX8_lossOf_20 rfl (lv_at hl 1 rfl) ?_
  refine lv_iload_n hx hb dX8_lossOf_21 rfl (lv_at hl 2 rfl) ?_
  obtain ⟨r_5, hc_6, hf⟩ := bd1_in hf
  refine rcI (va_runV (As := [.int v1, .int v2]) (rest := [.int ((r_1 * (10 + x_3)) / 10)]) ⟨hx, hb, hml, hown, hw⟩ ((ctX8_isTied l G t_h t_a t_thrown t_all t_taped t_at t_behind t_size t_kind t_number t_wrong t_wrongAt t_faultKind t_faultPlace t_x t_wayLong t_bothLeast v1 v2 _ hc_6) _) (kV hw calX8_isTied kw_20_16 rfl rfl ⟨Nat.le_of_ble_eq_true rfl, Nat.le_of_ble_eq_true rfl⟩) (rpV (hP.sub (ws' := [oX8 t_h t_a t_thrown t_taped t_at t_behind t_size t_kind t_number t_wrong t_wrongAt t_faultKind t_faultPlace t_x t_wayLong t_bothLeast, arI G (t_a 1) 558 t_all]) [0, 1] rfl) hK (ci := 8) (q0 := 0) rfl rfl) rfl rfl hl.1 rfl (lv_room (Nat.le_of_ble_eq_true rfl)) dX8_lossOf_22 ⟨Nat.zero_le _, Nat.zero_le _⟩) hS hA hP (fun H locs hP hS => ?_)
  refine lv_if_eq (tgt := 39) hx hb dX8_lossOf_25 (by decide) (fun c_7 => ?_) (fun c_7 => ?_)
  · have hf := ip c_7 hf
    refine lv_iconst (v := 0) hx hb dX8_lossOf_39 (by decide) ?_
    refine lv_iadd hx hb dX8_lossOf_40 ?_
    exact hRet _ _ _ _ _ hf hS dX8_lossOf_41
  · have hf := iq c_7 hf
    refine lv_iconst (v := 3) hx hb dX8_lossOf_28 (by decide) ?_
    refine lv_aload_n hx hb dX8_lossOf_29 rfl (lv_at hl 0 rfl) ?_
    refine lv_iload_n hx hb dX8_lossOf_30 rfl (lv_at hl 1 rfl) ?_
    refine lv_iload_n hx hb dX8_lossOf_31 rfl (lv_at hl 2 rfl) ?_
    obtain ⟨r_8, hc_9, hf⟩ := bd1_in hf
    refine rcI (va_runV (As := [.int v1, .int v2]) (rest := [.int 3, .int ((r_1 * (10 + x_3)) / 10)]) ⟨hx, hb, hml, hown, hw⟩ ((ctX8_knotsOf l G t_h t_a t_thrown t_all t_taped t_at t_behind t_size t_kind t_number t_wrong t_wrongAt t_faultKind t_faultPlace t_x t_wayLong t_bothLeast v1 v2 _ hc_9) _) (kV hw calX8_knotsOf kw_22_11 rfl rfl ⟨Nat.le_of_ble_eq_true rfl, Nat.le_of_ble_eq_true rfl⟩) (rpV (hP.sub (ws' := [oX8 t_h t_a t_thrown t_taped t_at t_behind t_size t_kind t_number t_wrong t_wrongAt t_faultKind t_faultPlace t_x t_wayLong t_bothLeast, arI G (t_a 1) 558 t_all]) [0, 1] rfl) hK (ci := 8) (q0 := 0) rfl rfl) rfl rfl hl.1 rfl (lv_room (Nat.le_of_ble_eq_true rfl)) dX8_lossOf_32 ⟨Nat.zero_le _, Nat.zero_le _⟩) hS hA hP (fun H locs hP hS => ?_)
    refine lv_imul hx hb dX8_lossOf_35 ?_
    refine lv_goto (tgt := 40) hx hb dX8_lossOf_36 (by decide) ?_
    refine lv_iadd hx hb dX8_lossOf_40 ?_
    exact hRet _ _ _ _ _ hf hS dX8_lossOf_41
theorem calX8_isSlackAt : CalV yX8_isSlackAt cX8_isSlackAt 5 (some .boolean) 3 := ⟨⟨kw_20_23, kw_1_5, by decide +kernel⟩, kw_20_21, kw_20_22⟩
set_option maxHeartbeats 8000000 in
set_option maxRecDepth 100000 in
theorem ctX8_isSlackAt (l : Launch) (G : GT) (t_h : Nat) (t_a : Nat → Nat) (t_thrown : Int32) (t_all : Nat → Int32) (t_taped : Int32) (t_at : Int32) (t_behind : Int32) (t_size : Int32) (t_kind : Int32) (t_number : Int32) (t_wrong : Int32) (t_wrongAt : Int32) (t_faultKind : Int32) (t_faultPlace : Int32) (t_x : Int32) (t_wayLong : Int32) (t_bothLeast : Int32) (v1 : Int32) (v2 : Int32) (v3 : Int32) (r : Int32) (hf : fX8_isSlackAt t_all v1 v2 v3 = some r) : RdI l yX8_isSlackAt (Cond.code yX8_isSlackAt cX8_isSlackAt 5 (some .boolean)) { frames := 2, cells := 0, slots := 0, locals := 47 } G [.ref t_h, .int v1, .int v2, .int v3] [oX8 t_h t_a t_thrown t_taped t_at t_behind t_size t_kind t_number t_wrong t_wrongAt t_faultKind t_faultPlace t_x t_wayLong t_bothLeast, arI G (t_a 1) 558 t_all] r := by
  intro sz
  refine Met.ofW (cc := cX8_isSlackAt) (maxL := 5) (ret := (some .boolean)) (by decide) rfl ?_
  intro p e s m args below meth c s₁ B hml hv
  obtain ⟨hargs, hsz, hP, hK⟩ := hv
  subst hsz
  obtain ⟨hx, hb, hr, hw, hown, hlk⟩ := fwB B
  refine fw_enter hargs (Nat.le_of_ble_eq_true rfl) (fun ls hl => ?_)
  have hl : lv_has ls 5 [(0, .ref t_h), (1, .int v1), (2, .int v2), (3, .int v3)] := hl
  refine fw_Q (P := fun Q => ∃ A : Nat → Prop, va_S A s.heap s.heap [] ∧ (∀ q, s.heap.size ≤ q → A q) ∧ ∀ (v : Int32) (H : Heap) (locs : List Loc) (pc : Nat) (ls : Array Slot), some v = some r → va_S A s.heap H locs → narrow .boolean (.int v) = .int v → decode cX8_isSlackAt pc = .ok (.ireturn, 1) → W p l e ({ frames := 2, cells := 0, slots := 0, locals := 47 } : Room) s m args below meth c H locs 0 0 Q (F0 m pc ls [.int v])) ⟨fun q => s.heap.size ≤ q, va_S.rf, fun q h => h, fun v H locs pc ls h hS hn hd => retRZ hx hb hr hlk hS hn h hd⟩ ?_
  rintro Q ⟨A, hS, hA, hRet⟩
  change W p l e ({ frames := 2, cells := 0, slots := 0, locals := 47 } : Room) s m args below meth c _ _ 0 0 Q _
  have L3 : ∀  (K : Option Int32) (n : Nat) (l4 : Int32) (H : Heap) (locs : List Loc) (ls : Array Slot), va_P G.1 vwCl [oX8 t_h t_a t_thrown t_taped t_at t_behind t_size t_kind t_number t_wrong t_wrongAt t_faultKind t_faultPlace t_x t_wayLong t_bothLeast, arI G (t_a 1) 558 t_all] H → va_S A s.heap H locs → lv_has ls 5 [(0, .ref t_h), (1, .int v1), (2, .int v2), (3, .int v3), (4, .int l4)] → fX8_isSlackAt_3 v1 v2 v3 t_all K n l4 = some r → (∀  (H : Heap) (locs : List Loc) (ls : Array Slot), va_P G.1 vwCl [oX8 t_h t_a t_thrown t_taped t_at t_behind t_size t_kind t_number t_wrong t_wrongAt t_faultKind t_faultPlace t_x t_wayLong t_bothLeast, arI G (t_a 1) 558 t_all] H → va_S A s.heap H locs → lv_has ls 5 [] → K = some r → W p l e ({ frames := 2, cells := 0, slots := 0, locals := 47 } : Room) s m args below meth c H locs 0 0 Q (F0 m 81 ls [])) → W p l e ({ frames := 2, cells := 0, slots := 0, locals := 47 } : Room) s m args below meth c H locs 0 0 Q (F0 m 3 ls []) := by
    intro  K n
    induction n with
    | zero => intro l4 H locs ls hP hS hl hf; rw [fX8_isSlackAt_3] at hf; cases hf
    | succ n ih =>
      intro l4 H locs ls hP hS hl hf hX
      rw [fX8_isSlackAt_3] at hf
      refine lv_iload hx hb dX8_isSlackAt_3 (lv_at hl 4 rfl) ?_
      refine lv_aload_n hx hb dX8_isSlackAt_5 rfl (lv_at hl 0 rfl) ?_
      refine va_get (D := G.1) (ci := 8) (v := .ref (t_a 1)) (C := RX8) (T := TX8) (N := 33) hx hb hw inW8 hown hK.1 hP 0 rfl rfl 1 (by decide) (hw _ kw_5_11) (fun _ h9 => h9) rfl dX8_isSlackAt_6 ?_
      refine lv_iconst (v := 4) hx hb dX8_isSlackAt_9 (by decide) ?_
      obtain ⟨hi_2, hf⟩ := rdI_in hf
      refine va_iald hx hb hK.1 hP 1 0 rfl rfl hi_2 dX8_isSlackAt_10 ?_
      refine lv_topi (fun x_1 ex_1 => ?_)
      have hf := hf x_1 ex_1
      refine lv_icmp_ge (tgt := 81) hx hb dX8_isSlackAt_11 (by decide) (fun c_3 => ?_) (fun c_3 => ?_)
      · have hf := ip c_3 hf
        exact hX  _ _ _ hP hS (lv_sub hl [] rfl) hf
      · have hf := iq c_3 hf
        refine lv_aload_n hx hb dX8_isSlackAt_14 rfl (lv_at hl 0 rfl) ?_
        refine va_get (D := G.1) (ci := 8) (v := .ref (t_a 1)) (C := RX8) (T := TX8) (N := 33) hx hb hw inW8 hown hK.1 hP 0 rfl rfl 1 (by decide) (hw _ kw_5_11) (fun _ h9 => h9) rfl dX8_isSlackAt_15 ?_
        refine lv_bipush (v := 18) hx hb dX8_isSlackAt_18 (by decide) ?_
        refine lv_iconst (v := 3) hx hb dX8_isSlackAt_20 (by decide) ?_
        refine lv_iload hx hb dX8_isSlackAt_21 (lv_at hl 4 rfl) ?_
        refine lv_imul hx hb dX8_isSlackAt_23 ?_
        refine lv_iadd hx hb dX8_isSlackAt_24 ?_
        refine lv_iconst (v := 2) hx hb dX8_isSlackAt_25 (by decide) ?_
        refine lv_iadd hx hb dX8_isSlackAt_26 ?_
        obtain ⟨hi_5, hf⟩ := rdI_in hf
        refine va_iald hx hb hK.1 hP 1 0 rfl rfl hi_5 dX8_isSlackAt_27 ?_
        refine lv_topi (fun x_4 ex_4 => ?_)
        have hf := hf x_4 ex_4
        refine lv_iload_n hx hb dX8_isSlackAt_28 rfl (lv_at hl 3 rfl) ?_
        refine lv_bipush (v := 12) hx hb dX8_isSlackAt_29 (by decide) ?_
        refine lv_irem hx hb dX8_isSlackAt_31 (by decide) ?_
        refine lv_ishr hx hb dX8_isSlackAt_32 ?_
        refine lv_iconst (v := 1) hx hb dX8_isSlackAt_33 (by decide) ?_
        refine lv_iand hx hb dX8_isSlackAt_34 ?_
        refine lv_iconst (v := 1) hx hb dX8_isSlackAt_35 (by decide) ?_
        refine lv_icmp_ne (tgt := 75) hx hb dX8_isSlackAt_36 (by decide) (fun c_6 => ?_) (fun c_6 => ?_)
        · have hf := iq c_6 hf
          refine lv_iinc (v := (l4 + 1)) (lv' := [(4, .int (l4 + 1)), (0, .ref t_h), (1, .int v1), (2, .int v2), (3, .int v3)]) hx hb dX8_isSlackAt_75 hl (k := 4) rfl (by rfl) (by decide) rfl (fun ls hl => ?_)
          refine lv_goto (tgt := 3) hx hb dX8_isSlackAt_78 (by decide) ?_
          exact ih _ _ _ _ hP hS (lv_sub hl [1, 2, 3, 4, 0] rfl) hf hX
        · have hf := ip c_6 hf
          refine lv_iload_n hx hb dX8_isSlackAt_39 rfl (lv_at hl 1 rfl) ?_
          refine lv_iload_n hx hb dX8_isSlackAt_40 rfl (lv_at hl 2 rfl) ?_
          refine lv_aload_n hx hb dX8_isSlackAt_41 rfl (lv_at hl 0 rfl) ?_
          refine va_get (D := G.1) (ci := 8) (v := .ref (t_a 1)) (C := RX8) (T := TX8) (N := 33) hx hb hw inW8 hown hK.1 hP 0 rfl rfl 1 (by decide) (hw _ kw_5_11) (fun _ h9 => h9) rfl dX8_isSlackAt_42 ?_
          refine lv_bipush (v := 18) hx hb dX8_isSlackAt_45 (by decide) ?_
          refine lv_iconst (v := 3) hx hb dX8_isSlackAt_47 (by decide) ?_
          refine lv_iload hx hb dX8_isSlackAt_48 (lv_at hl 4 rfl) ?_
          refine lv_imul hx hb dX8_isSlackAt_50 ?_
          refine lv_iadd hx hb dX8_isSlackAt_51 ?_
          obtain ⟨hi_8, hf⟩ := rdI_in hf
          refine va_iald hx hb hK.1 hP 1 0 rfl rfl hi_8 dX8_isSlackAt_52 ?_
          refine lv_topi (fun x_7 ex_7 => ?_)
          have hf := hf x_7 ex_7
          refine lv_aload_n hx hb dX8_isSlackAt_53 rfl (lv_at hl 0 rfl) ?_
          refine va_get (D := G.1) (ci := 8) (v := .ref (t_a 1)) (C := RX8) (T := TX8) (N := 33) hx hb hw inW8 hown hK.1 hP 0 rfl rfl 1 (by decide) (hw _ kw_5_11) (fun _ h9 => h9) rfl dX8_isSlackAt_54 ?_
          refine lv_bipush (v := 18) hx hb dX8_isSlackAt_57 (by decide) ?_
          refine lv_iconst (v := 3) hx hb dX8_isSlackAt_59 (by decide) ?_
          refine lv_iload hx hb dX8_isSlackAt_60 (lv_at hl 4 rfl) ?_
          refine lv_imul hx hb dX8_isSlackAt_62 ?_
          refine lv_iadd hx hb dX8_isSlackAt_63 ?_
          refine lv_iconst (v := 1) hx hb dX8_isSlackAt_64 (by decide) ?_
          refine lv_iadd hx hb dX8_isSlackAt_65 ?_
          obtain ⟨hi_10, hf⟩ := rdI_in hf
          refine va_iald hx hb hK.1 hP 1 0 rfl rfl hi_10 dX8_isSlackAt_66 ?_
          refine lv_topi (fun x_9 ex_9 => ?_)
          have hf := hf x_9 ex_9
          obtain ⟨r_11, hc_12, hf⟩ := bd1_in hf
          refine rcI (va_runS (As := [.int v1, .int v2, .int x_7, .int x_9]) (rest := []) ⟨hx, hb, hml, hown, hw⟩ ((ctX8_crosses l G v1 v2 x_7 x_9 _ hc_12) _) (kS hw calX8_crosses kw_17_4 rfl rfl ⟨Nat.le_of_ble_eq_true rfl, Nat.le_of_ble_eq_true rfl⟩) (rpS (hP.sub (ws' := []) [] rfl) hK) rfl rfl hl.1 rfl (lv_room (Nat.le_of_ble_eq_true rfl)) dX8_isSlackAt_67 ⟨Nat.zero_le _, Nat.zero_le _⟩) hS hA hP (fun H locs hP hS => ?_)
          refine lv_if_eq (tgt := 75) hx hb dX8_isSlackAt_70 (by decide) (fun c_13 => ?_) (fun c_13 => ?_)
          · have hf := ip c_13 hf
            refine lv_iinc (v := (l4 + 1)) (lv' := [(4, .int (l4 + 1)), (0, .ref t_h), (1, .int v1), (2, .int v2), (3, .int v3)]) hx hb dX8_isSlackAt_75 hl (k := 4) rfl (by rfl) (by decide) rfl (fun ls hl => ?_)
            refine lv_goto (tgt := 3) hx hb dX8_isSlackAt_78 (by decide) ?_
            exact ih _ _ _ _ hP hS (lv_sub hl [1, 2, 3, 4, 0] rfl) hf hX
          · have hf := iq c_13 hf
            refine lv_iconst (v := 1) hx hb dX8_isSlackAt_73 (by decide) ?_
            exact hRet _ _ _ _ _ hf hS (by decide +kernel) dX8_isSlackAt_74
  unfold fX8_isSlackAt at hf
  refine lv_iconst (v := 0) hx hb dX8_isSlackAt_0 (by decide) ?_
  refine lv_istore (lv' := [(4, .int 0), (0, .ref t_h), (1, .int v1), (2, .int v2), (3, .int v3)]) hx hb dX8_isSlackAt_1 hl (by decide) rfl (fun ls hl => ?_)
  refine L3  _ _ _ _ _ _ hP hS (lv_sub hl [1, 2, 3, 4, 0] rfl) hf (fun  H locs ls hP hS hl hf => ?_)
  refine lv_iconst (v := 0) hx hb dX8_isSlackAt_81 (by decide) ?_
  exact hRet _ _ _ _ _ hf hS (by decide +kernel) dX8_isSlackAt_82
theorem calX8_isSlack : CalV yX8_isSlack cX8_isSlack 3 (some .boolean) 2 := ⟨⟨kw_22_22, kw_1_5, by decide +kernel⟩, kw_22_20, kw_22_21⟩
set_option maxHeartbeats 8000000 in
set_option maxRecDepth 100000 in
theorem ctX8_isSlack (l : Launch) (G : GT) (t_h : Nat) (t_a : Nat → Nat) (t_thrown : Int32) (t_all : Nat → Int32) (t_taped : Int32) (t_at : Int32) (t_behind : Int32) (t_size : Int32) (t_kind : Int32) (t_number : Int32) (t_wrong : Int32) (t_wrongAt : Int32) (t_faultKind : Int32) (t_faultPlace : Int32) (t_x : Int32) (t_wayLong : Int32) (t_bothLeast : Int32) (v1 : Int32) (v2 : Int32) (r : Int32) (hf : fX8_isSlack t_all v1 v2 = some r) : RdI l yX8_isSlack (Cond.code yX8_isSlack cX8_isSlack 3 (some .boolean)) { frames := 3, cells := 0, slots := 0, locals := 71 } G [.ref t_h, .int v1, .int v2] [oX8 t_h t_a t_thrown t_taped t_at t_behind t_size t_kind t_number t_wrong t_wrongAt t_faultKind t_faultPlace t_x t_wayLong t_bothLeast, arI G (t_a 1) 558 t_all] r := by
  intro sz
  refine Met.ofW (cc := cX8_isSlack) (maxL := 3) (ret := (some .boolean)) (by decide) rfl ?_
  intro p e s m args below meth c s₁ B hml hv
  obtain ⟨hargs, hsz, hP, hK⟩ := hv
  subst hsz
  obtain ⟨hx, hb, hr, hw, hown, hlk⟩ := fwB B
  refine fw_enter hargs (Nat.le_of_ble_eq_true rfl) (fun ls hl => ?_)
  have hl : lv_has ls 3 [(0, .ref t_h), (1, .int v1), (2, .int v2)] := hl
  refine fw_Q (P := fun Q => ∃ A : Nat → Prop, va_S A s.heap s.heap [] ∧ (∀ q, s.heap.size ≤ q → A q) ∧ ∀ (v : Int32) (H : Heap) (locs : List Loc) (pc : Nat) (ls : Array Slot), some v = some r → va_S A s.heap H locs → narrow .boolean (.int v) = .int v → decode cX8_isSlack pc = .ok (.ireturn, 1) → W p l e ({ frames := 3, cells := 0, slots := 0, locals := 71 } : Room) s m args below meth c H locs 0 0 Q (F0 m pc ls [.int v])) ⟨fun q => s.heap.size ≤ q, va_S.rf, fun q h => h, fun v H locs pc ls h hS hn hd => retRZ hx hb hr hlk hS hn h hd⟩ ?_
  rintro Q ⟨A, hS, hA, hRet⟩
  change W p l e ({ frames := 3, cells := 0, slots := 0, locals := 71 } : Room) s m args below meth c _ _ 0 0 Q _
  unfold fX8_isSlack at hf
  refine lv_aload_n hx hb dX8_isSlack_0 rfl (lv_at hl 0 rfl) ?_
  refine lv_iload_n hx hb dX8_isSlack_1 rfl (lv_at hl 1 rfl) ?_
  refine lv_iload_n hx hb dX8_isSlack_2 rfl (lv_at hl 2 rfl) ?_
  refine lv_aload_n hx hb dX8_isSlack_3 rfl (lv_at hl 0 rfl) ?_
  refine va_get (D := G.1) (ci := 8) (v := .ref (t_a 1)) (C := RX8) (T := TX8) (N := 33) hx hb hw inW8 hown hK.1 hP 0 rfl rfl 1 (by decide) (hw _ kw_5_11) (fun _ h9 => h9) rfl dX8_isSlack_4 ?_
  refine lv_iconst (v := 1) hx hb dX8_isSlack_7 (by decide) ?_
  obtain ⟨hi_2, hf⟩ := rdI_in hf
  refine va_iald hx hb hK.1 hP 1 0 rfl rfl hi_2 dX8_isSlack_8 ?_
  refine lv_topi (fun x_1 ex_1 => ?_)
  have hf := hf x_1 ex_1
  obtain ⟨r_3, hc_4, hf⟩ := bd1_in hf
  refine rcI (va_runV (As := [.int v1, .int v2, .int x_1]) (rest := []) ⟨hx, hb, hml, hown, hw⟩ ((ctX8_isSlackAt l G t_h t_a t_thrown t_all t_taped t_at t_behind t_size t_kind t_number t_wrong t_wrongAt t_faultKind t_faultPlace t_x t_wayLong t_bothLeast v1 v2 x_1 _ hc_4) _) (kV hw calX8_isSlackAt kw_20_20 rfl rfl ⟨Nat.le_of_ble_eq_true rfl, Nat.le_of_ble_eq_true rfl⟩) (rpV (hP.sub (ws' := [oX8 t_h t_a t_thrown t_taped t_at t_behind t_size t_kind t_number t_wrong t_wrongAt t_faultKind t_faultPlace t_x t_wayLong t_bothLeast, arI G (t_a 1) 558 t_all]) [0, 1] rfl) hK (ci := 8) (q0 := 0) rfl rfl) rfl rfl hl.1 rfl (lv_room (Nat.le_of_ble_eq_true rfl)) dX8_isSlack_9 ⟨Nat.zero_le _, Nat.zero_le _⟩) hS hA hP (fun H locs hP hS => ?_)
  obtain ⟨hzn, hf⟩ := bzI_in hf
  exact hRet _ _ _ _ _ hf hS hzn dX8_isSlack_12
theorem calX8_talks : CalV yX8_talks cX8_talks 4 (some .boolean) 3 := ⟨⟨kw_20_15, kw_1_5, by decide +kernel⟩, kw_20_13, kw_20_14⟩
set_option maxHeartbeats 8000000 in
set_option maxRecDepth 100000 in
theorem ctX8_talks (l : Launch) (G : GT) (t_h : Nat) (t_a : Nat → Nat) (t_thrown : Int32) (t_all : Nat → Int32) (t_taped : Int32) (t_at : Int32) (t_behind : Int32) (t_size : Int32) (t_kind : Int32) (t_number : Int32) (t_wrong : Int32) (t_wrongAt : Int32) (t_faultKind : Int32) (t_faultPlace : Int32) (t_x : Int32) (t_wayLong : Int32) (t_bothLeast : Int32) (v1 : Int32) (v2 : Int32) (v3 : Int32) (r : Int32) (hf : fX8_talks t_all v1 v2 v3 = some r) : RdI l yX8_talks (Cond.code yX8_talks cX8_talks 4 (some .boolean)) { frames := 3, cells := 0, slots := 0, locals := 71 } G [.ref t_h, .int v1, .int v2, .int v3] [oX8 t_h t_a t_thrown t_taped t_at t_behind t_size t_kind t_number t_wrong t_wrongAt t_faultKind t_faultPlace t_x t_wayLong t_bothLeast, arI G (t_a 1) 558 t_all] r := by
  intro sz
  refine Met.ofW (cc := cX8_talks) (maxL := 4) (ret := (some .boolean)) (by decide) rfl ?_
  intro p e s m args below meth c s₁ B hml hv
  obtain ⟨hargs, hsz, hP, hK⟩ := hv
  subst hsz
  obtain ⟨hx, hb, hr, hw, hown, hlk⟩ := fwB B
  refine fw_enter hargs (Nat.le_of_ble_eq_true rfl) (fun ls hl => ?_)
  have hl : lv_has ls 4 [(0, .ref t_h), (1, .int v1), (2, .int v2), (3, .int v3)] := hl
  refine fw_Q (P := fun Q => ∃ A : Nat → Prop, va_S A s.heap s.heap [] ∧ (∀ q, s.heap.size ≤ q → A q) ∧ ∀ (v : Int32) (H : Heap) (locs : List Loc) (pc : Nat) (ls : Array Slot), some v = some r → va_S A s.heap H locs → narrow .boolean (.int v) = .int v → decode cX8_talks pc = .ok (.ireturn, 1) → W p l e ({ frames := 3, cells := 0, slots := 0, locals := 71 } : Room) s m args below meth c H locs 0 0 Q (F0 m pc ls [.int v])) ⟨fun q => s.heap.size ≤ q, va_S.rf, fun q h => h, fun v H locs pc ls h hS hn hd => retRZ hx hb hr hlk hS hn h hd⟩ ?_
  rintro Q ⟨A, hS, hA, hRet⟩
  change W p l e ({ frames := 3, cells := 0, slots := 0, locals := 71 } : Room) s m args below meth c _ _ 0 0 Q _
  unfold fX8_talks at hf
  refine lv_aload_n hx hb dX8_talks_0 rfl (lv_at hl 0 rfl) ?_
  refine lv_iload_n hx hb dX8_talks_1 rfl (lv_at hl 1 rfl) ?_
  refine lv_iload_n hx hb dX8_talks_2 rfl (lv_at hl 2 rfl) ?_
  obtain ⟨r_1, hc_2, hf⟩ := bd1_in hf
  refine rcI (va_runV (As := [.int v1, .int v2]) (rest := []) ⟨hx, hb, hml, hown, hw⟩ ((ctX8_isTied l G t_h t_a t_thrown t_all t_taped t_at t_behind t_size t_kind t_number t_wrong t_wrongAt t_faultKind t_faultPlace t_x t_wayLong t_bothLeast v1 v2 _ hc_2) _) (kV hw calX8_isTied kw_20_16 rfl rfl ⟨Nat.le_of_ble_eq_true rfl, Nat.le_of_ble_eq_true rfl⟩) (rpV (hP.sub (ws' := [oX8 t_h t_a t_thrown t_taped t_at t_behind t_size t_kind t_number t_wrong t_wrongAt t_faultKind t_faultPlace t_x t_wayLong t_bothLeast, arI G (t_a 1) 558 t_all]) [0, 1] rfl) hK (ci := 8) (q0 := 0) rfl rfl) rfl rfl hl.1 rfl (lv_room (Nat.le_of_ble_eq_true rfl)) dX8_talks_3 ⟨Nat.zero_le _, Nat.zero_le _⟩) hS hA hP (fun H locs hP hS => ?_)
  refine lv_if_eq (tgt := 23) hx hb dX8_talks_6 (by decide) (fun c_3 => ?_) (fun c_3 => ?_)
  · have hf := ip c_3 hf
    refine lv_iconst (v := 0) hx hb dX8_talks_23 (by decide) ?_
    exact hRet _ _ _ _ _ hf hS (by decide +kernel) dX8_talks_24
  · have hf := iq c_3 hf
    refine lv_aload_n hx hb dX8_talks_9 rfl (lv_at hl 0 rfl) ?_
    refine lv_iload_n hx hb dX8_talks_10 rfl (lv_at hl 1 rfl) ?_
    refine lv_iload_n hx hb dX8_talks_11 rfl (lv_at hl 2 rfl) ?_
    refine lv_iload_n hx hb dX8_talks_12 rfl (lv_at hl 3 rfl) ?_
    obtain ⟨r_4, hc_5, hf⟩ := bd1_in hf
    refine rcI (va_runV (As := [.int v1, .int v2, .int v3]) (rest := []) ⟨hx, hb, hml, hown, hw⟩ ((ctX8_isSlackAt l G t_h t_a t_thrown t_all t_taped t_at t_behind t_size t_kind t_number t_wrong t_wrongAt t_faultKind t_faultPlace t_x t_wayLong t_bothLeast v1 v2 v3 _ hc_5) _) (kV hw calX8_isSlackAt kw_20_20 rfl rfl ⟨Nat.le_of_ble_eq_true rfl, Nat.le_of_ble_eq_true rfl⟩) (rpV (hP.sub (ws' := [oX8 t_h t_a t_thrown t_taped t_at t_behind t_size t_kind t_number t_wrong t_wrongAt t_faultKind t_faultPlace t_x t_wayLong t_bothLeast, arI G (t_a 1) 558 t_all]) [0, 1] rfl) hK (ci := 8) (q0 := 0) rfl rfl) rfl rfl hl.1 rfl (lv_room (Nat.le_of_ble_eq_true rfl)) dX8_talks_13 ⟨Nat.zero_le _, Nat.zero_le _⟩) hS hA hP (fun H locs hP hS => ?_)
    refine lv_if_ne (tgt := 23) hx hb dX8_talks_16 (by decide) (fun c_6 => ?_) (fun c_6 => ?_)
    · have hf := iq c_6 hf
      refine lv_iconst (v := 0) hx hb dX8_talks_23 (by decide) ?_
      exact hRet _ _ _ _ _ hf hS (by decide +kernel) dX8_talks_24
    · have hf := ip c_6 hf
      refine lv_iconst (v := 1) hx hb dX8_talks_19 (by decide) ?_
      refine lv_goto (tgt := 24) hx hb dX8_talks_20 (by decide) ?_
      exact hRet _ _ _ _ _ hf hS (by decide +kernel) dX8_talks_24
theorem calX8_strings : CalV yX8_strings cX8_strings 4 (some .int) 0 := ⟨⟨kw_24_1, kw_1_5, by decide +kernel⟩, kw_23_23, kw_24_0⟩
set_option maxHeartbeats 8000000 in
set_option maxRecDepth 100000 in
theorem ctX8_strings (l : Launch) (G : GT) (t_h : Nat) (t_a : Nat → Nat) (t_thrown : Int32) (t_all : Nat → Int32) (t_taped : Int32) (t_at : Int32) (t_behind : Int32) (t_size : Int32) (t_kind : Int32) (t_number : Int32) (t_wrong : Int32) (t_wrongAt : Int32) (t_faultKind : Int32) (t_faultPlace : Int32) (t_x : Int32) (t_wayLong : Int32) (t_bothLeast : Int32) (r : Int32) (hf : fX8_strings t_all = some r) : RdI l yX8_strings (Cond.code yX8_strings cX8_strings 4 (some .int)) { frames := 1, cells := 0, slots := 0, locals := 22 } G [.ref t_h] [oX8 t_h t_a t_thrown t_taped t_at t_behind t_size t_kind t_number t_wrong t_wrongAt t_faultKind t_faultPlace t_x t_wayLong t_bothLeast, arI G (t_a 1) 558 t_all] r := by
  intro sz
  refine Met.ofW (cc := cX8_strings) (maxL := 4) (ret := (some .int)) (by decide) rfl ?_
  intro p e s m args below meth c s₁ B hml hv
  obtain ⟨hargs, hsz, hP, hK⟩ := hv
  subst hsz
  obtain ⟨hx, hb, hr, hw, hown, hlk⟩ := fwB B
  refine fw_enter hargs (Nat.le_of_ble_eq_true rfl) (fun ls hl => ?_)
  have hl : lv_has ls 4 [(0, .ref t_h)] := hl
  refine fw_Q (P := fun Q => ∃ A : Nat → Prop, va_S A s.heap s.heap [] ∧ (∀ q, s.heap.size ≤ q → A q) ∧ ∀ (v : Int32) (H : Heap) (locs : List Loc) (pc : Nat) (ls : Array Slot), some v = some r → va_S A s.heap H locs → decode cX8_strings pc = .ok (.ireturn, 1) → W p l e ({ frames := 1, cells := 0, slots := 0, locals := 22 } : Room) s m args below meth c H locs 0 0 Q (F0 m pc ls [.int v])) ⟨fun q => s.heap.size ≤ q, va_S.rf, fun q h => h, fun v H locs pc ls h hS hd => retRI hx hb hr hlk hS h hd⟩ ?_
  rintro Q ⟨A, hS, hA, hRet⟩
  change W p l e ({ frames := 1, cells := 0, slots := 0, locals := 22 } : Room) s m args below meth c _ _ 0 0 Q _
  have L18 : ∀ (l2 : Int32) (K : Int32 → Option Int32) (n : Nat) (l1 : Int32) (l3 : Int32) (H : Heap) (locs : List Loc) (ls : Array Slot), va_P G.1 vwCl [oX8 t_h t_a t_thrown t_taped t_at t_behind t_size t_kind t_number t_wrong t_wrongAt t_faultKind t_faultPlace t_x t_wayLong t_bothLeast, arI G (t_a 1) 558 t_all] H → va_S A s.heap H locs → lv_has ls 4 [(0, .ref t_h), (1, .int l1), (2, .int l2), (3, .int l3)] → fX8_strings_18 l2 t_all K n l1 l3 = some r → (∀ (k1 : Int32) (H : Heap) (locs : List Loc) (ls : Array Slot), va_P G.1 vwCl [oX8 t_h t_a t_thrown t_taped t_at t_behind t_size t_kind t_number t_wrong t_wrongAt t_faultKind t_faultPlace t_x t_wayLong t_bothLeast, arI G (t_a 1) 558 t_all] H → va_S A s.heap H locs → lv_has ls 4 [(0, .ref t_h), (1, .int k1), (2, .int l2)] → K k1 = some r → W p l e ({ frames := 1, cells := 0, slots := 0, locals := 22 } : Room) s m args below meth c H locs 0 0 Q (F0 m 51 ls [])) → W p l e ({ frames := 1, cells := 0, slots := 0, locals := 22 } : Room) s m args below meth c H locs 0 0 Q (F0 m 18 ls []) := by
    intro l2 K n
    induction n with
    | zero => intro l1 l3 H locs ls hP hS hl hf; rw [fX8_strings_18] at hf; cases hf
    | succ n ih =>
      intro l1 l3 H locs ls hP hS hl hf hX
      rw [fX8_strings_18] at hf
      refine lv_iload_n hx hb dX8_strings_18 rfl (lv_at hl 3 rfl) ?_
      refine lv_aload_n hx hb dX8_strings_19 rfl (lv_at hl 0 rfl) ?_
      refine va_get (D := G.1) (ci := 8) (v := .ref (t_a 1)) (C := RX8) (T := TX8) (N := 33) hx hb hw inW8 hown hK.1 hP 0 rfl rfl 1 (by decide) (hw _ kw_5_11) (fun _ h9 => h9) rfl dX8_strings_20 ?_
      refine lv_iconst (v := 0) hx hb dX8_strings_23 (by decide) ?_
      obtain ⟨hi_6, hf⟩ := rdI_in hf
      refine va_iald hx hb hK.1 hP 1 0 rfl rfl hi_6 dX8_strings_24 ?_
      refine lv_topi (fun x_5 ex_5 => ?_)
      have hf := hf x_5 ex_5
      refine lv_icmp_ge (tgt := 51) hx hb dX8_strings_25 (by decide) (fun c_7 => ?_) (fun c_7 => ?_)
      · have hf := ip c_7 hf
        exact hX _ _ _ _ hP hS (lv_sub hl [0, 1, 2] rfl) hf
      · have hf := iq c_7 hf
        refine lv_iload_n hx hb dX8_strings_28 rfl (lv_at hl 1 rfl) ?_
        refine lv_aload_n hx hb dX8_strings_29 rfl (lv_at hl 0 rfl) ?_
        refine lv_iload_n hx hb dX8_strings_30 rfl (lv_at hl 2 rfl) ?_
        refine lv_iload_n hx hb dX8_strings_31 rfl (lv_at hl 3 rfl) ?_
        obtain ⟨r_8, hc_9, hf⟩ := bd1_in hf
        refine rcI (va_runV (As := [.int l2, .int l3]) (rest := [.int l1]) ⟨hx, hb, hml, hown, hw⟩ ((ctX8_isTied l G t_h t_a t_thrown t_all t_taped t_at t_behind t_size t_kind t_number t_wrong t_wrongAt t_faultKind t_faultPlace t_x t_wayLong t_bothLeast l2 l3 _ hc_9) _) (kV hw calX8_isTied kw_20_16 rfl rfl ⟨Nat.le_of_ble_eq_true rfl, Nat.le_of_ble_eq_true rfl⟩) (rpV (hP.sub (ws' := [oX8 t_h t_a t_thrown t_taped t_at t_behind t_size t_kind t_number t_wrong t_wrongAt t_faultKind t_faultPlace t_x t_wayLong t_bothLeast, arI G (t_a 1) 558 t_all]) [0, 1] rfl) hK (ci := 8) (q0 := 0) rfl rfl) rfl rfl hl.1 rfl (lv_room (Nat.le_of_ble_eq_true rfl)) dX8_strings_32 ⟨Nat.zero_le _, Nat.zero_le _⟩) hS hA hP (fun H locs hP hS => ?_)
        refine lv_if_eq (tgt := 42) hx hb dX8_strings_35 (by decide) (fun c_10 => ?_) (fun c_10 => ?_)
        · have hf := ip c_10 hf
          refine lv_iconst (v := 0) hx hb dX8_strings_42 (by decide) ?_
          refine lv_iadd hx hb dX8_strings_43 ?_
          refine lv_topi (fun y_11 ey_11 => ?_)
          have hf := bnd_all hf y_11 ey_11
          refine lv_istore_n (lv' := [(1, .int y_11), (0, .ref t_h), (2, .int l2), (3, .int l3)]) hx hb dX8_strings_44 rfl hl (by decide) rfl (fun ls hl => ?_)
          refine lv_iinc (v := (l3 + 1)) (lv' := [(3, .int (l3 + 1)), (1, .int y_11), (0, .ref t_h), (2, .int l2)]) hx hb dX8_strings_45 hl (k := 3) rfl (by rfl) (by decide) rfl (fun ls hl => ?_)
          refine lv_goto (tgt := 18) hx hb dX8_strings_48 (by decide) ?_
          exact ih _ _ _ _ _ hP hS (lv_sub hl [2, 1, 3, 0] rfl) hf hX
        · have hf := iq c_10 hf
          refine lv_iconst (v := 1) hx hb dX8_strings_38 (by decide) ?_
          refine lv_goto (tgt := 43) hx hb dX8_strings_39 (by decide) ?_
          refine lv_iadd hx hb dX8_strings_43 ?_
          refine lv_topi (fun y_12 ey_12 => ?_)
          have hf := bnd_all hf y_12 ey_12
          refine lv_istore_n (lv' := [(1, .int y_12), (0, .ref t_h), (2, .int l2), (3, .int l3)]) hx hb dX8_strings_44 rfl hl (by decide) rfl (fun ls hl => ?_)
          refine lv_iinc (v := (l3 + 1)) (lv' := [(3, .int (l3 + 1)), (1, .int y_12), (0, .ref t_h), (2, .int l2)]) hx hb dX8_strings_45 hl (k := 3) rfl (by rfl) (by decide) rfl (fun ls hl => ?_)
          refine lv_goto (tgt := 18) hx hb dX8_strings_48 (by decide) ?_
          exact ih _ _ _ _ _ hP hS (lv_sub hl [2, 1, 3, 0] rfl) hf hX
  have L4 : ∀  (K : Int32 → Option Int32) (n : Nat) (l1 : Int32) (l2 : Int32) (H : Heap) (locs : List Loc) (ls : Array Slot), va_P G.1 vwCl [oX8 t_h t_a t_thrown t_taped t_at t_behind t_size t_kind t_number t_wrong t_wrongAt t_faultKind t_faultPlace t_x t_wayLong t_bothLeast, arI G (t_a 1) 558 t_all] H → va_S A s.heap H locs → lv_has ls 4 [(0, .ref t_h), (1, .int l1), (2, .int l2)] → fX8_strings_4 t_all K n l1 l2 = some r → (∀ (k1 : Int32) (H : Heap) (locs : List Loc) (ls : Array Slot), va_P G.1 vwCl [oX8 t_h t_a t_thrown t_taped t_at t_behind t_size t_kind t_number t_wrong t_wrongAt t_faultKind t_faultPlace t_x t_wayLong t_bothLeast, arI G (t_a 1) 558 t_all] H → va_S A s.heap H locs → lv_has ls 4 [(1, .int k1)] → K k1 = some r → W p l e ({ frames := 1, cells := 0, slots := 0, locals := 22 } : Room) s m args below meth c H locs 0 0 Q (F0 m 57 ls [])) → W p l e ({ frames := 1, cells := 0, slots := 0, locals := 22 } : Room) s m args below meth c H locs 0 0 Q (F0 m 4 ls []) := by
    intro  K n
    induction n with
    | zero => intro l1 l2 H locs ls hP hS hl hf; rw [fX8_strings_4] at hf; cases hf
    | succ n ih =>
      intro l1 l2 H locs ls hP hS hl hf hX
      rw [fX8_strings_4] at hf
      refine lv_iload_n hx hb dX8_strings_4 rfl (lv_at hl 2 rfl) ?_
      refine lv_aload_n hx hb dX8_strings_5 rfl (lv_at hl 0 rfl) ?_
      refine va_get (D := G.1) (ci := 8) (v := .ref (t_a 1)) (C := RX8) (T := TX8) (N := 33) hx hb hw inW8 hown hK.1 hP 0 rfl rfl 1 (by decide) (hw _ kw_5_11) (fun _ h9 => h9) rfl dX8_strings_6 ?_
      refine lv_iconst (v := 0) hx hb dX8_strings_9 (by decide) ?_
      obtain ⟨hi_2, hf⟩ := rdI_in hf
      refine va_iald hx hb hK.1 hP 1 0 rfl rfl hi_2 dX8_strings_10 ?_
      refine lv_topi (fun x_1 ex_1 => ?_)
      have hf := hf x_1 ex_1
      refine lv_icmp_ge (tgt := 57) hx hb dX8_strings_11 (by decide) (fun c_3 => ?_) (fun c_3 => ?_)
      · have hf := ip c_3 hf
        exact hX _ _ _ _ hP hS (lv_sub hl [1] rfl) hf
      · have hf := iq c_3 hf
        refine lv_iload_n hx hb dX8_strings_14 rfl (lv_at hl 2 rfl) ?_
        refine lv_iconst (v := 1) hx hb dX8_strings_15 (by decide) ?_
        refine lv_iadd hx hb dX8_strings_16 ?_
        refine lv_topi (fun y_4 ey_4 => ?_)
        have hf := bnd_all hf y_4 ey_4
        refine lv_istore_n (lv' := [(3, .int y_4), (0, .ref t_h), (1, .int l1), (2, .int l2)]) hx hb dX8_strings_17 rfl hl (by decide) rfl (fun ls hl => ?_)
        refine L18 _ _ _ _ _ _ _ _ hP hS (lv_sub hl [1, 2, 3, 0] rfl) hf (fun w_13 H locs ls hP hS hl hf => ?_)
        refine lv_iinc (v := (l2 + 1)) (lv' := [(2, .int (l2 + 1)), (0, .ref t_h), (1, .int w_13)]) hx hb dX8_strings_51 hl (k := 2) rfl (by rfl) (by decide) rfl (fun ls hl => ?_)
        refine lv_goto (tgt := 4) hx hb dX8_strings_54 (by decide) ?_
        exact ih _ _ _ _ _ hP hS (lv_sub hl [1, 2, 0] rfl) hf hX
  unfold fX8_strings at hf
  refine lv_iconst (v := 0) hx hb dX8_strings_0 (by decide) ?_
  refine lv_istore_n (lv' := [(1, .int 0), (0, .ref t_h)]) hx hb dX8_strings_1 rfl hl (by decide) rfl (fun ls hl => ?_)
  refine lv_iconst (v := 0) hx hb dX8_strings_2 (by decide) ?_
  refine lv_istore_n (lv' := [(2, .int 0), (1, .int 0), (0, .ref t_h)]) hx hb dX8_strings_3 rfl hl (by decide) rfl (fun ls hl => ?_)
  refine L4  _ _ _ _ _ _ _ hP hS (lv_sub hl [2, 1, 0] rfl) hf (fun w_14 H locs ls hP hS hl hf => ?_)
  refine lv_iload_n hx hb dX8_strings_57 rfl (lv_at hl 0 rfl) ?_
  exact hRet _ _ _ _ _ hf hS dX8_strings_58
theorem calX8_leadsTo : CalV yX8_leadsTo cX8_leadsTo 4 (some .int) 1 := ⟨⟨kw_20_11, kw_1_5, by decide +kernel⟩, kw_20_9, kw_20_10⟩
set_option maxHeartbeats 8000000 in
set_option maxRecDepth 100000 in
theorem ctX8_leadsTo (l : Launch) (G : GT) (t_h : Nat) (t_a : Nat → Nat) (t_thrown : Int32) (t_all : Nat → Int32) (t_taped : Int32) (t_at : Int32) (t_behind : Int32) (t_size : Int32) (t_kind : Int32) (t_number : Int32) (t_wrong : Int32) (t_wrongAt : Int32) (t_faultKind : Int32) (t_faultPlace : Int32) (t_x : Int32) (t_wayLong : Int32) (t_bothLeast : Int32) (v1 : Int32) (r : Int32) (hf : fX8_leadsTo t_all v1 = some r) : RdI l yX8_leadsTo (Cond.code yX8_leadsTo cX8_leadsTo 4 (some .int)) { frames := 4, cells := 0, slots := 0, locals := 94 } G [.ref t_h, .int v1] [oX8 t_h t_a t_thrown t_taped t_at t_behind t_size t_kind t_number t_wrong t_wrongAt t_faultKind t_faultPlace t_x t_wayLong t_bothLeast, arI G (t_a 1) 558 t_all] r := by
  intro sz
  refine Met.ofW (cc := cX8_leadsTo) (maxL := 4) (ret := (some .int)) (by decide) rfl ?_
  intro p e s m args below meth c s₁ B hml hv
  obtain ⟨hargs, hsz, hP, hK⟩ := hv
  subst hsz
  obtain ⟨hx, hb, hr, hw, hown, hlk⟩ := fwB B
  refine fw_enter hargs (Nat.le_of_ble_eq_true rfl) (fun ls hl => ?_)
  have hl : lv_has ls 4 [(0, .ref t_h), (1, .int v1)] := hl
  refine fw_Q (P := fun Q => ∃ A : Nat → Prop, va_S A s.heap s.heap [] ∧ (∀ q, s.heap.size ≤ q → A q) ∧ ∀ (v : Int32) (H : Heap) (locs : List Loc) (pc : Nat) (ls : Array Slot), some v = some r → va_S A s.heap H locs → decode cX8_leadsTo pc = .ok (.ireturn, 1) → W p l e ({ frames := 4, cells := 0, slots := 0, locals := 94 } : Room) s m args below meth c H locs 0 0 Q (F0 m pc ls [.int v])) ⟨fun q => s.heap.size ≤ q, va_S.rf, fun q h => h, fun v H locs pc ls h hS hd => retRI hx hb hr hlk hS h hd⟩ ?_
  rintro Q ⟨A, hS, hA, hRet⟩
  change W p l e ({ frames := 4, cells := 0, slots := 0, locals := 94 } : Room) s m args below meth c _ _ 0 0 Q _
  have L4 : ∀  (K : Int32 → Option Int32) (n : Nat) (l2 : Int32) (l3 : Int32) (H : Heap) (locs : List Loc) (ls : Array Slot), va_P G.1 vwCl [oX8 t_h t_a t_thrown t_taped t_at t_behind t_size t_kind t_number t_wrong t_wrongAt t_faultKind t_faultPlace t_x t_wayLong t_bothLeast, arI G (t_a 1) 558 t_all] H → va_S A s.heap H locs → lv_has ls 4 [(0, .ref t_h), (1, .int v1), (2, .int l2), (3, .int l3)] → fX8_leadsTo_4 v1 t_all K n l2 l3 = some r → (∀ (k2 : Int32) (H : Heap) (locs : List Loc) (ls : Array Slot), va_P G.1 vwCl [oX8 t_h t_a t_thrown t_taped t_at t_behind t_size t_kind t_number t_wrong t_wrongAt t_faultKind t_faultPlace t_x t_wayLong t_bothLeast, arI G (t_a 1) 558 t_all] H → va_S A s.heap H locs → lv_has ls 4 [(2, .int k2)] → K k2 = some r → W p l e ({ frames := 4, cells := 0, slots := 0, locals := 94 } : Room) s m args below meth c H locs 0 0 Q (F0 m 45 ls [])) → W p l e ({ frames := 4, cells := 0, slots := 0, locals := 94 } : Room) s m args below meth c H locs 0 0 Q (F0 m 4 ls []) := by
    intro  K n
    induction n with
    | zero => intro l2 l3 H locs ls hP hS hl hf; rw [fX8_leadsTo_4] at hf; cases hf
    | succ n ih =>
      intro l2 l3 H locs ls hP hS hl hf hX
      rw [fX8_leadsTo_4] at hf
      refine lv_iload_n hx hb dX8_leadsTo_4 rfl (lv_at hl 3 rfl) ?_
      refine lv_aload_n hx hb dX8_leadsTo_5 rfl (lv_at hl 0 rfl) ?_
      refine va_get (D := G.1) (ci := 8) (v := .ref (t_a 1)) (C := RX8) (T := TX8) (N := 33) hx hb hw inW8 hown hK.1 hP 0 rfl rfl 1 (by decide) (hw _ kw_5_11) (fun _ h9 => h9) rfl dX8_leadsTo_6 ?_
      refine lv_iconst (v := 0) hx hb dX8_leadsTo_9 (by decide) ?_
      obtain ⟨hi_2, hf⟩ := rdI_in hf
      refine va_iald hx hb hK.1 hP 1 0 rfl rfl hi_2 dX8_leadsTo_10 ?_
      refine lv_topi (fun x_1 ex_1 => ?_)
      have hf := hf x_1 ex_1
      refine lv_icmp_ge (tgt := 45) hx hb dX8_leadsTo_11 (by decide) (fun c_3 => ?_) (fun c_3 => ?_)
      · have hf := ip c_3 hf
        exact hX _ _ _ _ hP hS (lv_sub hl [2] rfl) hf
      · have hf := iq c_3 hf
        refine lv_iload_n hx hb dX8_leadsTo_14 rfl (lv_at hl 2 rfl) ?_
        refine lv_aload_n hx hb dX8_leadsTo_15 rfl (lv_at hl 0 rfl) ?_
        refine lv_iload_n hx hb dX8_leadsTo_16 rfl (lv_at hl 1 rfl) ?_
        refine lv_iload_n hx hb dX8_leadsTo_17 rfl (lv_at hl 3 rfl) ?_
        refine lv_aload_n hx hb dX8_leadsTo_18 rfl (lv_at hl 0 rfl) ?_
        refine va_get (D := G.1) (ci := 8) (v := .ref (t_a 1)) (C := RX8) (T := TX8) (N := 33) hx hb hw inW8 hown hK.1 hP 0 rfl rfl 1 (by decide) (hw _ kw_5_11) (fun _ h9 => h9) rfl dX8_leadsTo_19 ?_
        refine lv_iconst (v := 1) hx hb dX8_leadsTo_22 (by decide) ?_
        obtain ⟨hi_5, hf⟩ := rdI_in hf
        refine va_iald hx hb hK.1 hP 1 0 rfl rfl hi_5 dX8_leadsTo_23 ?_
        refine lv_topi (fun x_4 ex_4 => ?_)
        have hf := hf x_4 ex_4
        obtain ⟨r_6, hc_7, hf⟩ := bd1_in hf
        refine rcI (va_runV (As := [.int v1, .int l3, .int x_4]) (rest := [.int l2]) ⟨hx, hb, hml, hown, hw⟩ ((ctX8_talks l G t_h t_a t_thrown t_all t_taped t_at t_behind t_size t_kind t_number t_wrong t_wrongAt t_faultKind t_faultPlace t_x t_wayLong t_bothLeast v1 l3 x_4 _ hc_7) _) (kV hw calX8_talks kw_20_12 rfl rfl ⟨Nat.le_of_ble_eq_true rfl, Nat.le_of_ble_eq_true rfl⟩) (rpV (hP.sub (ws' := [oX8 t_h t_a t_thrown t_taped t_at t_behind t_size t_kind t_number t_wrong t_wrongAt t_faultKind t_faultPlace t_x t_wayLong t_bothLeast, arI G (t_a 1) 558 t_all]) [0, 1] rfl) hK (ci := 8) (q0 := 0) rfl rfl) rfl rfl hl.1 rfl (lv_room (Nat.le_of_ble_eq_true rfl)) dX8_leadsTo_24 ⟨Nat.zero_le _, Nat.zero_le _⟩) hS hA hP (fun H locs hP hS => ?_)
        refine jn_el hf (fun k_9 ek_9 hf => ?_)
        have J37 : ∀ (z_8 : Int32) (H : Heap) (locs : List Loc) (ls : Array Slot), va_P G.1 vwCl [oX8 t_h t_a t_thrown t_taped t_at t_behind t_size t_kind t_number t_wrong t_wrongAt t_faultKind t_faultPlace t_x t_wayLong t_bothLeast, arI G (t_a 1) 558 t_all] H → va_S A s.heap H locs → lv_has ls 4 [(0, .ref t_h), (1, .int v1), (3, .int l3)] → k_9 z_8 = some r → W p l e ({ frames := 4, cells := 0, slots := 0, locals := 94 } : Room) s m args below meth c H locs 0 0 Q (F0 m 37 ls [.int z_8, .int l2]) := by
          intro z_8 H locs ls hP hS hl hf
          rw [ek_9] at hf
          refine lv_ior hx hb dX8_leadsTo_37 ?_
          refine lv_topi (fun y_10 ey_10 => ?_)
          have hf := bnd_all hf y_10 ey_10
          refine lv_istore_n (lv' := [(2, .int y_10), (0, .ref t_h), (1, .int v1), (3, .int l3)]) hx hb dX8_leadsTo_38 rfl hl (by decide) rfl (fun ls hl => ?_)
          refine lv_iinc (v := (l3 + 1)) (lv' := [(3, .int (l3 + 1)), (2, .int y_10), (0, .ref t_h), (1, .int v1)]) hx hb dX8_leadsTo_39 hl (k := 3) rfl (by rfl) (by decide) rfl (fun ls hl => ?_)
          refine lv_goto (tgt := 4) hx hb dX8_leadsTo_42 (by decide) ?_
          exact ih _ _ _ _ _ hP hS (lv_sub hl [2, 3, 1, 0] rfl) hf hX
        refine lv_if_eq (tgt := 36) hx hb dX8_leadsTo_27 (by decide) (fun c_11 => ?_) (fun c_11 => ?_)
        · have hf := ip c_11 hf
          refine lv_iconst (v := 0) hx hb dX8_leadsTo_36 (by decide) ?_
          exact J37 _ _ _ _ hP hS (lv_sub hl [0, 1, 3] rfl) hf
        · have hf := iq c_11 hf
          refine lv_iconst (v := 1) hx hb dX8_leadsTo_30 (by decide) ?_
          refine lv_iload_n hx hb dX8_leadsTo_31 rfl (lv_at hl 3 rfl) ?_
          refine lv_ishl hx hb dX8_leadsTo_32 ?_
          refine lv_goto (tgt := 37) hx hb dX8_leadsTo_33 (by decide) ?_
          exact J37 _ _ _ _ hP hS (lv_sub hl [0, 1, 3] rfl) hf
  unfold fX8_leadsTo at hf
  refine lv_iconst (v := 0) hx hb dX8_leadsTo_0 (by decide) ?_
  refine lv_istore_n (lv' := [(2, .int 0), (0, .ref t_h), (1, .int v1)]) hx hb dX8_leadsTo_1 rfl hl (by decide) rfl (fun ls hl => ?_)
  refine lv_iconst (v := 0) hx hb dX8_leadsTo_2 (by decide) ?_
  refine lv_istore_n (lv' := [(3, .int 0), (2, .int 0), (0, .ref t_h), (1, .int v1)]) hx hb dX8_leadsTo_3 rfl hl (by decide) rfl (fun ls hl => ?_)
  refine L4  _ _ _ _ _ _ _ hP hS (lv_sub hl [2, 3, 1, 0] rfl) hf (fun w_12 H locs ls hP hS hl hf => ?_)
  refine lv_iload_n hx hb dX8_leadsTo_45 rfl (lv_at hl 0 rfl) ?_
  exact hRet _ _ _ _ _ hf hS dX8_leadsTo_46
theorem calX8_bitsOf : CalS yX8_bitsOf cX8_bitsOf 3 (some .int) 1 := ⟨⟨kw_21_2, kw_1_5, by decide +kernel⟩, kw_21_1⟩
set_option maxHeartbeats 8000000 in
set_option maxRecDepth 100000 in
theorem ctX8_bitsOf (l : Launch) (G : GT) (v0 : Int32) (r : Int32) (hf : fX8_bitsOf v0 = some r) : RdI l yX8_bitsOf (Cond.code yX8_bitsOf cX8_bitsOf 3 (some .int)) { frames := 0, cells := 0, slots := 0, locals := 0 } G [.int v0] [] r := by
  intro sz
  refine Met.ofW (cc := cX8_bitsOf) (maxL := 3) (ret := (some .int)) (by decide) rfl ?_
  intro p e s m args below meth c s₁ B hml hv
  obtain ⟨hargs, hsz, hP, hK⟩ := hv
  subst hsz
  obtain ⟨hx, hb, hr, hw, hown, hlk⟩ := fwB B
  refine fw_enter hargs (Nat.le_of_ble_eq_true rfl) (fun ls hl => ?_)
  have hl : lv_has ls 3 [(0, .int v0)] := hl
  refine fw_Q (P := fun Q => ∃ A : Nat → Prop, va_S A s.heap s.heap [] ∧ (∀ q, s.heap.size ≤ q → A q) ∧ ∀ (v : Int32) (H : Heap) (locs : List Loc) (pc : Nat) (ls : Array Slot), some v = some r → va_S A s.heap H locs → decode cX8_bitsOf pc = .ok (.ireturn, 1) → W p l e ({ frames := 0, cells := 0, slots := 0, locals := 0 } : Room) s m args below meth c H locs 0 0 Q (F0 m pc ls [.int v])) ⟨fun q => s.heap.size ≤ q, va_S.rf, fun q h => h, fun v H locs pc ls h hS hd => retRI hx hb hr hlk hS h hd⟩ ?_
  rintro Q ⟨A, hS, hA, hRet⟩
  change W p l e ({ frames := 0, cells := 0, slots := 0, locals := 0 } : Room) s m args below meth c _ _ 0 0 Q _
  have L4 : ∀  (K : Int32 → Option Int32) (n : Nat) (l1 : Int32) (l2 : Int32) (H : Heap) (locs : List Loc) (ls : Array Slot), va_P G.1 vwCl [] H → va_S A s.heap H locs → lv_has ls 3 [(0, .int v0), (1, .int l1), (2, .int l2)] → fX8_bitsOf_4 v0 K n l1 l2 = some r → (∀ (k1 : Int32) (H : Heap) (locs : List Loc) (ls : Array Slot), va_P G.1 vwCl [] H → va_S A s.heap H locs → lv_has ls 3 [(1, .int k1)] → K k1 = some r → W p l e ({ frames := 0, cells := 0, slots := 0, locals := 0 } : Room) s m args below meth c H locs 0 0 Q (F0 m 24 ls [])) → W p l e ({ frames := 0, cells := 0, slots := 0, locals := 0 } : Room) s m args below meth c H locs 0 0 Q (F0 m 4 ls []) := by
    intro  K n
    induction n with
    | zero => intro l1 l2 H locs ls hP hS hl hf; rw [fX8_bitsOf_4] at hf; cases hf
    | succ n ih =>
      intro l1 l2 H locs ls hP hS hl hf hX
      rw [fX8_bitsOf_4] at hf
      refine lv_iload_n hx hb dX8_bitsOf_4 rfl (lv_at hl 2 rfl) ?_
      refine lv_bipush (v := 12) hx hb dX8_bitsOf_5 (by decide) ?_
      refine lv_icmp_ge (tgt := 24) hx hb dX8_bitsOf_7 (by decide) (fun c_1 => ?_) (fun c_1 => ?_)
      · have hf := ip c_1 hf
        exact hX _ _ _ _ hP hS (lv_sub hl [1] rfl) hf
      · have hf := iq c_1 hf
        refine lv_iload_n hx hb dX8_bitsOf_10 rfl (lv_at hl 1 rfl) ?_
        refine lv_iload_n hx hb dX8_bitsOf_11 rfl (lv_at hl 0 rfl) ?_
        refine lv_iload_n hx hb dX8_bitsOf_12 rfl (lv_at hl 2 rfl) ?_
        refine lv_ishr hx hb dX8_bitsOf_13 ?_
        refine lv_iconst (v := 1) hx hb dX8_bitsOf_14 (by decide) ?_
        refine lv_iand hx hb dX8_bitsOf_15 ?_
        refine lv_iadd hx hb dX8_bitsOf_16 ?_
        refine lv_topi (fun y_2 ey_2 => ?_)
        have hf := bnd_all hf y_2 ey_2
        refine lv_istore_n (lv' := [(1, .int y_2), (0, .int v0), (2, .int l2)]) hx hb dX8_bitsOf_17 rfl hl (by decide) rfl (fun ls hl => ?_)
        refine lv_iinc (v := (l2 + 1)) (lv' := [(2, .int (l2 + 1)), (1, .int y_2), (0, .int v0)]) hx hb dX8_bitsOf_18 hl (k := 2) rfl (by rfl) (by decide) rfl (fun ls hl => ?_)
        refine lv_goto (tgt := 4) hx hb dX8_bitsOf_21 (by decide) ?_
        exact ih _ _ _ _ _ hP hS (lv_sub hl [2, 1, 0] rfl) hf hX
  unfold fX8_bitsOf at hf
  refine lv_iconst (v := 0) hx hb dX8_bitsOf_0 (by decide) ?_
  refine lv_istore_n (lv' := [(1, .int 0), (0, .int v0)]) hx hb dX8_bitsOf_1 rfl hl (by decide) rfl (fun ls hl => ?_)
  refine lv_iconst (v := 0) hx hb dX8_bitsOf_2 (by decide) ?_
  refine lv_istore_n (lv' := [(2, .int 0), (1, .int 0), (0, .int v0)]) hx hb dX8_bitsOf_3 rfl hl (by decide) rfl (fun ls hl => ?_)
  refine L4  _ _ _ _ _ _ _ hP hS (lv_sub hl [2, 1, 0] rfl) hf (fun w_3 H locs ls hP hS hl hf => ?_)
  refine lv_iload_n hx hb dX8_bitsOf_24 rfl (lv_at hl 0 rfl) ?_
  exact hRet _ _ _ _ _ hf hS dX8_bitsOf_25
theorem calX8_window : CalV yX8_window cX8_window 3 (some .int) 2 := ⟨⟨kw_20_2, kw_1_5, by decide +kernel⟩, kw_20_0, kw_20_1⟩
set_option maxHeartbeats 8000000 in
set_option maxRecDepth 100000 in
theorem ctX8_window (l : Launch) (G : GT) (t_h : Nat) (t_a : Nat → Nat) (t_thrown : Int32) (t_all : Nat → Int32) (t_taped : Int32) (t_at : Int32) (t_behind : Int32) (t_size : Int32) (t_kind : Int32) (t_number : Int32) (t_wrong : Int32) (t_wrongAt : Int32) (t_faultKind : Int32) (t_faultPlace : Int32) (t_x : Int32) (t_wayLong : Int32) (t_bothLeast : Int32) (v1 : Int32) (v2 : Int32) (r : Int32) (o_t_thrown : Int32) (hf : fX8_window t_thrown t_all v1 v2 = some (r, o_t_thrown)) : WrI l yX8_window (Cond.code yX8_window cX8_window 3 (some .int)) { frames := 5, cells := 0, slots := 0, locals := 117 } G [.ref t_h, .int v1, .int v2] [oX8 t_h t_a t_thrown t_taped t_at t_behind t_size t_kind t_number t_wrong t_wrongAt t_faultKind t_faultPlace t_x t_wayLong t_bothLeast, arI G (t_a 1) 558 t_all] [oX8 t_h t_a o_t_thrown t_taped t_at t_behind t_size t_kind t_number t_wrong t_wrongAt t_faultKind t_faultPlace t_x t_wayLong t_bothLeast, arI G (t_a 1) 558 t_all] r := by
  intro sz
  refine Met.ofW (cc := cX8_window) (maxL := 3) (ret := (some .int)) (by decide) rfl ?_
  intro p e s m args below meth c s₁ B hml hv
  obtain ⟨hargs, hsz, hP, hD0, hK⟩ := hv
  subst hsz
  obtain ⟨hx, hb, hr, hw, hown, hlk⟩ := fwB B
  refine fw_enter hargs (Nat.le_of_ble_eq_true rfl) (fun ls hl => ?_)
  have hl : lv_has ls 3 [(0, .ref t_h), (1, .int v1), (2, .int v2)] := hl
  refine fw_Q (P := fun Q => ∃ A : Nat → Prop, va_D A [oX8 t_h t_a t_thrown t_taped t_at t_behind t_size t_kind t_number t_wrong t_wrongAt t_faultKind t_faultPlace t_x t_wayLong t_bothLeast, arI G (t_a 1) 558 t_all] ∧ va_S A s.heap s.heap [] ∧ (∀ q, s.heap.size ≤ q → A q) ∧ ∀ (v : Int32) (n_t_thrown : Int32) (H : Heap) (locs : List Loc) (pc : Nat) (ls : Array Slot), some (v, n_t_thrown) = some (r, o_t_thrown) → va_P G.1 vwCl [oX8 t_h t_a n_t_thrown t_taped t_at t_behind t_size t_kind t_number t_wrong t_wrongAt t_faultKind t_faultPlace t_x t_wayLong t_bothLeast, arI G (t_a 1) 558 t_all] H → va_S A s.heap H locs → decode cX8_window pc = .ok (.ireturn, 1) → W p l e ({ frames := 5, cells := 0, slots := 0, locals := 117 } : Room) s m args below meth c H locs 0 0 Q (F0 m pc ls [.int v])) ⟨va_A [oX8 t_h t_a t_thrown t_taped t_at t_behind t_size t_kind t_number t_wrong t_wrongAt t_faultKind t_faultPlace t_x t_wayLong t_bothLeast, arI G (t_a 1) 558 t_all] s.heap.size, hD0.self (sz := s.heap.size), va_S.rf, fun q h => Or.inr h, ?_⟩ ?_
  · intro v n_t_thrown H locs pc ls h hP hS hd
    cases h
    exact retWI hx hb hr hlk hS hP rfl hd
  rintro Q ⟨A, hD, hS, hA, hRet⟩
  change W p l e ({ frames := 5, cells := 0, slots := 0, locals := 117 } : Room) s m args below meth c _ _ 0 0 Q _
  unfold fX8_window at hf
  refine lv_aload_n hx hb dX8_window_0 rfl (lv_at hl 0 rfl) ?_
  refine lv_iconst (v := 0) hx hb dX8_window_1 (by decide) ?_
  refine va_put (D := G.1) (ci := 8) (v := .int 0) (ty := .int) (C := RX8) (T := TX8) (N := 33) hx hb hw inW8 tyX8 tyX8_ok nmX8 hown hK.1 hP hD hS 0 rfl rfl 0 (by decide) (hw _ kw_6_21) (fun _ h9 => h9) rfl (by decide +kernel) rfl rfl (Nat.le_of_ble_eq_true rfl) dX8_window_2 (fun H locs hP hD hS => ?_)
  have hP : va_P G.1 vwCl [oX8 t_h t_a 0 t_taped t_at t_behind t_size t_kind t_number t_wrong t_wrongAt t_faultKind t_faultPlace t_x t_wayLong t_bothLeast, arI G (t_a 1) 558 t_all] H := hP
  have hD : va_D A [oX8 t_h t_a 0 t_taped t_at t_behind t_size t_kind t_number t_wrong t_wrongAt t_faultKind t_faultPlace t_x t_wayLong t_bothLeast, arI G (t_a 1) 558 t_all] := hD
  refine lv_aload_n hx hb dX8_window_5 rfl (lv_at hl 0 rfl) ?_
  refine lv_iload_n hx hb dX8_window_6 rfl (lv_at hl 1 rfl) ?_
  refine lv_i2l hx hb dX8_window_7 rfl ?_
  obtain ⟨r_1, hc_2, hf⟩ := bd1_in hf
  refine rcI (va_runV (As := [.long (Int32.toInt64 v1)]) (rest := []) ⟨hx, hb, hml, hown, hw⟩ ((ctX8_isWindow l G t_h t_a 0 t_all t_taped t_at t_behind t_size t_kind t_number t_wrong t_wrongAt t_faultKind t_faultPlace t_x t_wayLong t_bothLeast (Int32.toInt64 v1) _ hc_2) _) (kV hw calX8_isWindow kw_20_4 rfl rfl ⟨Nat.le_of_ble_eq_true rfl, Nat.le_of_ble_eq_true rfl⟩) (rpV (hP.sub (ws' := [oX8 t_h t_a 0 t_taped t_at t_behind t_size t_kind t_number t_wrong t_wrongAt t_faultKind t_faultPlace t_x t_wayLong t_bothLeast, arI G (t_a 1) 558 t_all]) [0, 1] rfl) hK (ci := 8) (q0 := 0) rfl rfl) rfl rfl hl.1 rfl (lv_room (Nat.le_of_ble_eq_true rfl)) dX8_window_8 ⟨Nat.zero_le _, Nat.zero_le _⟩) hS hA hP (fun H locs hP hS => ?_)
  refine lv_if_eq (tgt := 26) hx hb dX8_window_11 (by decide) (fun c_3 => ?_) (fun c_3 => ?_)
  · have hf := ip c_3 hf
    refine lv_bipush (v := (-2)) hx hb dX8_window_26 (by decide) ?_
    exact hRet _ _ _ _ _ _ hf hP hS dX8_window_28
  · have hf := iq c_3 hf
    refine lv_iload_n hx hb dX8_window_14 rfl (lv_at hl 2 rfl) ?_
    refine lv_i2l hx hb dX8_window_15 rfl ?_
    refine lv_lconst (v := 0) hx hb dX8_window_16 (by decide) ?_
    refine lv_ldc2 hx hb hown (hw _ kw_20_3) dX8_window_17 ?_
    obtain ⟨r_4, hc_5, hf⟩ := bd1_in hf
    refine rcI (va_runS (As := [.long (Int32.toInt64 v2), .long 0, .long 3]) (rest := []) ⟨hx, hb, hml, hown, hw⟩ ((ctX8_within l G (Int32.toInt64 v2) 0 3 _ hc_5) _) (kS hw calX8_within kw_14_2 rfl rfl ⟨Nat.le_of_ble_eq_true rfl, Nat.le_of_ble_eq_true rfl⟩) (rpS (hP.sub (ws' := []) [] rfl) hK) rfl rfl hl.1 rfl (lv_room (Nat.le_of_ble_eq_true rfl)) dX8_window_20 ⟨Nat.zero_le _, Nat.zero_le _⟩) hS hA hP (fun H locs hP hS => ?_)
    refine lv_if_ne (tgt := 29) hx hb dX8_window_23 (by decide) (fun c_6 => ?_) (fun c_6 => ?_)
    · have hf := iq c_6 hf
      refine lv_iload_n hx hb dX8_window_29 rfl (lv_at hl 2 rfl) ?_
      refine lv_if_ne (tgt := 45) hx hb dX8_window_30 (by decide) (fun c_7 => ?_) (fun c_7 => ?_)
      · have hf := iq c_7 hf
        refine lv_iload_n hx hb dX8_window_45 rfl (lv_at hl 2 rfl) ?_
        refine lv_iconst (v := 1) hx hb dX8_window_46 (by decide) ?_
        refine lv_icmp_ne (tgt := 61) hx hb dX8_window_47 (by decide) (fun c_8 => ?_) (fun c_8 => ?_)
        · have hf := iq c_8 hf
          refine lv_iload_n hx hb dX8_window_61 rfl (lv_at hl 2 rfl) ?_
          refine lv_iconst (v := 2) hx hb dX8_window_62 (by decide) ?_
          refine lv_icmp_ne (tgt := 77) hx hb dX8_window_63 (by decide) (fun c_9 => ?_) (fun c_9 => ?_)
          · have hf := iq c_9 hf
            refine lv_aload_n hx hb dX8_window_77 rfl (lv_at hl 0 rfl) ?_
            refine lv_iload_n hx hb dX8_window_78 rfl (lv_at hl 1 rfl) ?_
            obtain ⟨r_10, hc_11, hf⟩ := bd1_in hf
            refine rcI (va_runV (As := [.int v1]) (rest := []) ⟨hx, hb, hml, hown, hw⟩ ((ctX8_leadsTo l G t_h t_a 0 t_all t_taped t_at t_behind t_size t_kind t_number t_wrong t_wrongAt t_faultKind t_faultPlace t_x t_wayLong t_bothLeast v1 _ hc_11) _) (kV hw calX8_leadsTo kw_20_8 rfl rfl ⟨Nat.le_of_ble_eq_true rfl, Nat.le_of_ble_eq_true rfl⟩) (rpV (hP.sub (ws' := [oX8 t_h t_a 0 t_taped t_at t_behind t_size t_kind t_number t_wrong t_wrongAt t_faultKind t_faultPlace t_x t_wayLong t_bothLeast, arI G (t_a 1) 558 t_all]) [0, 1] rfl) hK (ci := 8) (q0 := 0) rfl rfl) rfl rfl hl.1 rfl (lv_room (Nat.le_of_ble_eq_true rfl)) dX8_window_79 ⟨Nat.zero_le _, Nat.zero_le _⟩) hS hA hP (fun H locs hP hS => ?_)
            exact hRet _ _ _ _ _ _ hf hP hS dX8_window_82
          · have hf := ip c_9 hf
            refine lv_aload_n hx hb dX8_window_66 rfl (lv_at hl 0 rfl) ?_
            refine lv_iload_n hx hb dX8_window_67 rfl (lv_at hl 1 rfl) ?_
            obtain ⟨r_12, hc_13, hf⟩ := bd1_in hf
            refine rcI (va_runV (As := [.int v1]) (rest := []) ⟨hx, hb, hml, hown, hw⟩ ((ctX8_leadsTo l G t_h t_a 0 t_all t_taped t_at t_behind t_size t_kind t_number t_wrong t_wrongAt t_faultKind t_faultPlace t_x t_wayLong t_bothLeast v1 _ hc_13) _) (kV hw calX8_leadsTo kw_20_8 rfl rfl ⟨Nat.le_of_ble_eq_true rfl, Nat.le_of_ble_eq_true rfl⟩) (rpV (hP.sub (ws' := [oX8 t_h t_a 0 t_taped t_at t_behind t_size t_kind t_number t_wrong t_wrongAt t_faultKind t_faultPlace t_x t_wayLong t_bothLeast, arI G (t_a 1) 558 t_all]) [0, 1] rfl) hK (ci := 8) (q0 := 0) rfl rfl) rfl rfl hl.1 rfl (lv_room (Nat.le_of_ble_eq_true rfl)) dX8_window_68 ⟨Nat.zero_le _, Nat.zero_le _⟩) hS hA hP (fun H locs hP hS => ?_)
            obtain ⟨r_14, hc_15, hf⟩ := bd1_in hf
            refine rcI (va_runS (As := [.int r_12]) (rest := []) ⟨hx, hb, hml, hown, hw⟩ ((ctX8_bitsOf l G r_12 _ hc_15) _) (kS hw calX8_bitsOf kw_21_0 rfl rfl ⟨Nat.le_of_ble_eq_true rfl, Nat.le_of_ble_eq_true rfl⟩) (rpS (hP.sub (ws' := []) [] rfl) hK) rfl rfl hl.1 rfl (lv_room (Nat.le_of_ble_eq_true rfl)) dX8_window_71 ⟨Nat.zero_le _, Nat.zero_le _⟩) hS hA hP (fun H locs hP hS => ?_)
            refine lv_goto (tgt := 82) hx hb dX8_window_74 (by decide) ?_
            exact hRet _ _ _ _ _ _ hf hP hS dX8_window_82
        · have hf := ip c_8 hf
          refine lv_aload_n hx hb dX8_window_50 rfl (lv_at hl 0 rfl) ?_
          refine va_get (D := G.1) (ci := 8) (v := .ref (t_a 1)) (C := RX8) (T := TX8) (N := 33) hx hb hw inW8 hown hK.1 hP 0 rfl rfl 1 (by decide) (hw _ kw_5_11) (fun _ h9 => h9) rfl dX8_window_51 ?_
          refine lv_iload_n hx hb dX8_window_54 rfl (lv_at hl 1 rfl) ?_
          obtain ⟨r_16, hc_17, hf⟩ := bd1_in hf
          refine rcI (va_runS (As := [.ref (t_a 1), .int v1]) (rest := []) ⟨hx, hb, hml, hown, hw⟩ ((ctX8_stringsAt l G 558 (t_a 1) t_all v1 _ hc_17) _) (kS hw calX8_stringsAt kw_17_1 rfl rfl ⟨Nat.le_of_ble_eq_true rfl, Nat.le_of_ble_eq_true rfl⟩) (rpS (hP.sub (ws' := [arI G (t_a 1) 558 t_all]) [1] rfl) hK) rfl rfl hl.1 rfl (lv_room (Nat.le_of_ble_eq_true rfl)) dX8_window_55 ⟨Nat.zero_le _, Nat.zero_le _⟩) hS hA hP (fun H locs hP hS => ?_)
          refine lv_goto (tgt := 82) hx hb dX8_window_58 (by decide) ?_
          exact hRet _ _ _ _ _ _ hf hP hS dX8_window_82
      · have hf := ip c_7 hf
        refine lv_aload_n hx hb dX8_window_33 rfl (lv_at hl 0 rfl) ?_
        refine va_get (D := G.1) (ci := 8) (v := .ref (t_a 1)) (C := RX8) (T := TX8) (N := 33) hx hb hw inW8 hown hK.1 hP 0 rfl rfl 1 (by decide) (hw _ kw_5_11) (fun _ h9 => h9) rfl dX8_window_34 ?_
        refine lv_bipush (v := 6) hx hb dX8_window_37 (by decide) ?_
        refine lv_iload_n hx hb dX8_window_39 rfl (lv_at hl 1 rfl) ?_
        refine lv_iadd hx hb dX8_window_40 ?_
        obtain ⟨hi_19, hf⟩ := rdI_in hf
        refine va_iald hx hb hK.1 hP 1 0 rfl rfl hi_19 dX8_window_41 ?_
        refine lv_topi (fun x_18 ex_18 => ?_)
        have hf := hf x_18 ex_18
        refine lv_goto (tgt := 82) hx hb dX8_window_42 (by decide) ?_
        exact hRet _ _ _ _ _ _ hf hP hS dX8_window_82
    · have hf := ip c_6 hf
      refine lv_bipush (v := (-2)) hx hb dX8_window_26 (by decide) ?_
      exact hRet _ _ _ _ _ _ hf hP hS dX8_window_28
theorem calX8_cross : CalV yX8_cross cX8_cross 3 (some .int) 2 := ⟨⟨kw_21_12, kw_1_5, by decide +kernel⟩, kw_21_10, kw_21_11⟩
set_option maxHeartbeats 8000000 in
set_option maxRecDepth 100000 in
theorem ctX8_cross (l : Launch) (G : GT) (t_h : Nat) (t_a : Nat → Nat) (t_thrown : Int32) (t_all : Nat → Int32) (t_taped : Int32) (t_at : Int32) (t_behind : Int32) (t_size : Int32) (t_kind : Int32) (t_number : Int32) (t_wrong : Int32) (t_wrongAt : Int32) (t_faultKind : Int32) (t_faultPlace : Int32) (t_x : Int32) (t_wayLong : Int32) (t_bothLeast : Int32) (v1 : Int32) (v2 : Int32) (r : Int32) (o_t_thrown : Int32) (hf : fX8_cross t_thrown t_all v1 v2 = some (r, o_t_thrown)) : WrI l yX8_cross (Cond.code yX8_cross cX8_cross 3 (some .int)) { frames := 3, cells := 0, slots := 0, locals := 69 } G [.ref t_h, .int v1, .int v2] [oX8 t_h t_a t_thrown t_taped t_at t_behind t_size t_kind t_number t_wrong t_wrongAt t_faultKind t_faultPlace t_x t_wayLong t_bothLeast, arI G (t_a 1) 558 t_all] [oX8 t_h t_a o_t_thrown t_taped t_at t_behind t_size t_kind t_number t_wrong t_wrongAt t_faultKind t_faultPlace t_x t_wayLong t_bothLeast, arI G (t_a 1) 558 t_all] r := by
  intro sz
  refine Met.ofW (cc := cX8_cross) (maxL := 3) (ret := (some .int)) (by decide) rfl ?_
  intro p e s m args below meth c s₁ B hml hv
  obtain ⟨hargs, hsz, hP, hD0, hK⟩ := hv
  subst hsz
  obtain ⟨hx, hb, hr, hw, hown, hlk⟩ := fwB B
  refine fw_enter hargs (Nat.le_of_ble_eq_true rfl) (fun ls hl => ?_)
  have hl : lv_has ls 3 [(0, .ref t_h), (1, .int v1), (2, .int v2)] := hl
  refine fw_Q (P := fun Q => ∃ A : Nat → Prop, va_D A [oX8 t_h t_a t_thrown t_taped t_at t_behind t_size t_kind t_number t_wrong t_wrongAt t_faultKind t_faultPlace t_x t_wayLong t_bothLeast, arI G (t_a 1) 558 t_all] ∧ va_S A s.heap s.heap [] ∧ (∀ q, s.heap.size ≤ q → A q) ∧ ∀ (v : Int32) (n_t_thrown : Int32) (H : Heap) (locs : List Loc) (pc : Nat) (ls : Array Slot), some (v, n_t_thrown) = some (r, o_t_thrown) → va_P G.1 vwCl [oX8 t_h t_a n_t_thrown t_taped t_at t_behind t_size t_kind t_number t_wrong t_wrongAt t_faultKind t_faultPlace t_x t_wayLong t_bothLeast, arI G (t_a 1) 558 t_all] H → va_S A s.heap H locs → decode cX8_cross pc = .ok (.ireturn, 1) → W p l e ({ frames := 3, cells := 0, slots := 0, locals := 69 } : Room) s m args below meth c H locs 0 0 Q (F0 m pc ls [.int v])) ⟨va_A [oX8 t_h t_a t_thrown t_taped t_at t_behind t_size t_kind t_number t_wrong t_wrongAt t_faultKind t_faultPlace t_x t_wayLong t_bothLeast, arI G (t_a 1) 558 t_all] s.heap.size, hD0.self (sz := s.heap.size), va_S.rf, fun q h => Or.inr h, ?_⟩ ?_
  · intro v n_t_thrown H locs pc ls h hP hS hd
    cases h
    exact retWI hx hb hr hlk hS hP rfl hd
  rintro Q ⟨A, hD, hS, hA, hRet⟩
  change W p l e ({ frames := 3, cells := 0, slots := 0, locals := 69 } : Room) s m args below meth c _ _ 0 0 Q _
  unfold fX8_cross at hf
  refine lv_aload_n hx hb dX8_cross_0 rfl (lv_at hl 0 rfl) ?_
  refine lv_iconst (v := 0) hx hb dX8_cross_1 (by decide) ?_
  refine va_put (D := G.1) (ci := 8) (v := .int 0) (ty := .int) (C := RX8) (T := TX8) (N := 33) hx hb hw inW8 tyX8 tyX8_ok nmX8 hown hK.1 hP hD hS 0 rfl rfl 0 (by decide) (hw _ kw_6_21) (fun _ h9 => h9) rfl (by decide +kernel) rfl rfl (Nat.le_of_ble_eq_true rfl) dX8_cross_2 (fun H locs hP hD hS => ?_)
  have hP : va_P G.1 vwCl [oX8 t_h t_a 0 t_taped t_at t_behind t_size t_kind t_number t_wrong t_wrongAt t_faultKind t_faultPlace t_x t_wayLong t_bothLeast, arI G (t_a 1) 558 t_all] H := hP
  have hD : va_D A [oX8 t_h t_a 0 t_taped t_at t_behind t_size t_kind t_number t_wrong t_wrongAt t_faultKind t_faultPlace t_x t_wayLong t_bothLeast, arI G (t_a 1) 558 t_all] := hD
  refine lv_aload_n hx hb dX8_cross_5 rfl (lv_at hl 0 rfl) ?_
  refine lv_iload_n hx hb dX8_cross_6 rfl (lv_at hl 1 rfl) ?_
  refine lv_i2l hx hb dX8_cross_7 rfl ?_
  obtain ⟨r_1, hc_2, hf⟩ := bd1_in hf
  refine rcI (va_runV (As := [.long (Int32.toInt64 v1)]) (rest := []) ⟨hx, hb, hml, hown, hw⟩ ((ctX8_isPair l G t_h t_a 0 t_all t_taped t_at t_behind t_size t_kind t_number t_wrong t_wrongAt t_faultKind t_faultPlace t_x t_wayLong t_bothLeast (Int32.toInt64 v1) _ hc_2) _) (kV hw calX8_isPair kw_21_13 rfl rfl ⟨Nat.le_of_ble_eq_true rfl, Nat.le_of_ble_eq_true rfl⟩) (rpV (hP.sub (ws' := [oX8 t_h t_a 0 t_taped t_at t_behind t_size t_kind t_number t_wrong t_wrongAt t_faultKind t_faultPlace t_x t_wayLong t_bothLeast, arI G (t_a 1) 558 t_all]) [0, 1] rfl) hK (ci := 8) (q0 := 0) rfl rfl) rfl rfl hl.1 rfl (lv_room (Nat.le_of_ble_eq_true rfl)) dX8_cross_8 ⟨Nat.zero_le _, Nat.zero_le _⟩) hS hA hP (fun H locs hP hS => ?_)
  refine lv_if_eq (tgt := 23) hx hb dX8_cross_11 (by decide) (fun c_3 => ?_) (fun c_3 => ?_)
  · have hf := ip c_3 hf
    refine lv_bipush (v := (-2)) hx hb dX8_cross_23 (by decide) ?_
    exact hRet _ _ _ _ _ _ hf hP hS dX8_cross_25
  · have hf := iq c_3 hf
    refine lv_aload_n hx hb dX8_cross_14 rfl (lv_at hl 0 rfl) ?_
    refine lv_iload_n hx hb dX8_cross_15 rfl (lv_at hl 2 rfl) ?_
    refine lv_i2l hx hb dX8_cross_16 rfl ?_
    obtain ⟨r_4, hc_5, hf⟩ := bd1_in hf
    refine rcI (va_runV (As := [.long (Int32.toInt64 v2)]) (rest := []) ⟨hx, hb, hml, hown, hw⟩ ((ctX8_isPair l G t_h t_a 0 t_all t_taped t_at t_behind t_size t_kind t_number t_wrong t_wrongAt t_faultKind t_faultPlace t_x t_wayLong t_bothLeast (Int32.toInt64 v2) _ hc_5) _) (kV hw calX8_isPair kw_21_13 rfl rfl ⟨Nat.le_of_ble_eq_true rfl, Nat.le_of_ble_eq_true rfl⟩) (rpV (hP.sub (ws' := [oX8 t_h t_a 0 t_taped t_at t_behind t_size t_kind t_number t_wrong t_wrongAt t_faultKind t_faultPlace t_x t_wayLong t_bothLeast, arI G (t_a 1) 558 t_all]) [0, 1] rfl) hK (ci := 8) (q0 := 0) rfl rfl) rfl rfl hl.1 rfl (lv_room (Nat.le_of_ble_eq_true rfl)) dX8_cross_17 ⟨Nat.zero_le _, Nat.zero_le _⟩) hS hA hP (fun H locs hP hS => ?_)
    refine lv_if_ne (tgt := 26) hx hb dX8_cross_20 (by decide) (fun c_6 => ?_) (fun c_6 => ?_)
    · have hf := iq c_6 hf
      refine lv_iload_n hx hb dX8_cross_26 rfl (lv_at hl 1 rfl) ?_
      refine lv_bipush (v := 20) hx hb dX8_cross_27 (by decide) ?_
      refine lv_idiv hx hb dX8_cross_29 (by decide) ?_
      refine lv_iload_n hx hb dX8_cross_30 rfl (lv_at hl 1 rfl) ?_
      refine lv_bipush (v := 20) hx hb dX8_cross_31 (by decide) ?_
      refine lv_irem hx hb dX8_cross_33 (by decide) ?_
      refine lv_iload_n hx hb dX8_cross_34 rfl (lv_at hl 2 rfl) ?_
      refine lv_bipush (v := 20) hx hb dX8_cross_35 (by decide) ?_
      refine lv_idiv hx hb dX8_cross_37 (by decide) ?_
      refine lv_iload_n hx hb dX8_cross_38 rfl (lv_at hl 2 rfl) ?_
      refine lv_bipush (v := 20) hx hb dX8_cross_39 (by decide) ?_
      refine lv_irem hx hb dX8_cross_41 (by decide) ?_
      obtain ⟨r_7, hc_8, hf⟩ := bd1_in hf
      refine rcI (va_runS (As := [.int (v1 / 20), .int (v1 - v1 / 20 * 20), .int (v2 / 20), .int (v2 - v2 / 20 * 20)]) (rest := []) ⟨hx, hb, hml, hown, hw⟩ ((ctX8_crosses l G (v1 / 20) (v1 - v1 / 20 * 20) (v2 / 20) (v2 - v2 / 20 * 20) _ hc_8) _) (kS hw calX8_crosses kw_17_4 rfl rfl ⟨Nat.le_of_ble_eq_true rfl, Nat.le_of_ble_eq_true rfl⟩) (rpS (hP.sub (ws' := []) [] rfl) hK) rfl rfl hl.1 rfl (lv_room (Nat.le_of_ble_eq_true rfl)) dX8_cross_42 ⟨Nat.zero_le _, Nat.zero_le _⟩) hS hA hP (fun H locs hP hS => ?_)
      refine lv_if_eq (tgt := 52) hx hb dX8_cross_45 (by decide) (fun c_9 => ?_) (fun c_9 => ?_)
      · have hf := ip c_9 hf
        refine lv_iconst (v := 0) hx hb dX8_cross_52 (by decide) ?_
        exact hRet _ _ _ _ _ _ hf hP hS dX8_cross_53
      · have hf := iq c_9 hf
        refine lv_iconst (v := 1) hx hb dX8_cross_48 (by decide) ?_
        refine lv_goto (tgt := 53) hx hb dX8_cross_49 (by decide) ?_
        exact hRet _ _ _ _ _ _ hf hP hS dX8_cross_53
    · have hf := ip c_6 hf
      refine lv_bipush (v := (-2)) hx hb dX8_cross_23 (by decide) ?_
      exact hRet _ _ _ _ _ _ hf hP hS dX8_cross_25
theorem calX8_pair : CalV yX8_pair cX8_pair 5 (some .int) 2 := ⟨⟨kw_22_6, kw_1_5, by decide +kernel⟩, kw_22_4, kw_22_5⟩
set_option maxHeartbeats 8000000 in
set_option maxRecDepth 100000 in
theorem ctX8_pair (l : Launch) (G : GT) (t_h : Nat) (t_a : Nat → Nat) (t_thrown : Int32) (t_all : Nat → Int32) (t_taped : Int32) (t_at : Int32) (t_behind : Int32) (t_size : Int32) (t_kind : Int32) (t_number : Int32) (t_wrong : Int32) (t_wrongAt : Int32) (t_faultKind : Int32) (t_faultPlace : Int32) (t_x : Int32) (t_wayLong : Int32) (t_bothLeast : Int32) (v1 : Int32) (v2 : Int32) (r : Int32) (o_t_thrown : Int32) (hf : fX8_pair t_thrown t_all v1 v2 = some (r, o_t_thrown)) : WrI l yX8_pair (Cond.code yX8_pair cX8_pair 5 (some .int)) { frames := 4, cells := 0, slots := 0, locals := 93 } G [.ref t_h, .int v1, .int v2] [oX8 t_h t_a t_thrown t_taped t_at t_behind t_size t_kind t_number t_wrong t_wrongAt t_faultKind t_faultPlace t_x t_wayLong t_bothLeast, arI G (t_a 1) 558 t_all] [oX8 t_h t_a o_t_thrown t_taped t_at t_behind t_size t_kind t_number t_wrong t_wrongAt t_faultKind t_faultPlace t_x t_wayLong t_bothLeast, arI G (t_a 1) 558 t_all] r := by
  intro sz
  refine Met.ofW (cc := cX8_pair) (maxL := 5) (ret := (some .int)) (by decide) rfl ?_
  intro p e s m args below meth c s₁ B hml hv
  obtain ⟨hargs, hsz, hP, hD0, hK⟩ := hv
  subst hsz
  obtain ⟨hx, hb, hr, hw, hown, hlk⟩ := fwB B
  refine fw_enter hargs (Nat.le_of_ble_eq_true rfl) (fun ls hl => ?_)
  have hl : lv_has ls 5 [(0, .ref t_h), (1, .int v1), (2, .int v2)] := hl
  refine fw_Q (P := fun Q => ∃ A : Nat → Prop, va_D A [oX8 t_h t_a t_thrown t_taped t_at t_behind t_size t_kind t_number t_wrong t_wrongAt t_faultKind t_faultPlace t_x t_wayLong t_bothLeast, arI G (t_a 1) 558 t_all] ∧ va_S A s.heap s.heap [] ∧ (∀ q, s.heap.size ≤ q → A q) ∧ ∀ (v : Int32) (n_t_thrown : Int32) (H : Heap) (locs : List Loc) (pc : Nat) (ls : Array Slot), some (v, n_t_thrown) = some (r, o_t_thrown) → va_P G.1 vwCl [oX8 t_h t_a n_t_thrown t_taped t_at t_behind t_size t_kind t_number t_wrong t_wrongAt t_faultKind t_faultPlace t_x t_wayLong t_bothLeast, arI G (t_a 1) 558 t_all] H → va_S A s.heap H locs → decode cX8_pair pc = .ok (.ireturn, 1) → W p l e ({ frames := 4, cells := 0, slots := 0, locals := 93 } : Room) s m args below meth c H locs 0 0 Q (F0 m pc ls [.int v])) ⟨va_A [oX8 t_h t_a t_thrown t_taped t_at t_behind t_size t_kind t_number t_wrong t_wrongAt t_faultKind t_faultPlace t_x t_wayLong t_bothLeast, arI G (t_a 1) 558 t_all] s.heap.size, hD0.self (sz := s.heap.size), va_S.rf, fun q h => Or.inr h, ?_⟩ ?_
  · intro v n_t_thrown H locs pc ls h hP hS hd
    cases h
    exact retWI hx hb hr hlk hS hP rfl hd
  rintro Q ⟨A, hD, hS, hA, hRet⟩
  change W p l e ({ frames := 4, cells := 0, slots := 0, locals := 93 } : Room) s m args below meth c _ _ 0 0 Q _
  unfold fX8_pair at hf
  refine lv_aload_n hx hb dX8_pair_0 rfl (lv_at hl 0 rfl) ?_
  refine lv_iconst (v := 0) hx hb dX8_pair_1 (by decide) ?_
  refine va_put (D := G.1) (ci := 8) (v := .int 0) (ty := .int) (C := RX8) (T := TX8) (N := 33) hx hb hw inW8 tyX8 tyX8_ok nmX8 hown hK.1 hP hD hS 0 rfl rfl 0 (by decide) (hw _ kw_6_21) (fun _ h9 => h9) rfl (by decide +kernel) rfl rfl (Nat.le_of_ble_eq_true rfl) dX8_pair_2 (fun H locs hP hD hS => ?_)
  have hP : va_P G.1 vwCl [oX8 t_h t_a 0 t_taped t_at t_behind t_size t_kind t_number t_wrong t_wrongAt t_faultKind t_faultPlace t_x t_wayLong t_bothLeast, arI G (t_a 1) 558 t_all] H := hP
  have hD : va_D A [oX8 t_h t_a 0 t_taped t_at t_behind t_size t_kind t_number t_wrong t_wrongAt t_faultKind t_faultPlace t_x t_wayLong t_bothLeast, arI G (t_a 1) 558 t_all] := hD
  refine lv_aload_n hx hb dX8_pair_5 rfl (lv_at hl 0 rfl) ?_
  refine lv_iload_n hx hb dX8_pair_6 rfl (lv_at hl 1 rfl) ?_
  refine lv_i2l hx hb dX8_pair_7 rfl ?_
  obtain ⟨r_1, hc_2, hf⟩ := bd1_in hf
  refine rcI (va_runV (As := [.long (Int32.toInt64 v1)]) (rest := []) ⟨hx, hb, hml, hown, hw⟩ ((ctX8_isPair l G t_h t_a 0 t_all t_taped t_at t_behind t_size t_kind t_number t_wrong t_wrongAt t_faultKind t_faultPlace t_x t_wayLong t_bothLeast (Int32.toInt64 v1) _ hc_2) _) (kV hw calX8_isPair kw_21_13 rfl rfl ⟨Nat.le_of_ble_eq_true rfl, Nat.le_of_ble_eq_true rfl⟩) (rpV (hP.sub (ws' := [oX8 t_h t_a 0 t_taped t_at t_behind t_size t_kind t_number t_wrong t_wrongAt t_faultKind t_faultPlace t_x t_wayLong t_bothLeast, arI G (t_a 1) 558 t_all]) [0, 1] rfl) hK (ci := 8) (q0 := 0) rfl rfl) rfl rfl hl.1 rfl (lv_room (Nat.le_of_ble_eq_true rfl)) dX8_pair_8 ⟨Nat.zero_le _, Nat.zero_le _⟩) hS hA hP (fun H locs hP hS => ?_)
  refine lv_if_eq (tgt := 26) hx hb dX8_pair_11 (by decide) (fun c_3 => ?_) (fun c_3 => ?_)
  · have hf := ip c_3 hf
    refine lv_bipush (v := (-2)) hx hb dX8_pair_26 (by decide) ?_
    exact hRet _ _ _ _ _ _ hf hP hS dX8_pair_28
  · have hf := iq c_3 hf
    refine lv_iload_n hx hb dX8_pair_14 rfl (lv_at hl 2 rfl) ?_
    refine lv_i2l hx hb dX8_pair_15 rfl ?_
    refine lv_lconst (v := 0) hx hb dX8_pair_16 (by decide) ?_
    refine lv_ldc2 hx hb hown (hw _ kw_20_3) dX8_pair_17 ?_
    obtain ⟨r_4, hc_5, hf⟩ := bd1_in hf
    refine rcI (va_runS (As := [.long (Int32.toInt64 v2), .long 0, .long 3]) (rest := []) ⟨hx, hb, hml, hown, hw⟩ ((ctX8_within l G (Int32.toInt64 v2) 0 3 _ hc_5) _) (kS hw calX8_within kw_14_2 rfl rfl ⟨Nat.le_of_ble_eq_true rfl, Nat.le_of_ble_eq_true rfl⟩) (rpS (hP.sub (ws' := []) [] rfl) hK) rfl rfl hl.1 rfl (lv_room (Nat.le_of_ble_eq_true rfl)) dX8_pair_20 ⟨Nat.zero_le _, Nat.zero_le _⟩) hS hA hP (fun H locs hP hS => ?_)
    refine lv_if_ne (tgt := 29) hx hb dX8_pair_23 (by decide) (fun c_6 => ?_) (fun c_6 => ?_)
    · have hf := iq c_6 hf
      refine lv_iload_n hx hb dX8_pair_29 rfl (lv_at hl 1 rfl) ?_
      refine lv_bipush (v := 20) hx hb dX8_pair_30 (by decide) ?_
      refine lv_idiv hx hb dX8_pair_32 (by decide) ?_
      refine lv_topi (fun y_7 ey_7 => ?_)
      have hf := bnd_all hf y_7 ey_7
      refine lv_istore_n (lv' := [(3, .int y_7), (0, .ref t_h), (1, .int v1), (2, .int v2)]) hx hb dX8_pair_33 rfl hl (by decide) rfl (fun ls hl => ?_)
      refine lv_iload_n hx hb dX8_pair_34 rfl (lv_at hl 2 rfl) ?_
      refine lv_bipush (v := 20) hx hb dX8_pair_35 (by decide) ?_
      refine lv_irem hx hb dX8_pair_37 (by decide) ?_
      refine lv_topi (fun y_8 ey_8 => ?_)
      have hf := bnd_all hf y_8 ey_8
      refine lv_istore (lv' := [(4, .int y_8), (3, .int y_7), (0, .ref t_h), (1, .int v1), (2, .int v2)]) hx hb dX8_pair_38 hl (by decide) rfl (fun ls hl => ?_)
      refine lv_iload_n hx hb dX8_pair_40 rfl (lv_at hl 4 rfl) ?_
      refine lv_if_ne (tgt := 54) hx hb dX8_pair_41 (by decide) (fun c_9 => ?_) (fun c_9 => ?_)
      · have hf := iq c_9 hf
        refine lv_iload_n hx hb dX8_pair_54 rfl (lv_at hl 4 rfl) ?_
        refine lv_iconst (v := 1) hx hb dX8_pair_55 (by decide) ?_
        refine lv_icmp_ne (tgt := 69) hx hb dX8_pair_56 (by decide) (fun c_10 => ?_) (fun c_10 => ?_)
        · have hf := iq c_10 hf
          refine lv_iload_n hx hb dX8_pair_69 rfl (lv_at hl 4 rfl) ?_
          refine lv_iconst (v := 2) hx hb dX8_pair_70 (by decide) ?_
          refine lv_icmp_ne (tgt := 84) hx hb dX8_pair_71 (by decide) (fun c_11 => ?_) (fun c_11 => ?_)
          · have hf := iq c_11 hf
            refine lv_aload_n hx hb dX8_pair_84 rfl (lv_at hl 2 rfl) ?_
            refine lv_iload_n hx hb dX8_pair_85 rfl (lv_at hl 1 rfl) ?_
            refine lv_iload hx hb dX8_pair_86 (lv_at hl 0 rfl) ?_
            obtain ⟨r_12, hc_13, hf⟩ := bd1_in hf
            refine rcI (va_runV (As := [.int y_7, .int y_8]) (rest := []) ⟨hx, hb, hml, hown, hw⟩ ((ctX8_isSlack l G t_h t_a 0 t_all t_taped t_at t_behind t_size t_kind t_number t_wrong t_wrongAt t_faultKind t_faultPlace t_x t_wayLong t_bothLeast y_7 y_8 _ hc_13) _) (kV hw calX8_isSlack kw_22_19 rfl rfl ⟨Nat.le_of_ble_eq_true rfl, Nat.le_of_ble_eq_true rfl⟩) (rpV (hP.sub (ws' := [oX8 t_h t_a 0 t_taped t_at t_behind t_size t_kind t_number t_wrong t_wrongAt t_faultKind t_faultPlace t_x t_wayLong t_bothLeast, arI G (t_a 1) 558 t_all]) [0, 1] rfl) hK (ci := 8) (q0 := 0) rfl rfl) rfl rfl hl.1 rfl (lv_room (Nat.le_of_ble_eq_true rfl)) dX8_pair_88 ⟨Nat.zero_le _, Nat.zero_le _⟩) hS hA hP (fun H locs hP hS => ?_)
            refine lv_if_eq (tgt := 98) hx hb dX8_pair_91 (by decide) (fun c_14 => ?_) (fun c_14 => ?_)
            · have hf := ip c_14 hf
              refine lv_iconst (v := 0) hx hb dX8_pair_98 (by decide) ?_
              exact hRet _ _ _ _ _ _ hf hP hS dX8_pair_99
            · have hf := iq c_14 hf
              refine lv_iconst (v := 1) hx hb dX8_pair_94 (by decide) ?_
              refine lv_goto (tgt := 99) hx hb dX8_pair_95 (by decide) ?_
              exact hRet _ _ _ _ _ _ hf hP hS dX8_pair_99
          · have hf := ip c_11 hf
            refine lv_aload_n hx hb dX8_pair_74 rfl (lv_at hl 2 rfl) ?_
            refine lv_iload_n hx hb dX8_pair_75 rfl (lv_at hl 1 rfl) ?_
            refine lv_iload hx hb dX8_pair_76 (lv_at hl 0 rfl) ?_
            obtain ⟨r_15, hc_16, hf⟩ := bd1_in hf
            refine rcI (va_runV (As := [.int y_7, .int y_8]) (rest := []) ⟨hx, hb, hml, hown, hw⟩ ((ctX8_lossOf l G t_h t_a 0 t_all t_taped t_at t_behind t_size t_kind t_number t_wrong t_wrongAt t_faultKind t_faultPlace t_x t_wayLong t_bothLeast y_7 y_8 _ hc_16) _) (kV hw calX8_lossOf kw_22_15 rfl rfl ⟨Nat.le_of_ble_eq_true rfl, Nat.le_of_ble_eq_true rfl⟩) (rpV (hP.sub (ws' := [oX8 t_h t_a 0 t_taped t_at t_behind t_size t_kind t_number t_wrong t_wrongAt t_faultKind t_faultPlace t_x t_wayLong t_bothLeast, arI G (t_a 1) 558 t_all]) [0, 1] rfl) hK (ci := 8) (q0 := 0) rfl rfl) rfl rfl hl.1 rfl (lv_room (Nat.le_of_ble_eq_true rfl)) dX8_pair_78 ⟨Nat.zero_le _, Nat.zero_le _⟩) hS hA hP (fun H locs hP hS => ?_)
            refine lv_goto (tgt := 99) hx hb dX8_pair_81 (by decide) ?_
            exact hRet _ _ _ _ _ _ hf hP hS dX8_pair_99
        · have hf := ip c_10 hf
          refine lv_aload_n hx hb dX8_pair_59 rfl (lv_at hl 2 rfl) ?_
          refine lv_iload_n hx hb dX8_pair_60 rfl (lv_at hl 1 rfl) ?_
          refine lv_iload hx hb dX8_pair_61 (lv_at hl 0 rfl) ?_
          obtain ⟨r_17, hc_18, hf⟩ := bd1_in hf
          refine rcI (va_runV (As := [.int y_7, .int y_8]) (rest := []) ⟨hx, hb, hml, hown, hw⟩ ((ctX8_knotsOf l G t_h t_a 0 t_all t_taped t_at t_behind t_size t_kind t_number t_wrong t_wrongAt t_faultKind t_faultPlace t_x t_wayLong t_bothLeast y_7 y_8 _ hc_18) _) (kV hw calX8_knotsOf kw_22_11 rfl rfl ⟨Nat.le_of_ble_eq_true rfl, Nat.le_of_ble_eq_true rfl⟩) (rpV (hP.sub (ws' := [oX8 t_h t_a 0 t_taped t_at t_behind t_size t_kind t_number t_wrong t_wrongAt t_faultKind t_faultPlace t_x t_wayLong t_bothLeast, arI G (t_a 1) 558 t_all]) [0, 1] rfl) hK (ci := 8) (q0 := 0) rfl rfl) rfl rfl hl.1 rfl (lv_room (Nat.le_of_ble_eq_true rfl)) dX8_pair_63 ⟨Nat.zero_le _, Nat.zero_le _⟩) hS hA hP (fun H locs hP hS => ?_)
          refine lv_goto (tgt := 99) hx hb dX8_pair_66 (by decide) ?_
          exact hRet _ _ _ _ _ _ hf hP hS dX8_pair_99
      · have hf := ip c_9 hf
        refine lv_aload_n hx hb dX8_pair_44 rfl (lv_at hl 2 rfl) ?_
        refine lv_iload_n hx hb dX8_pair_45 rfl (lv_at hl 1 rfl) ?_
        refine lv_iload hx hb dX8_pair_46 (lv_at hl 0 rfl) ?_
        obtain ⟨r_19, hc_20, hf⟩ := bd1_in hf
        refine rcI (va_runV (As := [.int y_7, .int y_8]) (rest := []) ⟨hx, hb, hml, hown, hw⟩ ((ctX8_lengthOf l G t_h t_a 0 t_all t_taped t_at t_behind t_size t_kind t_number t_wrong t_wrongAt t_faultKind t_faultPlace t_x t_wayLong t_bothLeast y_7 y_8 _ hc_20) _) (kV hw calX8_lengthOf kw_22_7 rfl rfl ⟨Nat.le_of_ble_eq_true rfl, Nat.le_of_ble_eq_true rfl⟩) (rpV (hP.sub (ws' := [oX8 t_h t_a 0 t_taped t_at t_behind t_size t_kind t_number t_wrong t_wrongAt t_faultKind t_faultPlace t_x t_wayLong t_bothLeast, arI G (t_a 1) 558 t_all]) [0, 1] rfl) hK (ci := 8) (q0 := 0) rfl rfl) rfl rfl hl.1 rfl (lv_room (Nat.le_of_ble_eq_true rfl)) dX8_pair_48 ⟨Nat.zero_le _, Nat.zero_le _⟩) hS hA hP (fun H locs hP hS => ?_)
        refine lv_goto (tgt := 99) hx hb dX8_pair_51 (by decide) ?_
        exact hRet _ _ _ _ _ _ hf hP hS dX8_pair_99
    · have hf := ip c_6 hf
      refine lv_bipush (v := (-2)) hx hb dX8_pair_26 (by decide) ?_
      exact hRet _ _ _ _ _ _ hf hP hS dX8_pair_28
theorem calX8_refuses : CalV yX8_refuses cX8_refuses 3 (some .int) 1 := ⟨⟨kw_23_11, kw_1_5, by decide +kernel⟩, kw_23_9, kw_23_10⟩
set_option maxHeartbeats 8000000 in
set_option maxRecDepth 100000 in
theorem ctX8_refuses (l : Launch) (G : GT) (t_h : Nat) (t_a : Nat → Nat) (t_thrown : Int32) (t_all : Nat → Int32) (t_taped : Int32) (t_at : Int32) (t_behind : Int32) (t_size : Int32) (t_kind : Int32) (t_number : Int32) (t_wrong : Int32) (t_wrongAt : Int32) (t_faultKind : Int32) (t_faultPlace : Int32) (t_x : Int32) (t_wayLong : Int32) (t_bothLeast : Int32) (v1 : Int64) (r : Int32) (hf : fX8_refuses t_all v1 = some r) : RdI l yX8_refuses (Cond.code yX8_refuses cX8_refuses 3 (some .int)) { frames := 3, cells := 0, slots := 0, locals := 71 } G [.ref t_h, .long v1] [oX8 t_h t_a t_thrown t_taped t_at t_behind t_size t_kind t_number t_wrong t_wrongAt t_faultKind t_faultPlace t_x t_wayLong t_bothLeast, arI G (t_a 1) 558 t_all] r := by
  intro sz
  refine Met.ofW (cc := cX8_refuses) (maxL := 3) (ret := (some .int)) (by decide) rfl ?_
  intro p e s m args below meth c s₁ B hml hv
  obtain ⟨hargs, hsz, hP, hK⟩ := hv
  subst hsz
  obtain ⟨hx, hb, hr, hw, hown, hlk⟩ := fwB B
  refine fw_enter hargs (Nat.le_of_ble_eq_true rfl) (fun ls hl => ?_)
  have hl : lv_has ls 3 [(0, .ref t_h), (1, .long v1)] := hl
  refine fw_Q (P := fun Q => ∃ A : Nat → Prop, va_S A s.heap s.heap [] ∧ (∀ q, s.heap.size ≤ q → A q) ∧ ∀ (v : Int32) (H : Heap) (locs : List Loc) (pc : Nat) (ls : Array Slot), some v = some r → va_S A s.heap H locs → decode cX8_refuses pc = .ok (.ireturn, 1) → W p l e ({ frames := 3, cells := 0, slots := 0, locals := 71 } : Room) s m args below meth c H locs 0 0 Q (F0 m pc ls [.int v])) ⟨fun q => s.heap.size ≤ q, va_S.rf, fun q h => h, fun v H locs pc ls h hS hd => retRI hx hb hr hlk hS h hd⟩ ?_
  rintro Q ⟨A, hS, hA, hRet⟩
  change W p l e ({ frames := 3, cells := 0, slots := 0, locals := 71 } : Room) s m args below meth c _ _ 0 0 Q _
  unfold fX8_refuses at hf
  refine lv_aload_n hx hb dX8_refuses_0 rfl (lv_at hl 0 rfl) ?_
  refine lv_lload_n hx hb dX8_refuses_1 rfl (lv_at hl 1 rfl) ?_
  obtain ⟨r_1, hc_2, hf⟩ := bd1_in hf
  refine rcI (va_runV (As := [.long v1]) (rest := []) ⟨hx, hb, hml, hown, hw⟩ ((ctX8_isPair l G t_h t_a t_thrown t_all t_taped t_at t_behind t_size t_kind t_number t_wrong t_wrongAt t_faultKind t_faultPlace t_x t_wayLong t_bothLeast v1 _ hc_2) _) (kV hw calX8_isPair kw_21_13 rfl rfl ⟨Nat.le_of_ble_eq_true rfl, Nat.le_of_ble_eq_true rfl⟩) (rpV (hP.sub (ws' := [oX8 t_h t_a t_thrown t_taped t_at t_behind t_size t_kind t_number t_wrong t_wrongAt t_faultKind t_faultPlace t_x t_wayLong t_bothLeast, arI G (t_a 1) 558 t_all]) [0, 1] rfl) hK (ci := 8) (q0 := 0) rfl rfl) rfl rfl hl.1 rfl (lv_room (Nat.le_of_ble_eq_true rfl)) dX8_refuses_2 ⟨Nat.zero_le _, Nat.zero_le _⟩) hS hA hP (fun H locs hP hS => ?_)
  refine lv_if_eq (tgt := 28) hx hb dX8_refuses_5 (by decide) (fun c_3 => ?_) (fun c_3 => ?_)
  · have hf := ip c_3 hf
    refine lv_iconst (v := 1) hx hb dX8_refuses_28 (by decide) ?_
    exact hRet _ _ _ _ _ hf hS dX8_refuses_29
  · have hf := iq c_3 hf
    refine lv_aload_n hx hb dX8_refuses_8 rfl (lv_at hl 0 rfl) ?_
    refine va_get (D := G.1) (ci := 8) (v := .ref (t_a 1)) (C := RX8) (T := TX8) (N := 33) hx hb hw inW8 hown hK.1 hP 0 rfl rfl 1 (by decide) (hw _ kw_5_11) (fun _ h9 => h9) rfl dX8_refuses_9 ?_
    refine lv_lload_n hx hb dX8_refuses_12 rfl (lv_at hl 1 rfl) ?_
    refine lv_l2i hx hb dX8_refuses_13 rfl ?_
    refine lv_bipush (v := 20) hx hb dX8_refuses_14 (by decide) ?_
    refine lv_idiv hx hb dX8_refuses_16 (by decide) ?_
    refine lv_lload_n hx hb dX8_refuses_17 rfl (lv_at hl 1 rfl) ?_
    refine lv_l2i hx hb dX8_refuses_18 rfl ?_
    refine lv_bipush (v := 20) hx hb dX8_refuses_19 (by decide) ?_
    refine lv_irem hx hb dX8_refuses_21 (by decide) ?_
    obtain ⟨r_4, hc_5, hf⟩ := bd1_in hf
    refine rcI (va_runS (As := [.ref (t_a 1), .int ((Int64.toInt32 v1) / 20), .int ((Int64.toInt32 v1) - (Int64.toInt32 v1) / 20 * 20)]) (rest := []) ⟨hx, hb, hml, hown, hw⟩ ((ctX8_refusesIn l G 558 (t_a 1) t_all ((Int64.toInt32 v1) / 20) ((Int64.toInt32 v1) - (Int64.toInt32 v1) / 20 * 20) _ hc_5) _) (kS hw calX8_refusesIn kw_16_22 rfl rfl ⟨Nat.le_of_ble_eq_true rfl, Nat.le_of_ble_eq_true rfl⟩) (rpS (hP.sub (ws' := [arI G (t_a 1) 558 t_all]) [1] rfl) hK) rfl rfl hl.1 rfl (lv_room (Nat.le_of_ble_eq_true rfl)) dX8_refuses_22 ⟨Nat.zero_le _, Nat.zero_le _⟩) hS hA hP (fun H locs hP hS => ?_)
    refine lv_goto (tgt := 29) hx hb dX8_refuses_25 (by decide) ?_
    exact hRet _ _ _ _ _ hf hS dX8_refuses_29
theorem calX8_may : CalV yX8_may cX8_may 2 (some .int) 1 := ⟨⟨kw_23_7, kw_1_5, by decide +kernel⟩, kw_23_5, kw_23_6⟩
set_option maxHeartbeats 8000000 in
set_option maxRecDepth 100000 in
theorem ctX8_may (l : Launch) (G : GT) (t_h : Nat) (t_a : Nat → Nat) (t_thrown : Int32) (t_all : Nat → Int32) (t_taped : Int32) (t_at : Int32) (t_behind : Int32) (t_size : Int32) (t_kind : Int32) (t_number : Int32) (t_wrong : Int32) (t_wrongAt : Int32) (t_faultKind : Int32) (t_faultPlace : Int32) (t_x : Int32) (t_wayLong : Int32) (t_bothLeast : Int32) (v1 : Int32) (r : Int32) (o_t_thrown : Int32) (hf : fX8_may t_thrown t_all v1 = some (r, o_t_thrown)) : WrI l yX8_may (Cond.code yX8_may cX8_may 2 (some .int)) { frames := 4, cells := 0, slots := 0, locals := 93 } G [.ref t_h, .int v1] [oX8 t_h t_a t_thrown t_taped t_at t_behind t_size t_kind t_number t_wrong t_wrongAt t_faultKind t_faultPlace t_x t_wayLong t_bothLeast, arI G (t_a 1) 558 t_all] [oX8 t_h t_a o_t_thrown t_taped t_at t_behind t_size t_kind t_number t_wrong t_wrongAt t_faultKind t_faultPlace t_x t_wayLong t_bothLeast, arI G (t_a 1) 558 t_all] r := by
  intro sz
  refine Met.ofW (cc := cX8_may) (maxL := 2) (ret := (some .int)) (by decide) rfl ?_
  intro p e s m args below meth c s₁ B hml hv
  obtain ⟨hargs, hsz, hP, hD0, hK⟩ := hv
  subst hsz
  obtain ⟨hx, hb, hr, hw, hown, hlk⟩ := fwB B
  refine fw_enter hargs (Nat.le_of_ble_eq_true rfl) (fun ls hl => ?_)
  have hl : lv_has ls 2 [(0, .ref t_h), (1, .int v1)] := hl
  refine fw_Q (P := fun Q => ∃ A : Nat → Prop, va_D A [oX8 t_h t_a t_thrown t_taped t_at t_behind t_size t_kind t_number t_wrong t_wrongAt t_faultKind t_faultPlace t_x t_wayLong t_bothLeast, arI G (t_a 1) 558 t_all] ∧ va_S A s.heap s.heap [] ∧ (∀ q, s.heap.size ≤ q → A q) ∧ ∀ (v : Int32) (n_t_thrown : Int32) (H : Heap) (locs : List Loc) (pc : Nat) (ls : Array Slot), some (v, n_t_thrown) = some (r, o_t_thrown) → va_P G.1 vwCl [oX8 t_h t_a n_t_thrown t_taped t_at t_behind t_size t_kind t_number t_wrong t_wrongAt t_faultKind t_faultPlace t_x t_wayLong t_bothLeast, arI G (t_a 1) 558 t_all] H → va_S A s.heap H locs → decode cX8_may pc = .ok (.ireturn, 1) → W p l e ({ frames := 4, cells := 0, slots := 0, locals := 93 } : Room) s m args below meth c H locs 0 0 Q (F0 m pc ls [.int v])) ⟨va_A [oX8 t_h t_a t_thrown t_taped t_at t_behind t_size t_kind t_number t_wrong t_wrongAt t_faultKind t_faultPlace t_x t_wayLong t_bothLeast, arI G (t_a 1) 558 t_all] s.heap.size, hD0.self (sz := s.heap.size), va_S.rf, fun q h => Or.inr h, ?_⟩ ?_
  · intro v n_t_thrown H locs pc ls h hP hS hd
    cases h
    exact retWI hx hb hr hlk hS hP rfl hd
  rintro Q ⟨A, hD, hS, hA, hRet⟩
  change W p l e ({ frames := 4, cells := 0, slots := 0, locals := 93 } : Room) s m args below meth c _ _ 0 0 Q _
  unfold fX8_may at hf
  refine lv_aload_n hx hb dX8_may_0 rfl (lv_at hl 0 rfl) ?_
  refine lv_iconst (v := 0) hx hb dX8_may_1 (by decide) ?_
  refine va_put (D := G.1) (ci := 8) (v := .int 0) (ty := .int) (C := RX8) (T := TX8) (N := 33) hx hb hw inW8 tyX8 tyX8_ok nmX8 hown hK.1 hP hD hS 0 rfl rfl 0 (by decide) (hw _ kw_6_21) (fun _ h9 => h9) rfl (by decide +kernel) rfl rfl (Nat.le_of_ble_eq_true rfl) dX8_may_2 (fun H locs hP hD hS => ?_)
  have hP : va_P G.1 vwCl [oX8 t_h t_a 0 t_taped t_at t_behind t_size t_kind t_number t_wrong t_wrongAt t_faultKind t_faultPlace t_x t_wayLong t_bothLeast, arI G (t_a 1) 558 t_all] H := hP
  have hD : va_D A [oX8 t_h t_a 0 t_taped t_at t_behind t_size t_kind t_number t_wrong t_wrongAt t_faultKind t_faultPlace t_x t_wayLong t_bothLeast, arI G (t_a 1) 558 t_all] := hD
  refine lv_aload_n hx hb dX8_may_5 rfl (lv_at hl 0 rfl) ?_
  refine lv_iload_n hx hb dX8_may_6 rfl (lv_at hl 1 rfl) ?_
  refine lv_i2l hx hb dX8_may_7 rfl ?_
  obtain ⟨r_1, hc_2, hf⟩ := bd1_in hf
  refine rcI (va_runV (As := [.long (Int32.toInt64 v1)]) (rest := []) ⟨hx, hb, hml, hown, hw⟩ ((ctX8_refuses l G t_h t_a 0 t_all t_taped t_at t_behind t_size t_kind t_number t_wrong t_wrongAt t_faultKind t_faultPlace t_x t_wayLong t_bothLeast (Int32.toInt64 v1) _ hc_2) _) (kV hw calX8_refuses kw_23_8 rfl rfl ⟨Nat.le_of_ble_eq_true rfl, Nat.le_of_ble_eq_true rfl⟩) (rpV (hP.sub (ws' := [oX8 t_h t_a 0 t_taped t_at t_behind t_size t_kind t_number t_wrong t_wrongAt t_faultKind t_faultPlace t_x t_wayLong t_bothLeast, arI G (t_a 1) 558 t_all]) [0, 1] rfl) hK (ci := 8) (q0 := 0) rfl rfl) rfl rfl hl.1 rfl (lv_room (Nat.le_of_ble_eq_true rfl)) dX8_may_8 ⟨Nat.zero_le _, Nat.zero_le _⟩) hS hA hP (fun H locs hP hS => ?_)
  exact hRet _ _ _ _ _ _ hf hP hS dX8_may_11
theorem calX8_tie : CalV yX8_tie cX8_tie 4 (some .int) 2 := ⟨⟨kw_23_20, kw_1_5, by decide +kernel⟩, kw_23_18, kw_23_19⟩
set_option maxHeartbeats 8000000 in
set_option maxRecDepth 100000 in
theorem ctX8_tie (l : Launch) (G : GT) (t_h : Nat) (t_a : Nat → Nat) (t_thrown : Int32) (t_all : Nat → Int32) (t_taped : Int32) (t_at : Int32) (t_behind : Int32) (t_size : Int32) (t_kind : Int32) (t_number : Int32) (t_wrong : Int32) (t_wrongAt : Int32) (t_faultKind : Int32) (t_faultPlace : Int32) (t_x : Int32) (t_wayLong : Int32) (t_bothLeast : Int32) (v1 : Int32) (v2 : Int32) (r : Int32) (o_t_thrown : Int32) (o_t_all : Nat → Int32) (hf : fX8_tie t_thrown t_all v1 v2 = some (r, o_t_thrown, o_t_all)) : WrI l yX8_tie (Cond.code yX8_tie cX8_tie 4 (some .int)) { frames := 4, cells := 0, slots := 0, locals := 93 } G [.ref t_h, .int v1, .int v2] [oX8 t_h t_a t_thrown t_taped t_at t_behind t_size t_kind t_number t_wrong t_wrongAt t_faultKind t_faultPlace t_x t_wayLong t_bothLeast, arI G (t_a 1) 558 t_all] [oX8 t_h t_a o_t_thrown t_taped t_at t_behind t_size t_kind t_number t_wrong t_wrongAt t_faultKind t_faultPlace t_x t_wayLong t_bothLeast, arI G (t_a 1) 558 o_t_all] r := by
  intro sz
  refine Met.ofW (cc := cX8_tie) (maxL := 4) (ret := (some .int)) (by decide) rfl ?_
  intro p e s m args below meth c s₁ B hml hv
  obtain ⟨hargs, hsz, hP, hD0, hK⟩ := hv
  subst hsz
  obtain ⟨hx, hb, hr, hw, hown, hlk⟩ := fwB B
  refine fw_enter hargs (Nat.le_of_ble_eq_true rfl) (fun ls hl => ?_)
  have hl : lv_has ls 4 [(0, .ref t_h), (1, .int v1), (2, .int v2)] := hl
  refine fw_Q (P := fun Q => ∃ A : Nat → Prop, va_D A [oX8 t_h t_a t_thrown t_taped t_at t_behind t_size t_kind t_number t_wrong t_wrongAt t_faultKind t_faultPlace t_x t_wayLong t_bothLeast, arI G (t_a 1) 558 t_all] ∧ va_S A s.heap s.heap [] ∧ (∀ q, s.heap.size ≤ q → A q) ∧ ∀ (v : Int32) (n_t_thrown : Int32) (n_t_all : Nat → Int32) (H : Heap) (locs : List Loc) (pc : Nat) (ls : Array Slot), some (v, n_t_thrown, n_t_all) = some (r, o_t_thrown, o_t_all) → va_P G.1 vwCl [oX8 t_h t_a n_t_thrown t_taped t_at t_behind t_size t_kind t_number t_wrong t_wrongAt t_faultKind t_faultPlace t_x t_wayLong t_bothLeast, arI G (t_a 1) 558 n_t_all] H → va_S A s.heap H locs → decode cX8_tie pc = .ok (.ireturn, 1) → W p l e ({ frames := 4, cells := 0, slots := 0, locals := 93 } : Room) s m args below meth c H locs 0 0 Q (F0 m pc ls [.int v])) ⟨va_A [oX8 t_h t_a t_thrown t_taped t_at t_behind t_size t_kind t_number t_wrong t_wrongAt t_faultKind t_faultPlace t_x t_wayLong t_bothLeast, arI G (t_a 1) 558 t_all] s.heap.size, hD0.self (sz := s.heap.size), va_S.rf, fun q h => Or.inr h, ?_⟩ ?_
  · intro v n_t_thrown n_t_all H locs pc ls h hP hS hd
    cases h
    exact retWI hx hb hr hlk hS hP rfl hd
  rintro Q ⟨A, hD, hS, hA, hRet⟩
  change W p l e ({ frames := 4, cells := 0, slots := 0, locals := 93 } : Room) s m args below meth c _ _ 0 0 Q _
  unfold fX8_tie at hf
  refine lv_aload_n hx hb dX8_tie_0 rfl (lv_at hl 0 rfl) ?_
  refine lv_iconst (v := 0) hx hb dX8_tie_1 (by decide) ?_
  refine va_put (D := G.1) (ci := 8) (v := .int 0) (ty := .int) (C := RX8) (T := TX8) (N := 33) hx hb hw inW8 tyX8 tyX8_ok nmX8 hown hK.1 hP hD hS 0 rfl rfl 0 (by decide) (hw _ kw_6_21) (fun _ h9 => h9) rfl (by decide +kernel) rfl rfl (Nat.le_of_ble_eq_true rfl) dX8_tie_2 (fun H locs hP hD hS => ?_)
  have hP : va_P G.1 vwCl [oX8 t_h t_a 0 t_taped t_at t_behind t_size t_kind t_number t_wrong t_wrongAt t_faultKind t_faultPlace t_x t_wayLong t_bothLeast, arI G (t_a 1) 558 t_all] H := hP
  have hD : va_D A [oX8 t_h t_a 0 t_taped t_at t_behind t_size t_kind t_number t_wrong t_wrongAt t_faultKind t_faultPlace t_x t_wayLong t_bothLeast, arI G (t_a 1) 558 t_all] := hD
  refine lv_aload_n hx hb dX8_tie_5 rfl (lv_at hl 0 rfl) ?_
  refine lv_iload_n hx hb dX8_tie_6 rfl (lv_at hl 1 rfl) ?_
  refine lv_i2l hx hb dX8_tie_7 rfl ?_
  obtain ⟨r_1, hc_2, hf⟩ := bd1_in hf
  refine rcI (va_runV (As := [.long (Int32.toInt64 v1)]) (rest := []) ⟨hx, hb, hml, hown, hw⟩ ((ctX8_refuses l G t_h t_a 0 t_all t_taped t_at t_behind t_size t_kind t_number t_wrong t_wrongAt t_faultKind t_faultPlace t_x t_wayLong t_bothLeast (Int32.toInt64 v1) _ hc_2) _) (kV hw calX8_refuses kw_23_8 rfl rfl ⟨Nat.le_of_ble_eq_true rfl, Nat.le_of_ble_eq_true rfl⟩) (rpV (hP.sub (ws' := [oX8 t_h t_a 0 t_taped t_at t_behind t_size t_kind t_number t_wrong t_wrongAt t_faultKind t_faultPlace t_x t_wayLong t_bothLeast, arI G (t_a 1) 558 t_all]) [0, 1] rfl) hK (ci := 8) (q0 := 0) rfl rfl) rfl rfl hl.1 rfl (lv_room (Nat.le_of_ble_eq_true rfl)) dX8_tie_8 ⟨Nat.zero_le _, Nat.zero_le _⟩) hS hA hP (fun H locs hP hS => ?_)
  refine lv_istore_n (lv' := [(3, .int r_1), (0, .ref t_h), (1, .int v1), (2, .int v2)]) hx hb dX8_tie_11 rfl hl (by decide) rfl (fun ls hl => ?_)
  refine lv_iload_n hx hb dX8_tie_12 rfl (lv_at hl 0 rfl) ?_
  refine lv_if_eq (tgt := 21) hx hb dX8_tie_13 (by decide) (fun c_3 => ?_) (fun c_3 => ?_)
  · have hf := ip c_3 hf
    refine lv_iload_n hx hb dX8_tie_21 rfl (lv_at hl 3 rfl) ?_
    refine lv_i2l hx hb dX8_tie_22 rfl ?_
    refine lv_lconst (v := 0) hx hb dX8_tie_23 (by decide) ?_
    refine lv_ldc2 hx hb hown (hw _ kw_23_21) dX8_tie_24 ?_
    obtain ⟨r_4, hc_5, hf⟩ := bd1_in hf
    refine rcI (va_runS (As := [.long (Int32.toInt64 v2), .long 0, .long 9]) (rest := []) ⟨hx, hb, hml, hown, hw⟩ ((ctX8_within l G (Int32.toInt64 v2) 0 9 _ hc_5) _) (kS hw calX8_within kw_14_2 rfl rfl ⟨Nat.le_of_ble_eq_true rfl, Nat.le_of_ble_eq_true rfl⟩) (rpS (hP.sub (ws' := []) [] rfl) hK) rfl rfl hl.1 rfl (lv_room (Nat.le_of_ble_eq_true rfl)) dX8_tie_27 ⟨Nat.zero_le _, Nat.zero_le _⟩) hS hA hP (fun H locs hP hS => ?_)
    refine lv_if_ne (tgt := 36) hx hb dX8_tie_30 (by decide) (fun c_6 => ?_) (fun c_6 => ?_)
    · have hf := iq c_6 hf
      refine lv_aload_n hx hb dX8_tie_36 rfl (lv_at hl 1 rfl) ?_
      refine va_get (D := G.1) (ci := 8) (v := .ref (t_a 1)) (C := RX8) (T := TX8) (N := 33) hx hb hw inW8 hown hK.1 hP 0 rfl rfl 1 (by decide) (hw _ kw_5_11) (fun _ h9 => h9) rfl dX8_tie_37 ?_
      refine lv_iload_n hx hb dX8_tie_40 rfl (lv_at hl 2 rfl) ?_
      refine lv_bipush (v := 20) hx hb dX8_tie_41 (by decide) ?_
      refine lv_idiv hx hb dX8_tie_43 (by decide) ?_
      refine lv_iload_n hx hb dX8_tie_44 rfl (lv_at hl 2 rfl) ?_
      refine lv_bipush (v := 20) hx hb dX8_tie_45 (by decide) ?_
      refine lv_irem hx hb dX8_tie_47 (by decide) ?_
      refine lv_iload_n hx hb dX8_tie_48 rfl (lv_at hl 3 rfl) ?_
      refine lv_iconst (v := 1) hx hb dX8_tie_49 (by decide) ?_
      refine lv_iadd hx hb dX8_tie_50 ?_
      obtain ⟨t_all_7, hc_8, hf⟩ := bd1_in hf
      refine wcV (w1 := [arI G (t_a 1) 558 t_all_7]) (va_runS (As := [.ref (t_a 1), .int (v1 / 20), .int (v1 - v1 / 20 * 20), .int (v2 + 1)]) (rest := []) ⟨hx, hb, hml, hown, hw⟩ ((ctX8_sets l G 558 (t_a 1) t_all (v1 / 20) (v1 - v1 / 20 * 20) (v2 + 1) _ hc_8) _) (kS hw calX8_sets kw_17_10 rfl rfl ⟨Nat.le_of_ble_eq_true rfl, Nat.le_of_ble_eq_true rfl⟩) (wpS (hP.sub (ws' := [arI G (t_a 1) 558 t_all]) [1] rfl) (hD.sub (ws' := [arI G (t_a 1) 558 t_all]) [1] (by decide) rfl) hK) rfl rfl hl.1 rfl (lv_room (Nat.le_of_ble_eq_true rfl)) dX8_tie_51 ⟨Nat.zero_le _, Nat.zero_le _⟩) hS hA hP hD [1] rfl rfl (fun H locs hP hD hS => ?_)
      have hP : va_P G.1 vwCl [oX8 t_h t_a 0 t_taped t_at t_behind t_size t_kind t_number t_wrong t_wrongAt t_faultKind t_faultPlace t_x t_wayLong t_bothLeast, arI G (t_a 1) 558 t_all_7] H := hP
      have hD : va_D A [oX8 t_h t_a 0 t_taped t_at t_behind t_size t_kind t_number t_wrong t_wrongAt t_faultKind t_faultPlace t_x t_wayLong t_bothLeast, arI G (t_a 1) 558 t_all_7] := hD
      refine lv_aload_n hx hb dX8_tie_54 rfl (lv_at hl 1 rfl) ?_
      obtain ⟨r_9, hc_10, hf⟩ := bd1_in hf
      refine rcI (va_runV (As := []) (rest := []) ⟨hx, hb, hml, hown, hw⟩ ((ctX8_strings l G t_h t_a 0 t_all_7 t_taped t_at t_behind t_size t_kind t_number t_wrong t_wrongAt t_faultKind t_faultPlace t_x t_wayLong t_bothLeast _ hc_10) _) (kV hw calX8_strings kw_23_22 rfl rfl ⟨Nat.le_of_ble_eq_true rfl, Nat.le_of_ble_eq_true rfl⟩) (rpV (hP.sub (ws' := [oX8 t_h t_a 0 t_taped t_at t_behind t_size t_kind t_number t_wrong t_wrongAt t_faultKind t_faultPlace t_x t_wayLong t_bothLeast, arI G (t_a 1) 558 t_all_7]) [0, 1] rfl) hK (ci := 8) (q0 := 0) rfl rfl) rfl rfl hl.1 rfl (lv_room (Nat.le_of_ble_eq_true rfl)) dX8_tie_55 ⟨Nat.zero_le _, Nat.zero_le _⟩) hS hA hP (fun H locs hP hS => ?_)
      exact hRet _ _ _ _ _ _ _ hf hP hS dX8_tie_58
    · have hf := ip c_6 hf
      refine lv_bipush (v := (-3)) hx hb dX8_tie_33 (by decide) ?_
      exact hRet _ _ _ _ _ _ _ hf hP hS dX8_tie_35
  · have hf := iq c_3 hf
    refine lv_bipush (v := (-10)) hx hb dX8_tie_16 (by decide) ?_
    refine lv_iload_n hx hb dX8_tie_18 rfl (lv_at hl 0 rfl) ?_
    refine lv_isub hx hb dX8_tie_19 ?_
    exact hRet _ _ _ _ _ _ _ hf hP hS dX8_tie_20
theorem calX8_cut : CalV yX8_cut cX8_cut 2 (some .int) 1 := ⟨⟨kw_24_13, kw_1_5, by decide +kernel⟩, kw_24_11, kw_24_12⟩
set_option maxHeartbeats 8000000 in
set_option maxRecDepth 100000 in
theorem ctX8_cut (l : Launch) (G : GT) (t_h : Nat) (t_a : Nat → Nat) (t_thrown : Int32) (t_all : Nat → Int32) (t_taped : Int32) (t_at : Int32) (t_behind : Int32) (t_size : Int32) (t_kind : Int32) (t_number : Int32) (t_wrong : Int32) (t_wrongAt : Int32) (t_faultKind : Int32) (t_faultPlace : Int32) (t_x : Int32) (t_wayLong : Int32) (t_bothLeast : Int32) (v1 : Int32) (r : Int32) (o_t_thrown : Int32) (o_t_all : Nat → Int32) (hf : fX8_cut t_thrown t_all v1 = some (r, o_t_thrown, o_t_all)) : WrI l yX8_cut (Cond.code yX8_cut cX8_cut 2 (some .int)) { frames := 3, cells := 0, slots := 0, locals := 69 } G [.ref t_h, .int v1] [oX8 t_h t_a t_thrown t_taped t_at t_behind t_size t_kind t_number t_wrong t_wrongAt t_faultKind t_faultPlace t_x t_wayLong t_bothLeast, arI G (t_a 1) 558 t_all] [oX8 t_h t_a o_t_thrown t_taped t_at t_behind t_size t_kind t_number t_wrong t_wrongAt t_faultKind t_faultPlace t_x t_wayLong t_bothLeast, arI G (t_a 1) 558 o_t_all] r := by
  intro sz
  refine Met.ofW (cc := cX8_cut) (maxL := 2) (ret := (some .int)) (by decide) rfl ?_
  intro p e s m args below meth c s₁ B hml hv
  obtain ⟨hargs, hsz, hP, hD0, hK⟩ := hv
  subst hsz
  obtain ⟨hx, hb, hr, hw, hown, hlk⟩ := fwB B
  refine fw_enter hargs (Nat.le_of_ble_eq_true rfl) (fun ls hl => ?_)
  have hl : lv_has ls 2 [(0, .ref t_h), (1, .int v1)] := hl
  refine fw_Q (P := fun Q => ∃ A : Nat → Prop, va_D A [oX8 t_h t_a t_thrown t_taped t_at t_behind t_size t_kind t_number t_wrong t_wrongAt t_faultKind t_faultPlace t_x t_wayLong t_bothLeast, arI G (t_a 1) 558 t_all] ∧ va_S A s.heap s.heap [] ∧ (∀ q, s.heap.size ≤ q → A q) ∧ ∀ (v : Int32) (n_t_thrown : Int32) (n_t_all : Nat → Int32) (H : Heap) (locs : List Loc) (pc : Nat) (ls : Array Slot), some (v, n_t_thrown, n_t_all) = some (r, o_t_thrown, o_t_all) → va_P G.1 vwCl [oX8 t_h t_a n_t_thrown t_taped t_at t_behind t_size t_kind t_number t_wrong t_wrongAt t_faultKind t_faultPlace t_x t_wayLong t_bothLeast, arI G (t_a 1) 558 n_t_all] H → va_S A s.heap H locs → decode cX8_cut pc = .ok (.ireturn, 1) → W p l e ({ frames := 3, cells := 0, slots := 0, locals := 69 } : Room) s m args below meth c H locs 0 0 Q (F0 m pc ls [.int v])) ⟨va_A [oX8 t_h t_a t_thrown t_taped t_at t_behind t_size t_kind t_number t_wrong t_wrongAt t_faultKind t_faultPlace t_x t_wayLong t_bothLeast, arI G (t_a 1) 558 t_all] s.heap.size, hD0.self (sz := s.heap.size), va_S.rf, fun q h => Or.inr h, ?_⟩ ?_
  · intro v n_t_thrown n_t_all H locs pc ls h hP hS hd
    cases h
    exact retWI hx hb hr hlk hS hP rfl hd
  rintro Q ⟨A, hD, hS, hA, hRet⟩
  change W p l e ({ frames := 3, cells := 0, slots := 0, locals := 69 } : Room) s m args below meth c _ _ 0 0 Q _
  unfold fX8_cut at hf
  refine lv_aload_n hx hb dX8_cut_0 rfl (lv_at hl 0 rfl) ?_
  refine lv_iconst (v := 0) hx hb dX8_cut_1 (by decide) ?_
  refine va_put (D := G.1) (ci := 8) (v := .int 0) (ty := .int) (C := RX8) (T := TX8) (N := 33) hx hb hw inW8 tyX8 tyX8_ok nmX8 hown hK.1 hP hD hS 0 rfl rfl 0 (by decide) (hw _ kw_6_21) (fun _ h9 => h9) rfl (by decide +kernel) rfl rfl (Nat.le_of_ble_eq_true rfl) dX8_cut_2 (fun H locs hP hD hS => ?_)
  have hP : va_P G.1 vwCl [oX8 t_h t_a 0 t_taped t_at t_behind t_size t_kind t_number t_wrong t_wrongAt t_faultKind t_faultPlace t_x t_wayLong t_bothLeast, arI G (t_a 1) 558 t_all] H := hP
  have hD : va_D A [oX8 t_h t_a 0 t_taped t_at t_behind t_size t_kind t_number t_wrong t_wrongAt t_faultKind t_faultPlace t_x t_wayLong t_bothLeast, arI G (t_a 1) 558 t_all] := hD
  refine lv_aload_n hx hb dX8_cut_5 rfl (lv_at hl 0 rfl) ?_
  refine lv_iload_n hx hb dX8_cut_6 rfl (lv_at hl 1 rfl) ?_
  refine lv_i2l hx hb dX8_cut_7 rfl ?_
  obtain ⟨r_1, hc_2, hf⟩ := bd1_in hf
  refine rcI (va_runV (As := [.long (Int32.toInt64 v1)]) (rest := []) ⟨hx, hb, hml, hown, hw⟩ ((ctX8_isPair l G t_h t_a 0 t_all t_taped t_at t_behind t_size t_kind t_number t_wrong t_wrongAt t_faultKind t_faultPlace t_x t_wayLong t_bothLeast (Int32.toInt64 v1) _ hc_2) _) (kV hw calX8_isPair kw_21_13 rfl rfl ⟨Nat.le_of_ble_eq_true rfl, Nat.le_of_ble_eq_true rfl⟩) (rpV (hP.sub (ws' := [oX8 t_h t_a 0 t_taped t_at t_behind t_size t_kind t_number t_wrong t_wrongAt t_faultKind t_faultPlace t_x t_wayLong t_bothLeast, arI G (t_a 1) 558 t_all]) [0, 1] rfl) hK (ci := 8) (q0 := 0) rfl rfl) rfl rfl hl.1 rfl (lv_room (Nat.le_of_ble_eq_true rfl)) dX8_cut_8 ⟨Nat.zero_le _, Nat.zero_le _⟩) hS hA hP (fun H locs hP hS => ?_)
  refine lv_if_eq (tgt := 29) hx hb dX8_cut_11 (by decide) (fun c_3 => ?_) (fun c_3 => ?_)
  · have hf := ip c_3 hf
    refine lv_bipush (v := (-2)) hx hb dX8_cut_29 (by decide) ?_
    exact hRet _ _ _ _ _ _ _ hf hP hS dX8_cut_31
  · have hf := iq c_3 hf
    refine lv_aload_n hx hb dX8_cut_14 rfl (lv_at hl 0 rfl) ?_
    refine lv_iload_n hx hb dX8_cut_15 rfl (lv_at hl 1 rfl) ?_
    refine lv_bipush (v := 20) hx hb dX8_cut_16 (by decide) ?_
    refine lv_idiv hx hb dX8_cut_18 (by decide) ?_
    refine lv_iload_n hx hb dX8_cut_19 rfl (lv_at hl 1 rfl) ?_
    refine lv_bipush (v := 20) hx hb dX8_cut_20 (by decide) ?_
    refine lv_irem hx hb dX8_cut_22 (by decide) ?_
    obtain ⟨r_4, hc_5, hf⟩ := bd1_in hf
    refine rcI (va_runV (As := [.int (v1 / 20), .int (v1 - v1 / 20 * 20)]) (rest := []) ⟨hx, hb, hml, hown, hw⟩ ((ctX8_isTied l G t_h t_a 0 t_all t_taped t_at t_behind t_size t_kind t_number t_wrong t_wrongAt t_faultKind t_faultPlace t_x t_wayLong t_bothLeast (v1 / 20) (v1 - v1 / 20 * 20) _ hc_5) _) (kV hw calX8_isTied kw_20_16 rfl rfl ⟨Nat.le_of_ble_eq_true rfl, Nat.le_of_ble_eq_true rfl⟩) (rpV (hP.sub (ws' := [oX8 t_h t_a 0 t_taped t_at t_behind t_size t_kind t_number t_wrong t_wrongAt t_faultKind t_faultPlace t_x t_wayLong t_bothLeast, arI G (t_a 1) 558 t_all]) [0, 1] rfl) hK (ci := 8) (q0 := 0) rfl rfl) rfl rfl hl.1 rfl (lv_room (Nat.le_of_ble_eq_true rfl)) dX8_cut_23 ⟨Nat.zero_le _, Nat.zero_le _⟩) hS hA hP (fun H locs hP hS => ?_)
    refine lv_if_ne (tgt := 32) hx hb dX8_cut_26 (by decide) (fun c_6 => ?_) (fun c_6 => ?_)
    · have hf := iq c_6 hf
      refine lv_aload_n hx hb dX8_cut_32 rfl (lv_at hl 0 rfl) ?_
      refine va_get (D := G.1) (ci := 8) (v := .ref (t_a 1)) (C := RX8) (T := TX8) (N := 33) hx hb hw inW8 hown hK.1 hP 0 rfl rfl 1 (by decide) (hw _ kw_5_11) (fun _ h9 => h9) rfl dX8_cut_33 ?_
      refine lv_iload_n hx hb dX8_cut_36 rfl (lv_at hl 1 rfl) ?_
      refine lv_bipush (v := 20) hx hb dX8_cut_37 (by decide) ?_
      refine lv_idiv hx hb dX8_cut_39 (by decide) ?_
      refine lv_iload_n hx hb dX8_cut_40 rfl (lv_at hl 1 rfl) ?_
      refine lv_bipush (v := 20) hx hb dX8_cut_41 (by decide) ?_
      refine lv_irem hx hb dX8_cut_43 (by decide) ?_
      refine lv_iconst (v := 0) hx hb dX8_cut_44 (by decide) ?_
      obtain ⟨t_all_7, hc_8, hf⟩ := bd1_in hf
      refine wcV (w1 := [arI G (t_a 1) 558 t_all_7]) (va_runS (As := [.ref (t_a 1), .int (v1 / 20), .int (v1 - v1 / 20 * 20), .int 0]) (rest := []) ⟨hx, hb, hml, hown, hw⟩ ((ctX8_sets l G 558 (t_a 1) t_all (v1 / 20) (v1 - v1 / 20 * 20) 0 _ hc_8) _) (kS hw calX8_sets kw_17_10 rfl rfl ⟨Nat.le_of_ble_eq_true rfl, Nat.le_of_ble_eq_true rfl⟩) (wpS (hP.sub (ws' := [arI G (t_a 1) 558 t_all]) [1] rfl) (hD.sub (ws' := [arI G (t_a 1) 558 t_all]) [1] (by decide) rfl) hK) rfl rfl hl.1 rfl (lv_room (Nat.le_of_ble_eq_true rfl)) dX8_cut_45 ⟨Nat.zero_le _, Nat.zero_le _⟩) hS hA hP hD [1] rfl rfl (fun H locs hP hD hS => ?_)
      have hP : va_P G.1 vwCl [oX8 t_h t_a 0 t_taped t_at t_behind t_size t_kind t_number t_wrong t_wrongAt t_faultKind t_faultPlace t_x t_wayLong t_bothLeast, arI G (t_a 1) 558 t_all_7] H := hP
      have hD : va_D A [oX8 t_h t_a 0 t_taped t_at t_behind t_size t_kind t_number t_wrong t_wrongAt t_faultKind t_faultPlace t_x t_wayLong t_bothLeast, arI G (t_a 1) 558 t_all_7] := hD
      refine lv_aload_n hx hb dX8_cut_48 rfl (lv_at hl 0 rfl) ?_
      obtain ⟨r_9, hc_10, hf⟩ := bd1_in hf
      refine rcI (va_runV (As := []) (rest := []) ⟨hx, hb, hml, hown, hw⟩ ((ctX8_strings l G t_h t_a 0 t_all_7 t_taped t_at t_behind t_size t_kind t_number t_wrong t_wrongAt t_faultKind t_faultPlace t_x t_wayLong t_bothLeast _ hc_10) _) (kV hw calX8_strings kw_23_22 rfl rfl ⟨Nat.le_of_ble_eq_true rfl, Nat.le_of_ble_eq_true rfl⟩) (rpV (hP.sub (ws' := [oX8 t_h t_a 0 t_taped t_at t_behind t_size t_kind t_number t_wrong t_wrongAt t_faultKind t_faultPlace t_x t_wayLong t_bothLeast, arI G (t_a 1) 558 t_all_7]) [0, 1] rfl) hK (ci := 8) (q0 := 0) rfl rfl) rfl rfl hl.1 rfl (lv_room (Nat.le_of_ble_eq_true rfl)) dX8_cut_49 ⟨Nat.zero_le _, Nat.zero_le _⟩) hS hA hP (fun H locs hP hS => ?_)
      exact hRet _ _ _ _ _ _ _ hf hP hS dX8_cut_52
    · have hf := ip c_6 hf
      refine lv_bipush (v := (-2)) hx hb dX8_cut_29 (by decide) ?_
      exact hRet _ _ _ _ _ _ _ hf hP hS dX8_cut_31
theorem calX8_knot : CalV yX8_knot cX8_knot 3 (some .int) 1 := ⟨⟨kw_24_21, kw_1_5, by decide +kernel⟩, kw_24_19, kw_24_20⟩
set_option maxHeartbeats 8000000 in
set_option maxRecDepth 100000 in
theorem ctX8_knot (l : Launch) (G : GT) (t_h : Nat) (t_a : Nat → Nat) (t_thrown : Int32) (t_all : Nat → Int32) (t_taped : Int32) (t_at : Int32) (t_behind : Int32) (t_size : Int32) (t_kind : Int32) (t_number : Int32) (t_wrong : Int32) (t_wrongAt : Int32) (t_faultKind : Int32) (t_faultPlace : Int32) (t_x : Int32) (t_wayLong : Int32) (t_bothLeast : Int32) (v1 : Int32) (r : Int32) (o_t_thrown : Int32) (o_t_all : Nat → Int32) (hf : fX8_knot t_thrown t_all v1 = some (r, o_t_thrown, o_t_all)) : WrI l yX8_knot (Cond.code yX8_knot cX8_knot 3 (some .int)) { frames := 3, cells := 0, slots := 0, locals := 69 } G [.ref t_h, .int v1] [oX8 t_h t_a t_thrown t_taped t_at t_behind t_size t_kind t_number t_wrong t_wrongAt t_faultKind t_faultPlace t_x t_wayLong t_bothLeast, arI G (t_a 1) 558 t_all] [oX8 t_h t_a o_t_thrown t_taped t_at t_behind t_size t_kind t_number t_wrong t_wrongAt t_faultKind t_faultPlace t_x t_wayLong t_bothLeast, arI G (t_a 1) 558 o_t_all] r := by
  intro sz
  refine Met.ofW (cc := cX8_knot) (maxL := 3) (ret := (some .int)) (by decide) rfl ?_
  intro p e s m args below meth c s₁ B hml hv
  obtain ⟨hargs, hsz, hP, hD0, hK⟩ := hv
  subst hsz
  obtain ⟨hx, hb, hr, hw, hown, hlk⟩ := fwB B
  refine fw_enter hargs (Nat.le_of_ble_eq_true rfl) (fun ls hl => ?_)
  have hl : lv_has ls 3 [(0, .ref t_h), (1, .int v1)] := hl
  refine fw_Q (P := fun Q => ∃ A : Nat → Prop, va_D A [oX8 t_h t_a t_thrown t_taped t_at t_behind t_size t_kind t_number t_wrong t_wrongAt t_faultKind t_faultPlace t_x t_wayLong t_bothLeast, arI G (t_a 1) 558 t_all] ∧ va_S A s.heap s.heap [] ∧ (∀ q, s.heap.size ≤ q → A q) ∧ ∀ (v : Int32) (n_t_thrown : Int32) (n_t_all : Nat → Int32) (H : Heap) (locs : List Loc) (pc : Nat) (ls : Array Slot), some (v, n_t_thrown, n_t_all) = some (r, o_t_thrown, o_t_all) → va_P G.1 vwCl [oX8 t_h t_a n_t_thrown t_taped t_at t_behind t_size t_kind t_number t_wrong t_wrongAt t_faultKind t_faultPlace t_x t_wayLong t_bothLeast, arI G (t_a 1) 558 n_t_all] H → va_S A s.heap H locs → decode cX8_knot pc = .ok (.ireturn, 1) → W p l e ({ frames := 3, cells := 0, slots := 0, locals := 69 } : Room) s m args below meth c H locs 0 0 Q (F0 m pc ls [.int v])) ⟨va_A [oX8 t_h t_a t_thrown t_taped t_at t_behind t_size t_kind t_number t_wrong t_wrongAt t_faultKind t_faultPlace t_x t_wayLong t_bothLeast, arI G (t_a 1) 558 t_all] s.heap.size, hD0.self (sz := s.heap.size), va_S.rf, fun q h => Or.inr h, ?_⟩ ?_
  · intro v n_t_thrown n_t_all H locs pc ls h hP hS hd
    cases h
    exact retWI hx hb hr hlk hS hP rfl hd
  rintro Q ⟨A, hD, hS, hA, hRet⟩
  change W p l e ({ frames := 3, cells := 0, slots := 0, locals := 69 } : Room) s m args below meth c _ _ 0 0 Q _
  unfold fX8_knot at hf
  refine lv_aload_n hx hb dX8_knot_0 rfl (lv_at hl 0 rfl) ?_
  refine lv_iconst (v := 0) hx hb dX8_knot_1 (by decide) ?_
  refine va_put (D := G.1) (ci := 8) (v := .int 0) (ty := .int) (C := RX8) (T := TX8) (N := 33) hx hb hw inW8 tyX8 tyX8_ok nmX8 hown hK.1 hP hD hS 0 rfl rfl 0 (by decide) (hw _ kw_6_21) (fun _ h9 => h9) rfl (by decide +kernel) rfl rfl (Nat.le_of_ble_eq_true rfl) dX8_knot_2 (fun H locs hP hD hS => ?_)
  have hP : va_P G.1 vwCl [oX8 t_h t_a 0 t_taped t_at t_behind t_size t_kind t_number t_wrong t_wrongAt t_faultKind t_faultPlace t_x t_wayLong t_bothLeast, arI G (t_a 1) 558 t_all] H := hP
  have hD : va_D A [oX8 t_h t_a 0 t_taped t_at t_behind t_size t_kind t_number t_wrong t_wrongAt t_faultKind t_faultPlace t_x t_wayLong t_bothLeast, arI G (t_a 1) 558 t_all] := hD
  refine lv_aload_n hx hb dX8_knot_5 rfl (lv_at hl 0 rfl) ?_
  refine lv_iload_n hx hb dX8_knot_6 rfl (lv_at hl 1 rfl) ?_
  refine lv_i2l hx hb dX8_knot_7 rfl ?_
  obtain ⟨r_1, hc_2, hf⟩ := bd1_in hf
  refine rcI (va_runV (As := [.long (Int32.toInt64 v1)]) (rest := []) ⟨hx, hb, hml, hown, hw⟩ ((ctX8_isPair l G t_h t_a 0 t_all t_taped t_at t_behind t_size t_kind t_number t_wrong t_wrongAt t_faultKind t_faultPlace t_x t_wayLong t_bothLeast (Int32.toInt64 v1) _ hc_2) _) (kV hw calX8_isPair kw_21_13 rfl rfl ⟨Nat.le_of_ble_eq_true rfl, Nat.le_of_ble_eq_true rfl⟩) (rpV (hP.sub (ws' := [oX8 t_h t_a 0 t_taped t_at t_behind t_size t_kind t_number t_wrong t_wrongAt t_faultKind t_faultPlace t_x t_wayLong t_bothLeast, arI G (t_a 1) 558 t_all]) [0, 1] rfl) hK (ci := 8) (q0 := 0) rfl rfl) rfl rfl hl.1 rfl (lv_room (Nat.le_of_ble_eq_true rfl)) dX8_knot_8 ⟨Nat.zero_le _, Nat.zero_le _⟩) hS hA hP (fun H locs hP hS => ?_)
  refine lv_if_eq (tgt := 29) hx hb dX8_knot_11 (by decide) (fun c_3 => ?_) (fun c_3 => ?_)
  · have hf := ip c_3 hf
    refine lv_bipush (v := (-2)) hx hb dX8_knot_29 (by decide) ?_
    exact hRet _ _ _ _ _ _ _ hf hP hS dX8_knot_31
  · have hf := iq c_3 hf
    refine lv_aload_n hx hb dX8_knot_14 rfl (lv_at hl 0 rfl) ?_
    refine lv_iload_n hx hb dX8_knot_15 rfl (lv_at hl 1 rfl) ?_
    refine lv_bipush (v := 20) hx hb dX8_knot_16 (by decide) ?_
    refine lv_idiv hx hb dX8_knot_18 (by decide) ?_
    refine lv_iload_n hx hb dX8_knot_19 rfl (lv_at hl 1 rfl) ?_
    refine lv_bipush (v := 20) hx hb dX8_knot_20 (by decide) ?_
    refine lv_irem hx hb dX8_knot_22 (by decide) ?_
    obtain ⟨r_4, hc_5, hf⟩ := bd1_in hf
    refine rcI (va_runV (As := [.int (v1 / 20), .int (v1 - v1 / 20 * 20)]) (rest := []) ⟨hx, hb, hml, hown, hw⟩ ((ctX8_isTied l G t_h t_a 0 t_all t_taped t_at t_behind t_size t_kind t_number t_wrong t_wrongAt t_faultKind t_faultPlace t_x t_wayLong t_bothLeast (v1 / 20) (v1 - v1 / 20 * 20) _ hc_5) _) (kV hw calX8_isTied kw_20_16 rfl rfl ⟨Nat.le_of_ble_eq_true rfl, Nat.le_of_ble_eq_true rfl⟩) (rpV (hP.sub (ws' := [oX8 t_h t_a 0 t_taped t_at t_behind t_size t_kind t_number t_wrong t_wrongAt t_faultKind t_faultPlace t_x t_wayLong t_bothLeast, arI G (t_a 1) 558 t_all]) [0, 1] rfl) hK (ci := 8) (q0 := 0) rfl rfl) rfl rfl hl.1 rfl (lv_room (Nat.le_of_ble_eq_true rfl)) dX8_knot_23 ⟨Nat.zero_le _, Nat.zero_le _⟩) hS hA hP (fun H locs hP hS => ?_)
    refine lv_if_ne (tgt := 32) hx hb dX8_knot_26 (by decide) (fun c_6 => ?_) (fun c_6 => ?_)
    · have hf := iq c_6 hf
      refine lv_aload_n hx hb dX8_knot_32 rfl (lv_at hl 0 rfl) ?_
      refine lv_iload_n hx hb dX8_knot_33 rfl (lv_at hl 1 rfl) ?_
      refine lv_bipush (v := 20) hx hb dX8_knot_34 (by decide) ?_
      refine lv_idiv hx hb dX8_knot_36 (by decide) ?_
      refine lv_iload_n hx hb dX8_knot_37 rfl (lv_at hl 1 rfl) ?_
      refine lv_bipush (v := 20) hx hb dX8_knot_38 (by decide) ?_
      refine lv_irem hx hb dX8_knot_40 (by decide) ?_
      obtain ⟨r_7, hc_8, hf⟩ := bd1_in hf
      refine rcI (va_runV (As := [.int (v1 / 20), .int (v1 - v1 / 20 * 20)]) (rest := []) ⟨hx, hb, hml, hown, hw⟩ ((ctX8_knotsOf l G t_h t_a 0 t_all t_taped t_at t_behind t_size t_kind t_number t_wrong t_wrongAt t_faultKind t_faultPlace t_x t_wayLong t_bothLeast (v1 / 20) (v1 - v1 / 20 * 20) _ hc_8) _) (kV hw calX8_knotsOf kw_22_11 rfl rfl ⟨Nat.le_of_ble_eq_true rfl, Nat.le_of_ble_eq_true rfl⟩) (rpV (hP.sub (ws' := [oX8 t_h t_a 0 t_taped t_at t_behind t_size t_kind t_number t_wrong t_wrongAt t_faultKind t_faultPlace t_x t_wayLong t_bothLeast, arI G (t_a 1) 558 t_all]) [0, 1] rfl) hK (ci := 8) (q0 := 0) rfl rfl) rfl rfl hl.1 rfl (lv_room (Nat.le_of_ble_eq_true rfl)) dX8_knot_41 ⟨Nat.zero_le _, Nat.zero_le _⟩) hS hA hP (fun H locs hP hS => ?_)
      refine lv_istore_n (lv' := [(2, .int r_7), (0, .ref t_h), (1, .int v1)]) hx hb dX8_knot_44 rfl hl (by decide) rfl (fun ls hl => ?_)
      refine lv_iload_n hx hb dX8_knot_45 rfl (lv_at hl 0 rfl) ?_
      refine lv_bipush (v := 9) hx hb dX8_knot_46 (by decide) ?_
      refine lv_icmp_ne (tgt := 54) hx hb dX8_knot_48 (by decide) (fun c_9 => ?_) (fun c_9 => ?_)
      · have hf := iq c_9 hf
        refine lv_aload_n hx hb dX8_knot_54 rfl (lv_at hl 1 rfl) ?_
        refine va_get (D := G.1) (ci := 8) (v := .ref (t_a 1)) (C := RX8) (T := TX8) (N := 33) hx hb hw inW8 hown hK.1 hP 0 rfl rfl 1 (by decide) (hw _ kw_5_11) (fun _ h9 => h9) rfl dX8_knot_55 ?_
        refine lv_iload_n hx hb dX8_knot_58 rfl (lv_at hl 2 rfl) ?_
        refine lv_bipush (v := 20) hx hb dX8_knot_59 (by decide) ?_
        refine lv_idiv hx hb dX8_knot_61 (by decide) ?_
        refine lv_iload_n hx hb dX8_knot_62 rfl (lv_at hl 2 rfl) ?_
        refine lv_bipush (v := 20) hx hb dX8_knot_63 (by decide) ?_
        refine lv_irem hx hb dX8_knot_65 (by decide) ?_
        refine lv_iload_n hx hb dX8_knot_66 rfl (lv_at hl 0 rfl) ?_
        refine lv_iconst (v := 2) hx hb dX8_knot_67 (by decide) ?_
        refine lv_iadd hx hb dX8_knot_68 ?_
        obtain ⟨t_all_10, hc_11, hf⟩ := bd1_in hf
        refine wcV (w1 := [arI G (t_a 1) 558 t_all_10]) (va_runS (As := [.ref (t_a 1), .int (v1 / 20), .int (v1 - v1 / 20 * 20), .int (r_7 + 2)]) (rest := []) ⟨hx, hb, hml, hown, hw⟩ ((ctX8_sets l G 558 (t_a 1) t_all (v1 / 20) (v1 - v1 / 20 * 20) (r_7 + 2) _ hc_11) _) (kS hw calX8_sets kw_17_10 rfl rfl ⟨Nat.le_of_ble_eq_true rfl, Nat.le_of_ble_eq_true rfl⟩) (wpS (hP.sub (ws' := [arI G (t_a 1) 558 t_all]) [1] rfl) (hD.sub (ws' := [arI G (t_a 1) 558 t_all]) [1] (by decide) rfl) hK) rfl rfl hl.1 rfl (lv_room (Nat.le_of_ble_eq_true rfl)) dX8_knot_69 ⟨Nat.zero_le _, Nat.zero_le _⟩) hS hA hP hD [1] rfl rfl (fun H locs hP hD hS => ?_)
        have hP : va_P G.1 vwCl [oX8 t_h t_a 0 t_taped t_at t_behind t_size t_kind t_number t_wrong t_wrongAt t_faultKind t_faultPlace t_x t_wayLong t_bothLeast, arI G (t_a 1) 558 t_all_10] H := hP
        have hD : va_D A [oX8 t_h t_a 0 t_taped t_at t_behind t_size t_kind t_number t_wrong t_wrongAt t_faultKind t_faultPlace t_x t_wayLong t_bothLeast, arI G (t_a 1) 558 t_all_10] := hD
        refine lv_iload_n hx hb dX8_knot_72 rfl (lv_at hl 0 rfl) ?_
        refine lv_iconst (v := 1) hx hb dX8_knot_73 (by decide) ?_
        refine lv_iadd hx hb dX8_knot_74 ?_
        exact hRet _ _ _ _ _ _ _ hf hP hS dX8_knot_75
      · have hf := ip c_9 hf
        refine lv_bipush (v := (-4)) hx hb dX8_knot_51 (by decide) ?_
        exact hRet _ _ _ _ _ _ _ hf hP hS dX8_knot_53
    · have hf := ip c_6 hf
      refine lv_bipush (v := (-2)) hx hb dX8_knot_29 (by decide) ?_
      exact hRet _ _ _ _ _ _ _ hf hP hS dX8_knot_31
theorem calX8_tieAll : CalV yX8_tieAll cX8_tieAll 6 (some .int) 1 := ⟨⟨kw_25_16, kw_1_5, by decide +kernel⟩, kw_25_14, kw_25_15⟩
set_option maxHeartbeats 8000000 in
set_option maxRecDepth 100000 in
theorem ctX8_tieAll (l : Launch) (G : GT) (t_h : Nat) (t_a : Nat → Nat) (t_thrown : Int32) (t_all : Nat → Int32) (t_taped : Int32) (t_at : Int32) (t_behind : Int32) (t_size : Int32) (t_kind : Int32) (t_number : Int32) (t_wrong : Int32) (t_wrongAt : Int32) (t_faultKind : Int32) (t_faultPlace : Int32) (t_x : Int32) (t_wayLong : Int32) (t_bothLeast : Int32) (t_rowSort : Nat → Int32) (t_rowMany : Nat → Int32) (t_numbers : Nat → Int64) (v1 : Int32) (r : Int32) (o_t_thrown : Int32) (o_t_all : Nat → Int32) (hf : fX8_tieAll t_thrown t_all t_rowSort t_rowMany t_numbers v1 = some (r, o_t_thrown, o_t_all)) : WrI l yX8_tieAll (Cond.code yX8_tieAll cX8_tieAll 6 (some .int)) { frames := 4, cells := 0, slots := 0, locals := 93 } G [.ref t_h, .int v1] [oX8 t_h t_a t_thrown t_taped t_at t_behind t_size t_kind t_number t_wrong t_wrongAt t_faultKind t_faultPlace t_x t_wayLong t_bothLeast, arI G (t_a 1) 558 t_all, arI G (t_a 30) 4 t_rowSort, arI G (t_a 31) 4 t_rowMany, arJ G (t_a 32) 160 t_numbers] [oX8 t_h t_a o_t_thrown t_taped t_at t_behind t_size t_kind t_number t_wrong t_wrongAt t_faultKind t_faultPlace t_x t_wayLong t_bothLeast, arI G (t_a 1) 558 o_t_all, arI G (t_a 30) 4 t_rowSort, arI G (t_a 31) 4 t_rowMany, arJ G (t_a 32) 160 t_numbers] r := by
  intro sz
  refine Met.ofW (cc := cX8_tieAll) (maxL := 6) (ret := (some .int)) (by decide) rfl ?_
  intro p e s m args below meth c s₁ B hml hv
  obtain ⟨hargs, hsz, hP, hD0, hK⟩ := hv
  subst hsz
  obtain ⟨hx, hb, hr, hw, hown, hlk⟩ := fwB B
  refine fw_enter hargs (Nat.le_of_ble_eq_true rfl) (fun ls hl => ?_)
  have hl : lv_has ls 6 [(0, .ref t_h), (1, .int v1)] := hl
  refine fw_Q (P := fun Q => ∃ A : Nat → Prop, va_D A [oX8 t_h t_a t_thrown t_taped t_at t_behind t_size t_kind t_number t_wrong t_wrongAt t_faultKind t_faultPlace t_x t_wayLong t_bothLeast, arI G (t_a 1) 558 t_all, arI G (t_a 30) 4 t_rowSort, arI G (t_a 31) 4 t_rowMany, arJ G (t_a 32) 160 t_numbers] ∧ va_S A s.heap s.heap [] ∧ (∀ q, s.heap.size ≤ q → A q) ∧ ∀ (v : Int32) (n_t_thrown : Int32) (n_t_all : Nat → Int32) (H : Heap) (locs : List Loc) (pc : Nat) (ls : Array Slot), some (v, n_t_thrown, n_t_all) = some (r, o_t_thrown, o_t_all) → va_P G.1 vwCl [oX8 t_h t_a n_t_thrown t_taped t_at t_behind t_size t_kind t_number t_wrong t_wrongAt t_faultKind t_faultPlace t_x t_wayLong t_bothLeast, arI G (t_a 1) 558 n_t_all, arI G (t_a 30) 4 t_rowSort, arI G (t_a 31) 4 t_rowMany, arJ G (t_a 32) 160 t_numbers] H → va_S A s.heap H locs → decode cX8_tieAll pc = .ok (.ireturn, 1) → W p l e ({ frames := 4, cells := 0, slots := 0, locals := 93 } : Room) s m args below meth c H locs 0 0 Q (F0 m pc ls [.int v])) ⟨va_A [oX8 t_h t_a t_thrown t_taped t_at t_behind t_size t_kind t_number t_wrong t_wrongAt t_faultKind t_faultPlace t_x t_wayLong t_bothLeast, arI G (t_a 1) 558 t_all, arI G (t_a 30) 4 t_rowSort, arI G (t_a 31) 4 t_rowMany, arJ G (t_a 32) 160 t_numbers] s.heap.size, hD0.self (sz := s.heap.size), va_S.rf, fun q h => Or.inr h, ?_⟩ ?_
  · intro v n_t_thrown n_t_all H locs pc ls h hP hS hd
    cases h
    exact retWI hx hb hr hlk hS hP rfl hd
  rintro Q ⟨A, hD, hS, hA, hRet⟩
  change W p l e ({ frames := 4, cells := 0, slots := 0, locals := 93 } : Room) s m args below meth c _ _ 0 0 Q _
  have L37 : ∀ (t_thrown : Int32) (K : Int32 → (Nat → Int32) → Option (Int32 × Int32 × (Nat → Int32))) (n : Nat) (l2 : Int32) (l3 : Int32) (t_all : Nat → Int32) (H : Heap) (locs : List Loc) (ls : Array Slot), va_P G.1 vwCl [oX8 t_h t_a t_thrown t_taped t_at t_behind t_size t_kind t_number t_wrong t_wrongAt t_faultKind t_faultPlace t_x t_wayLong t_bothLeast, arI G (t_a 1) 558 t_all, arI G (t_a 30) 4 t_rowSort, arI G (t_a 31) 4 t_rowMany, arJ G (t_a 32) 160 t_numbers] H → va_D A [oX8 t_h t_a t_thrown t_taped t_at t_behind t_size t_kind t_number t_wrong t_wrongAt t_faultKind t_faultPlace t_x t_wayLong t_bothLeast, arI G (t_a 1) 558 t_all, arI G (t_a 30) 4 t_rowSort, arI G (t_a 31) 4 t_rowMany, arJ G (t_a 32) 160 t_numbers] → va_S A s.heap H locs → lv_has ls 6 [(0, .ref t_h), (1, .int v1), (2, .int l2), (3, .int l3)] → fX8_tieAll_37 v1 t_rowMany t_numbers K n l2 l3 t_all = some (r, o_t_thrown, o_t_all) → (∀ (k2 : Int32) (kt_all : Nat → Int32) (H : Heap) (locs : List Loc) (ls : Array Slot), va_P G.1 vwCl [oX8 t_h t_a t_thrown t_taped t_at t_behind t_size t_kind t_number t_wrong t_wrongAt t_faultKind t_faultPlace t_x t_wayLong t_bothLeast, arI G (t_a 1) 558 kt_all, arI G (t_a 30) 4 t_rowSort, arI G (t_a 31) 4 t_rowMany, arJ G (t_a 32) 160 t_numbers] H → va_D A [oX8 t_h t_a t_thrown t_taped t_at t_behind t_size t_kind t_number t_wrong t_wrongAt t_faultKind t_faultPlace t_x t_wayLong t_bothLeast, arI G (t_a 1) 558 kt_all, arI G (t_a 30) 4 t_rowSort, arI G (t_a 31) 4 t_rowMany, arJ G (t_a 32) 160 t_numbers] → va_S A s.heap H locs → lv_has ls 6 [(2, .int k2)] → K k2 kt_all = some (r, o_t_thrown, o_t_all) → W p l e ({ frames := 4, cells := 0, slots := 0, locals := 93 } : Room) s m args below meth c H locs 0 0 Q (F0 m 101 ls [])) → W p l e ({ frames := 4, cells := 0, slots := 0, locals := 93 } : Room) s m args below meth c H locs 0 0 Q (F0 m 37 ls []) := by
    intro t_thrown K n
    induction n with
    | zero => intro l2 l3 t_all H locs ls hP hD hS hl hf; rw [fX8_tieAll_37] at hf; cases hf
    | succ n ih =>
      intro l2 l3 t_all H locs ls hP hD hS hl hf hX
      rw [fX8_tieAll_37] at hf
      refine lv_iload_n hx hb dX8_tieAll_37 rfl (lv_at hl 3 rfl) ?_
      refine lv_aload_n hx hb dX8_tieAll_38 rfl (lv_at hl 0 rfl) ?_
      refine va_get (D := G.1) (ci := 8) (v := .ref (t_a 31)) (C := RX8) (T := TX8) (N := 33) hx hb hw inW8 hown hK.1 hP 0 rfl rfl 31 (by decide) (hw _ kw_6_6) (fun _ h9 => h9) rfl dX8_tieAll_39 ?_
      refine lv_iload_n hx hb dX8_tieAll_42 rfl (lv_at hl 1 rfl) ?_
      obtain ⟨hi_8, hf⟩ := rdI_in hf
      refine va_iald hx hb hK.1 hP 3 0 rfl rfl hi_8 dX8_tieAll_43 ?_
      refine lv_topi (fun x_7 ex_7 => ?_)
      have hf := hf x_7 ex_7
      refine lv_icmp_ge (tgt := 101) hx hb dX8_tieAll_44 (by decide) (fun c_9 => ?_) (fun c_9 => ?_)
      · have hf := ip c_9 hf
        exact hX _ _ _ _ _ hP hD hS (lv_sub hl [2] rfl) hf
      · have hf := iq c_9 hf
        refine lv_aload_n hx hb dX8_tieAll_47 rfl (lv_at hl 0 rfl) ?_
        refine va_get (D := G.1) (ci := 8) (v := .ref (t_a 32)) (C := RX8) (T := TX8) (N := 33) hx hb hw inW8 hown hK.1 hP 0 rfl rfl 32 (by decide) (hw _ kw_6_7) (fun _ h9 => h9) rfl dX8_tieAll_48 ?_
        refine lv_bipush (v := 40) hx hb dX8_tieAll_51 (by decide) ?_
        refine lv_iload_n hx hb dX8_tieAll_53 rfl (lv_at hl 1 rfl) ?_
        refine lv_imul hx hb dX8_tieAll_54 ?_
        refine lv_iload_n hx hb dX8_tieAll_55 rfl (lv_at hl 3 rfl) ?_
        refine lv_iadd hx hb dX8_tieAll_56 ?_
        obtain ⟨hi_11, hf⟩ := rdL_in hf
        refine va_lald hx hb hK.1 hP 4 2 rfl rfl hi_11 dX8_tieAll_57 ?_
        refine lv_topl (fun x_10 ex_10 => ?_)
        have hf := hf x_10 ex_10
        refine lv_lstore (lv' := [(4, .long x_10), (0, .ref t_h), (1, .int v1), (2, .int l2), (3, .int l3)]) hx hb dX8_tieAll_58 hl (by decide) rfl (fun ls hl => ?_)
        refine lv_aload_n hx hb dX8_tieAll_60 rfl (lv_at hl 1 rfl) ?_
        refine lv_lload hx hb dX8_tieAll_61 (lv_at hl 0 rfl) ?_
        obtain ⟨r_12, hc_13, hf⟩ := bd1_in hf
        refine rcI (va_runV (As := [.long x_10]) (rest := []) ⟨hx, hb, hml, hown, hw⟩ ((ctX8_refuses l G t_h t_a t_thrown t_all t_taped t_at t_behind t_size t_kind t_number t_wrong t_wrongAt t_faultKind t_faultPlace t_x t_wayLong t_bothLeast x_10 _ hc_13) _) (kV hw calX8_refuses kw_23_8 rfl rfl ⟨Nat.le_of_ble_eq_true rfl, Nat.le_of_ble_eq_true rfl⟩) (rpV (hP.sub (ws' := [oX8 t_h t_a t_thrown t_taped t_at t_behind t_size t_kind t_number t_wrong t_wrongAt t_faultKind t_faultPlace t_x t_wayLong t_bothLeast, arI G (t_a 1) 558 t_all]) [0, 1] rfl) hK (ci := 8) (q0 := 0) rfl rfl) rfl rfl hl.1 rfl (lv_room (Nat.le_of_ble_eq_true rfl)) dX8_tieAll_63 ⟨Nat.zero_le _, Nat.zero_le _⟩) hS hA hP (fun H locs hP hS => ?_)
        refine lv_if_eq (tgt := 72) hx hb dX8_tieAll_66 (by decide) (fun c_14 => ?_) (fun c_14 => ?_)
        · have hf := ip c_14 hf
          refine lv_aload_n hx hb dX8_tieAll_72 rfl (lv_at hl 1 rfl) ?_
          refine va_get (D := G.1) (ci := 8) (v := .ref (t_a 1)) (C := RX8) (T := TX8) (N := 33) hx hb hw inW8 hown hK.1 hP 0 rfl rfl 1 (by decide) (hw _ kw_5_11) (fun _ h9 => h9) rfl dX8_tieAll_73 ?_
          refine lv_lload hx hb dX8_tieAll_76 (lv_at hl 0 rfl) ?_
          refine lv_l2i hx hb dX8_tieAll_78 rfl ?_
          refine lv_bipush (v := 20) hx hb dX8_tieAll_79 (by decide) ?_
          refine lv_idiv hx hb dX8_tieAll_81 (by decide) ?_
          refine lv_lload hx hb dX8_tieAll_82 (lv_at hl 0 rfl) ?_
          refine lv_l2i hx hb dX8_tieAll_84 rfl ?_
          refine lv_bipush (v := 20) hx hb dX8_tieAll_85 (by decide) ?_
          refine lv_irem hx hb dX8_tieAll_87 (by decide) ?_
          refine lv_iconst (v := 1) hx hb dX8_tieAll_88 (by decide) ?_
          obtain ⟨t_all_15, hc_16, hf⟩ := bd1_in hf
          refine wcV (w1 := [arI G (t_a 1) 558 t_all_15]) (va_runS (As := [.ref (t_a 1), .int ((Int64.toInt32 x_10) / 20), .int ((Int64.toInt32 x_10) - (Int64.toInt32 x_10) / 20 * 20), .int 1]) (rest := []) ⟨hx, hb, hml, hown, hw⟩ ((ctX8_sets l G 558 (t_a 1) t_all ((Int64.toInt32 x_10) / 20) ((Int64.toInt32 x_10) - (Int64.toInt32 x_10) / 20 * 20) 1 _ hc_16) _) (kS hw calX8_sets kw_17_10 rfl rfl ⟨Nat.le_of_ble_eq_true rfl, Nat.le_of_ble_eq_true rfl⟩) (wpS (hP.sub (ws' := [arI G (t_a 1) 558 t_all]) [1] rfl) (hD.sub (ws' := [arI G (t_a 1) 558 t_all]) [1] (by decide) rfl) hK) rfl rfl hl.1 rfl (lv_room (Nat.le_of_ble_eq_true rfl)) dX8_tieAll_89 ⟨Nat.zero_le _, Nat.zero_le _⟩) hS hA hP hD [1] rfl rfl (fun H locs hP hD hS => ?_)
          have hP : va_P G.1 vwCl [oX8 t_h t_a t_thrown t_taped t_at t_behind t_size t_kind t_number t_wrong t_wrongAt t_faultKind t_faultPlace t_x t_wayLong t_bothLeast, arI G (t_a 1) 558 t_all_15, arI G (t_a 30) 4 t_rowSort, arI G (t_a 31) 4 t_rowMany, arJ G (t_a 32) 160 t_numbers] H := hP
          have hD : va_D A [oX8 t_h t_a t_thrown t_taped t_at t_behind t_size t_kind t_number t_wrong t_wrongAt t_faultKind t_faultPlace t_x t_wayLong t_bothLeast, arI G (t_a 1) 558 t_all_15, arI G (t_a 30) 4 t_rowSort, arI G (t_a 31) 4 t_rowMany, arJ G (t_a 32) 160 t_numbers] := hD
          refine lv_iinc (v := (l2 + 1)) (lv' := [(2, .int (l2 + 1)), (4, .long x_10), (0, .ref t_h), (1, .int v1), (3, .int l3)]) hx hb dX8_tieAll_92 hl (k := 3) rfl (by rfl) (by decide) rfl (fun ls hl => ?_)
          refine lv_iinc (v := (l3 + 1)) (lv' := [(3, .int (l3 + 1)), (2, .int (l2 + 1)), (4, .long x_10), (0, .ref t_h), (1, .int v1)]) hx hb dX8_tieAll_95 hl (k := 4) rfl (by rfl) (by decide) rfl (fun ls hl => ?_)
          refine lv_goto (tgt := 37) hx hb dX8_tieAll_98 (by decide) ?_
          exact ih _ _ _ _ _ _ hP hD hS (lv_sub hl [3, 4, 1, 0] rfl) hf hX
        · have hf := iq c_14 hf
          refine lv_goto (tgt := 95) hx hb dX8_tieAll_69 (by decide) ?_
          refine lv_iinc (v := (l3 + 1)) (lv' := [(3, .int (l3 + 1)), (4, .long x_10), (0, .ref t_h), (1, .int v1), (2, .int l2)]) hx hb dX8_tieAll_95 hl (k := 4) rfl (by rfl) (by decide) rfl (fun ls hl => ?_)
          refine lv_goto (tgt := 37) hx hb dX8_tieAll_98 (by decide) ?_
          exact ih _ _ _ _ _ _ hP hD hS (lv_sub hl [2, 3, 4, 0] rfl) hf hX
  unfold fX8_tieAll at hf
  refine lv_aload_n hx hb dX8_tieAll_0 rfl (lv_at hl 0 rfl) ?_
  refine lv_iconst (v := 0) hx hb dX8_tieAll_1 (by decide) ?_
  refine va_put (D := G.1) (ci := 8) (v := .int 0) (ty := .int) (C := RX8) (T := TX8) (N := 33) hx hb hw inW8 tyX8 tyX8_ok nmX8 hown hK.1 hP hD hS 0 rfl rfl 0 (by decide) (hw _ kw_6_21) (fun _ h9 => h9) rfl (by decide +kernel) rfl rfl (Nat.le_of_ble_eq_true rfl) dX8_tieAll_2 (fun H locs hP hD hS => ?_)
  have hP : va_P G.1 vwCl [oX8 t_h t_a 0 t_taped t_at t_behind t_size t_kind t_number t_wrong t_wrongAt t_faultKind t_faultPlace t_x t_wayLong t_bothLeast, arI G (t_a 1) 558 t_all, arI G (t_a 30) 4 t_rowSort, arI G (t_a 31) 4 t_rowMany, arJ G (t_a 32) 160 t_numbers] H := hP
  have hD : va_D A [oX8 t_h t_a 0 t_taped t_at t_behind t_size t_kind t_number t_wrong t_wrongAt t_faultKind t_faultPlace t_x t_wayLong t_bothLeast, arI G (t_a 1) 558 t_all, arI G (t_a 30) 4 t_rowSort, arI G (t_a 31) 4 t_rowMany, arJ G (t_a 32) 160 t_numbers] := hD
  refine lv_iload_n hx hb dX8_tieAll_5 rfl (lv_at hl 1 rfl) ?_
  refine lv_i2l hx hb dX8_tieAll_6 rfl ?_
  refine lv_lconst (v := 0) hx hb dX8_tieAll_7 (by decide) ?_
  refine lv_ldc2 hx hb hown (hw _ kw_20_3) dX8_tieAll_8 ?_
  obtain ⟨r_1, hc_2, hf⟩ := bd1_in hf
  refine rcI (va_runS (As := [.long (Int32.toInt64 v1), .long 0, .long 3]) (rest := []) ⟨hx, hb, hml, hown, hw⟩ ((ctX8_within l G (Int32.toInt64 v1) 0 3 _ hc_2) _) (kS hw calX8_within kw_14_2 rfl rfl ⟨Nat.le_of_ble_eq_true rfl, Nat.le_of_ble_eq_true rfl⟩) (rpS (hP.sub (ws' := []) [] rfl) hK) rfl rfl hl.1 rfl (lv_room (Nat.le_of_ble_eq_true rfl)) dX8_tieAll_11 ⟨Nat.zero_le _, Nat.zero_le _⟩) hS hA hP (fun H locs hP hS => ?_)
  refine lv_if_ne (tgt := 20) hx hb dX8_tieAll_14 (by decide) (fun c_3 => ?_) (fun c_3 => ?_)
  · have hf := iq c_3 hf
    refine lv_aload_n hx hb dX8_tieAll_20 rfl (lv_at hl 0 rfl) ?_
    refine va_get (D := G.1) (ci := 8) (v := .ref (t_a 30)) (C := RX8) (T := TX8) (N := 33) hx hb hw inW8 hown hK.1 hP 0 rfl rfl 30 (by decide) (hw _ kw_6_5) (fun _ h9 => h9) rfl dX8_tieAll_21 ?_
    refine lv_iload_n hx hb dX8_tieAll_24 rfl (lv_at hl 1 rfl) ?_
    obtain ⟨hi_5, hf⟩ := rdI_in hf
    refine va_iald hx hb hK.1 hP 2 0 rfl rfl hi_5 dX8_tieAll_25 ?_
    refine lv_topi (fun x_4 ex_4 => ?_)
    have hf := hf x_4 ex_4
    refine lv_iconst (v := (-1)) hx hb dX8_tieAll_26 (by decide) ?_
    refine lv_icmp_ne (tgt := 33) hx hb dX8_tieAll_27 (by decide) (fun c_6 => ?_) (fun c_6 => ?_)
    · have hf := iq c_6 hf
      refine lv_iconst (v := 0) hx hb dX8_tieAll_33 (by decide) ?_
      refine lv_istore_n (lv' := [(2, .int 0), (0, .ref t_h), (1, .int v1)]) hx hb dX8_tieAll_34 rfl hl (by decide) rfl (fun ls hl => ?_)
      refine lv_iconst (v := 0) hx hb dX8_tieAll_35 (by decide) ?_
      refine lv_istore_n (lv' := [(3, .int 0), (2, .int 0), (0, .ref t_h), (1, .int v1)]) hx hb dX8_tieAll_36 rfl hl (by decide) rfl (fun ls hl => ?_)
      refine L37 _ _ _ _ _ _ _ _ _ hP hD hS (lv_sub hl [2, 3, 1, 0] rfl) hf (fun w_17 t_all_18 H locs ls hP hD hS hl hf => ?_)
      refine lv_iload_n hx hb dX8_tieAll_101 rfl (lv_at hl 0 rfl) ?_
      exact hRet _ _ _ _ _ _ _ hf hP hS dX8_tieAll_102
    · have hf := ip c_6 hf
      refine lv_bipush (v := (-6)) hx hb dX8_tieAll_30 (by decide) ?_
      exact hRet _ _ _ _ _ _ _ hf hP hS dX8_tieAll_32
  · have hf := ip c_3 hf
    refine lv_bipush (v := (-2)) hx hb dX8_tieAll_17 (by decide) ?_
    exact hRet _ _ _ _ _ _ _ hf hP hS dX8_tieAll_19
theorem calX8_pass : CalV yX8_pass cX8_pass 2 (some .int) 1 := ⟨⟨kw_26_0, kw_1_5, by decide +kernel⟩, kw_25_22, kw_25_23⟩
set_option maxHeartbeats 8000000 in
set_option maxRecDepth 100000 in
theorem ctX8_pass (l : Launch) (G : GT) (t_h : Nat) (t_a : Nat → Nat) (t_thrown : Int32) (t_all : Nat → Int32) (t_taped : Int32) (t_at : Int32) (t_behind : Int32) (t_size : Int32) (t_kind : Int32) (t_number : Int32) (t_wrong : Int32) (t_wrongAt : Int32) (t_faultKind : Int32) (t_faultPlace : Int32) (t_x : Int32) (t_wayLong : Int32) (t_bothLeast : Int32) (v1 : Int32) (r : Int32) (o_t_thrown : Int32) (o_t_all : Nat → Int32) (hf : fX8_pass t_thrown t_all v1 = some (r, o_t_thrown, o_t_all)) : WrI l yX8_pass (Cond.code yX8_pass cX8_pass 2 (some .int)) { frames := 1, cells := 0, slots := 0, locals := 25 } G [.ref t_h, .int v1] [oX8 t_h t_a t_thrown t_taped t_at t_behind t_size t_kind t_number t_wrong t_wrongAt t_faultKind t_faultPlace t_x t_wayLong t_bothLeast, arI G (t_a 1) 558 t_all] [oX8 t_h t_a o_t_thrown t_taped t_at t_behind t_size t_kind t_number t_wrong t_wrongAt t_faultKind t_faultPlace t_x t_wayLong t_bothLeast, arI G (t_a 1) 558 o_t_all] r := by
  intro sz
  refine Met.ofW (cc := cX8_pass) (maxL := 2) (ret := (some .int)) (by decide) rfl ?_
  intro p e s m args below meth c s₁ B hml hv
  obtain ⟨hargs, hsz, hP, hD0, hK⟩ := hv
  subst hsz
  obtain ⟨hx, hb, hr, hw, hown, hlk⟩ := fwB B
  refine fw_enter hargs (Nat.le_of_ble_eq_true rfl) (fun ls hl => ?_)
  have hl : lv_has ls 2 [(0, .ref t_h), (1, .int v1)] := hl
  refine fw_Q (P := fun Q => ∃ A : Nat → Prop, va_D A [oX8 t_h t_a t_thrown t_taped t_at t_behind t_size t_kind t_number t_wrong t_wrongAt t_faultKind t_faultPlace t_x t_wayLong t_bothLeast, arI G (t_a 1) 558 t_all] ∧ va_S A s.heap s.heap [] ∧ (∀ q, s.heap.size ≤ q → A q) ∧ ∀ (v : Int32) (n_t_thrown : Int32) (n_t_all : Nat → Int32) (H : Heap) (locs : List Loc) (pc : Nat) (ls : Array Slot), some (v, n_t_thrown, n_t_all) = some (r, o_t_thrown, o_t_all) → va_P G.1 vwCl [oX8 t_h t_a n_t_thrown t_taped t_at t_behind t_size t_kind t_number t_wrong t_wrongAt t_faultKind t_faultPlace t_x t_wayLong t_bothLeast, arI G (t_a 1) 558 n_t_all] H → va_S A s.heap H locs → decode cX8_pass pc = .ok (.ireturn, 1) → W p l e ({ frames := 1, cells := 0, slots := 0, locals := 25 } : Room) s m args below meth c H locs 0 0 Q (F0 m pc ls [.int v])) ⟨va_A [oX8 t_h t_a t_thrown t_taped t_at t_behind t_size t_kind t_number t_wrong t_wrongAt t_faultKind t_faultPlace t_x t_wayLong t_bothLeast, arI G (t_a 1) 558 t_all] s.heap.size, hD0.self (sz := s.heap.size), va_S.rf, fun q h => Or.inr h, ?_⟩ ?_
  · intro v n_t_thrown n_t_all H locs pc ls h hP hS hd
    cases h
    exact retWI hx hb hr hlk hS hP rfl hd
  rintro Q ⟨A, hD, hS, hA, hRet⟩
  change W p l e ({ frames := 1, cells := 0, slots := 0, locals := 25 } : Room) s m args below meth c _ _ 0 0 Q _
  unfold fX8_pass at hf
  refine lv_aload_n hx hb dX8_pass_0 rfl (lv_at hl 0 rfl) ?_
  refine lv_iconst (v := 0) hx hb dX8_pass_1 (by decide) ?_
  refine va_put (D := G.1) (ci := 8) (v := .int 0) (ty := .int) (C := RX8) (T := TX8) (N := 33) hx hb hw inW8 tyX8 tyX8_ok nmX8 hown hK.1 hP hD hS 0 rfl rfl 0 (by decide) (hw _ kw_6_21) (fun _ h9 => h9) rfl (by decide +kernel) rfl rfl (Nat.le_of_ble_eq_true rfl) dX8_pass_2 (fun H locs hP hD hS => ?_)
  have hP : va_P G.1 vwCl [oX8 t_h t_a 0 t_taped t_at t_behind t_size t_kind t_number t_wrong t_wrongAt t_faultKind t_faultPlace t_x t_wayLong t_bothLeast, arI G (t_a 1) 558 t_all] H := hP
  have hD : va_D A [oX8 t_h t_a 0 t_taped t_at t_behind t_size t_kind t_number t_wrong t_wrongAt t_faultKind t_faultPlace t_x t_wayLong t_bothLeast, arI G (t_a 1) 558 t_all] := hD
  refine lv_iload_n hx hb dX8_pass_5 rfl (lv_at hl 1 rfl) ?_
  refine lv_i2l hx hb dX8_pass_6 rfl ?_
  refine lv_lconst (v := 0) hx hb dX8_pass_7 (by decide) ?_
  refine lv_ldc2 hx hb hown (hw _ kw_26_1) dX8_pass_8 ?_
  obtain ⟨r_1, hc_2, hf⟩ := bd1_in hf
  refine rcI (va_runS (As := [.long (Int32.toInt64 v1), .long 0, .long 99]) (rest := []) ⟨hx, hb, hml, hown, hw⟩ ((ctX8_within l G (Int32.toInt64 v1) 0 99 _ hc_2) _) (kS hw calX8_within kw_14_2 rfl rfl ⟨Nat.le_of_ble_eq_true rfl, Nat.le_of_ble_eq_true rfl⟩) (rpS (hP.sub (ws' := []) [] rfl) hK) rfl rfl hl.1 rfl (lv_room (Nat.le_of_ble_eq_true rfl)) dX8_pass_11 ⟨Nat.zero_le _, Nat.zero_le _⟩) hS hA hP (fun H locs hP hS => ?_)
  refine lv_if_ne (tgt := 20) hx hb dX8_pass_14 (by decide) (fun c_3 => ?_) (fun c_3 => ?_)
  · have hf := iq c_3 hf
    refine lv_aload_n hx hb dX8_pass_20 rfl (lv_at hl 0 rfl) ?_
    refine va_get (D := G.1) (ci := 8) (v := .ref (t_a 1)) (C := RX8) (T := TX8) (N := 33) hx hb hw inW8 hown hK.1 hP 0 rfl rfl 1 (by decide) (hw _ kw_5_11) (fun _ h9 => h9) rfl dX8_pass_21 ?_
    refine lv_iconst (v := 1) hx hb dX8_pass_24 (by decide) ?_
    obtain ⟨hi_5, hf⟩ := rdI_in hf
    refine va_iald hx hb hK.1 hP 1 0 rfl rfl hi_5 dX8_pass_25 ?_
    refine lv_topi (fun x_4 ex_4 => ?_)
    have hf := hf x_4 ex_4
    refine lv_iload_n hx hb dX8_pass_26 rfl (lv_at hl 1 rfl) ?_
    refine lv_iadd hx hb dX8_pass_27 ?_
    refine lv_sipush (v := 9999) hx hb dX8_pass_28 (by decide) ?_
    refine lv_icmp_le (tgt := 37) hx hb dX8_pass_31 (by decide) (fun c_6 => ?_) (fun c_6 => ?_)
    · have hf := ip c_6 hf
      refine lv_aload_n hx hb dX8_pass_37 rfl (lv_at hl 0 rfl) ?_
      refine va_get (D := G.1) (ci := 8) (v := .ref (t_a 1)) (C := RX8) (T := TX8) (N := 33) hx hb hw inW8 hown hK.1 hP 0 rfl rfl 1 (by decide) (hw _ kw_5_11) (fun _ h9 => h9) rfl dX8_pass_38 ?_
      refine lv_iconst (v := 1) hx hb dX8_pass_41 (by decide) ?_
      refine lv_dup2_11 hx hb dX8_pass_42 rfl rfl ?_
      obtain ⟨hi_8, hf⟩ := rdI_in hf
      refine va_iald hx hb hK.1 hP 1 0 rfl rfl hi_8 dX8_pass_43 ?_
      refine lv_topi (fun x_7 ex_7 => ?_)
      have hf := hf x_7 ex_7
      refine lv_iload_n hx hb dX8_pass_44 rfl (lv_at hl 1 rfl) ?_
      refine lv_iadd hx hb dX8_pass_45 ?_
      obtain ⟨hi_10, hf⟩ := wrI_in hf
      refine xiast hx hb hK.1 hP hD hS 1 0 rfl rfl hi_10 dX8_pass_46 (fun t_all_9 H locs et_all_9 hP hD hS => ?_)
      have hf := hf t_all_9 et_all_9
      have hP : va_P G.1 vwCl [oX8 t_h t_a 0 t_taped t_at t_behind t_size t_kind t_number t_wrong t_wrongAt t_faultKind t_faultPlace t_x t_wayLong t_bothLeast, arI G (t_a 1) 558 t_all_9] H := hP
      have hD : va_D A [oX8 t_h t_a 0 t_taped t_at t_behind t_size t_kind t_number t_wrong t_wrongAt t_faultKind t_faultPlace t_x t_wayLong t_bothLeast, arI G (t_a 1) 558 t_all_9] := hD
      refine lv_aload_n hx hb dX8_pass_47 rfl (lv_at hl 0 rfl) ?_
      refine va_get (D := G.1) (ci := 8) (v := .ref (t_a 1)) (C := RX8) (T := TX8) (N := 33) hx hb hw inW8 hown hK.1 hP 0 rfl rfl 1 (by decide) (hw _ kw_5_11) (fun _ h9 => h9) rfl dX8_pass_48 ?_
      refine lv_iconst (v := 1) hx hb dX8_pass_51 (by decide) ?_
      obtain ⟨hi_12, hf⟩ := rdI_in hf
      refine va_iald hx hb hK.1 hP 1 0 rfl rfl hi_12 dX8_pass_52 ?_
      refine lv_topi (fun x_11 ex_11 => ?_)
      have hf := hf x_11 ex_11
      exact hRet _ _ _ _ _ _ _ hf hP hS dX8_pass_53
    · have hf := iq c_6 hf
      refine lv_bipush (v := (-5)) hx hb dX8_pass_34 (by decide) ?_
      exact hRet _ _ _ _ _ _ _ hf hP hS dX8_pass_36
  · have hf := ip c_3 hf
    refine lv_bipush (v := (-3)) hx hb dX8_pass_17 (by decide) ?_
    exact hRet _ _ _ _ _ _ _ hf hP hS dX8_pass_19
theorem calX8_damp : CalV yX8_damp cX8_damp 3 (some .int) 1 := ⟨⟨kw_26_9, kw_1_5, by decide +kernel⟩, kw_26_7, kw_26_8⟩
set_option maxHeartbeats 8000000 in
set_option maxRecDepth 100000 in
theorem ctX8_damp (l : Launch) (G : GT) (t_h : Nat) (t_a : Nat → Nat) (t_thrown : Int32) (t_all : Nat → Int32) (t_taped : Int32) (t_at : Int32) (t_behind : Int32) (t_size : Int32) (t_kind : Int32) (t_number : Int32) (t_wrong : Int32) (t_wrongAt : Int32) (t_faultKind : Int32) (t_faultPlace : Int32) (t_x : Int32) (t_wayLong : Int32) (t_bothLeast : Int32) (v1 : Int32) (r : Int32) (o_t_thrown : Int32) (o_t_all : Nat → Int32) (hf : fX8_damp t_thrown t_all v1 = some (r, o_t_thrown, o_t_all)) : WrI l yX8_damp (Cond.code yX8_damp cX8_damp 3 (some .int)) { frames := 1, cells := 0, slots := 0, locals := 25 } G [.ref t_h, .int v1] [oX8 t_h t_a t_thrown t_taped t_at t_behind t_size t_kind t_number t_wrong t_wrongAt t_faultKind t_faultPlace t_x t_wayLong t_bothLeast, arI G (t_a 1) 558 t_all] [oX8 t_h t_a o_t_thrown t_taped t_at t_behind t_size t_kind t_number t_wrong t_wrongAt t_faultKind t_faultPlace t_x t_wayLong t_bothLeast, arI G (t_a 1) 558 o_t_all] r := by
  intro sz
  refine Met.ofW (cc := cX8_damp) (maxL := 3) (ret := (some .int)) (by decide) rfl ?_
  intro p e s m args below meth c s₁ B hml hv
  obtain ⟨hargs, hsz, hP, hD0, hK⟩ := hv
  subst hsz
  obtain ⟨hx, hb, hr, hw, hown, hlk⟩ := fwB B
  refine fw_enter hargs (Nat.le_of_ble_eq_true rfl) (fun ls hl => ?_)
  have hl : lv_has ls 3 [(0, .ref t_h), (1, .int v1)] := hl
  refine fw_Q (P := fun Q => ∃ A : Nat → Prop, va_D A [oX8 t_h t_a t_thrown t_taped t_at t_behind t_size t_kind t_number t_wrong t_wrongAt t_faultKind t_faultPlace t_x t_wayLong t_bothLeast, arI G (t_a 1) 558 t_all] ∧ va_S A s.heap s.heap [] ∧ (∀ q, s.heap.size ≤ q → A q) ∧ ∀ (v : Int32) (n_t_thrown : Int32) (n_t_all : Nat → Int32) (H : Heap) (locs : List Loc) (pc : Nat) (ls : Array Slot), some (v, n_t_thrown, n_t_all) = some (r, o_t_thrown, o_t_all) → va_P G.1 vwCl [oX8 t_h t_a n_t_thrown t_taped t_at t_behind t_size t_kind t_number t_wrong t_wrongAt t_faultKind t_faultPlace t_x t_wayLong t_bothLeast, arI G (t_a 1) 558 n_t_all] H → va_S A s.heap H locs → decode cX8_damp pc = .ok (.ireturn, 1) → W p l e ({ frames := 1, cells := 0, slots := 0, locals := 25 } : Room) s m args below meth c H locs 0 0 Q (F0 m pc ls [.int v])) ⟨va_A [oX8 t_h t_a t_thrown t_taped t_at t_behind t_size t_kind t_number t_wrong t_wrongAt t_faultKind t_faultPlace t_x t_wayLong t_bothLeast, arI G (t_a 1) 558 t_all] s.heap.size, hD0.self (sz := s.heap.size), va_S.rf, fun q h => Or.inr h, ?_⟩ ?_
  · intro v n_t_thrown n_t_all H locs pc ls h hP hS hd
    cases h
    exact retWI hx hb hr hlk hS hP rfl hd
  rintro Q ⟨A, hD, hS, hA, hRet⟩
  change W p l e ({ frames := 1, cells := 0, slots := 0, locals := 25 } : Room) s m args below meth c _ _ 0 0 Q _
  unfold fX8_damp at hf
  refine lv_aload_n hx hb dX8_damp_0 rfl (lv_at hl 0 rfl) ?_
  refine lv_iconst (v := 0) hx hb dX8_damp_1 (by decide) ?_
  refine va_put (D := G.1) (ci := 8) (v := .int 0) (ty := .int) (C := RX8) (T := TX8) (N := 33) hx hb hw inW8 tyX8 tyX8_ok nmX8 hown hK.1 hP hD hS 0 rfl rfl 0 (by decide) (hw _ kw_6_21) (fun _ h9 => h9) rfl (by decide +kernel) rfl rfl (Nat.le_of_ble_eq_true rfl) dX8_damp_2 (fun H locs hP hD hS => ?_)
  have hP : va_P G.1 vwCl [oX8 t_h t_a 0 t_taped t_at t_behind t_size t_kind t_number t_wrong t_wrongAt t_faultKind t_faultPlace t_x t_wayLong t_bothLeast, arI G (t_a 1) 558 t_all] H := hP
  have hD : va_D A [oX8 t_h t_a 0 t_taped t_at t_behind t_size t_kind t_number t_wrong t_wrongAt t_faultKind t_faultPlace t_x t_wayLong t_bothLeast, arI G (t_a 1) 558 t_all] := hD
  refine lv_iload_n hx hb dX8_damp_5 rfl (lv_at hl 1 rfl) ?_
  refine lv_i2l hx hb dX8_damp_6 rfl ?_
  refine lv_lconst (v := 0) hx hb dX8_damp_7 (by decide) ?_
  refine lv_ldc2 hx hb hown (hw _ kw_21_17) dX8_damp_8 ?_
  obtain ⟨r_1, hc_2, hf⟩ := bd1_in hf
  refine rcI (va_runS (As := [.long (Int32.toInt64 v1), .long 0, .long 20]) (rest := []) ⟨hx, hb, hml, hown, hw⟩ ((ctX8_within l G (Int32.toInt64 v1) 0 20 _ hc_2) _) (kS hw calX8_within kw_14_2 rfl rfl ⟨Nat.le_of_ble_eq_true rfl, Nat.le_of_ble_eq_true rfl⟩) (rpS (hP.sub (ws' := []) [] rfl) hK) rfl rfl hl.1 rfl (lv_room (Nat.le_of_ble_eq_true rfl)) dX8_damp_11 ⟨Nat.zero_le _, Nat.zero_le _⟩) hS hA hP (fun H locs hP hS => ?_)
  refine lv_if_ne (tgt := 20) hx hb dX8_damp_14 (by decide) (fun c_3 => ?_) (fun c_3 => ?_)
  · have hf := iq c_3 hf
    refine lv_aload_n hx hb dX8_damp_20 rfl (lv_at hl 0 rfl) ?_
    refine va_get (D := G.1) (ci := 8) (v := .ref (t_a 1)) (C := RX8) (T := TX8) (N := 33) hx hb hw inW8 hown hK.1 hP 0 rfl rfl 1 (by decide) (hw _ kw_5_11) (fun _ h9 => h9) rfl dX8_damp_21 ?_
    refine lv_iconst (v := 2) hx hb dX8_damp_24 (by decide) ?_
    obtain ⟨hi_5, hf⟩ := rdI_in hf
    refine va_iald hx hb hK.1 hP 1 0 rfl rfl hi_5 dX8_damp_25 ?_
    refine lv_topi (fun x_4 ex_4 => ?_)
    have hf := hf x_4 ex_4
    refine lv_istore_n (lv' := [(2, .int x_4), (0, .ref t_h), (1, .int v1)]) hx hb dX8_damp_26 rfl hl (by decide) rfl (fun ls hl => ?_)
    refine lv_aload_n hx hb dX8_damp_27 rfl (lv_at hl 1 rfl) ?_
    refine va_get (D := G.1) (ci := 8) (v := .ref (t_a 1)) (C := RX8) (T := TX8) (N := 33) hx hb hw inW8 hown hK.1 hP 0 rfl rfl 1 (by decide) (hw _ kw_5_11) (fun _ h9 => h9) rfl dX8_damp_28 ?_
    refine lv_iconst (v := 2) hx hb dX8_damp_31 (by decide) ?_
    refine lv_iload_n hx hb dX8_damp_32 rfl (lv_at hl 2 rfl) ?_
    obtain ⟨hi_7, hf⟩ := wrI_in hf
    refine xiast hx hb hK.1 hP hD hS 1 0 rfl rfl hi_7 dX8_damp_33 (fun t_all_6 H locs et_all_6 hP hD hS => ?_)
    have hf := hf t_all_6 et_all_6
    have hP : va_P G.1 vwCl [oX8 t_h t_a 0 t_taped t_at t_behind t_size t_kind t_number t_wrong t_wrongAt t_faultKind t_faultPlace t_x t_wayLong t_bothLeast, arI G (t_a 1) 558 t_all_6] H := hP
    have hD : va_D A [oX8 t_h t_a 0 t_taped t_at t_behind t_size t_kind t_number t_wrong t_wrongAt t_faultKind t_faultPlace t_x t_wayLong t_bothLeast, arI G (t_a 1) 558 t_all_6] := hD
    refine lv_iload_n hx hb dX8_damp_34 rfl (lv_at hl 0 rfl) ?_
    exact hRet _ _ _ _ _ _ _ hf hP hS dX8_damp_35
  · have hf := ip c_3 hf
    refine lv_bipush (v := (-3)) hx hb dX8_damp_17 (by decide) ?_
    exact hRet _ _ _ _ _ _ _ hf hP hS dX8_damp_19
theorem calX8_draw : CalV yX8_draw cX8_draw 2 (some .int) 1 := ⟨⟨kw_27_11, kw_1_5, by decide +kernel⟩, kw_27_9, kw_27_10⟩
set_option maxHeartbeats 8000000 in
set_option maxRecDepth 100000 in
theorem ctX8_draw (l : Launch) (G : GT) (t_h : Nat) (t_a : Nat → Nat) (t_thrown : Int32) (t_taped : Int32) (t_at : Int32) (t_behind : Int32) (t_size : Int32) (t_kind : Int32) (t_number : Int32) (t_wrong : Int32) (t_wrongAt : Int32) (t_faultKind : Int32) (t_faultPlace : Int32) (t_x : Int32) (t_wayLong : Int32) (t_bothLeast : Int32) (v1 : Int32) (r : Int32) (o_t_x : Int32) (hf : fX8_draw t_x v1 = some (r, o_t_x)) : WrI l yX8_draw (Cond.code yX8_draw cX8_draw 2 (some .int)) { frames := 0, cells := 0, slots := 0, locals := 0 } G [.ref t_h, .int v1] [oX8 t_h t_a t_thrown t_taped t_at t_behind t_size t_kind t_number t_wrong t_wrongAt t_faultKind t_faultPlace t_x t_wayLong t_bothLeast] [oX8 t_h t_a t_thrown t_taped t_at t_behind t_size t_kind t_number t_wrong t_wrongAt t_faultKind t_faultPlace o_t_x t_wayLong t_bothLeast] r := by
  intro sz
  refine Met.ofW (cc := cX8_draw) (maxL := 2) (ret := (some .int)) (by decide) rfl ?_
  intro p e s m args below meth c s₁ B hml hv
  obtain ⟨hargs, hsz, hP, hD0, hK⟩ := hv
  subst hsz
  obtain ⟨hx, hb, hr, hw, hown, hlk⟩ := fwB B
  refine fw_enter hargs (Nat.le_of_ble_eq_true rfl) (fun ls hl => ?_)
  have hl : lv_has ls 2 [(0, .ref t_h), (1, .int v1)] := hl
  refine fw_Q (P := fun Q => ∃ A : Nat → Prop, va_D A [oX8 t_h t_a t_thrown t_taped t_at t_behind t_size t_kind t_number t_wrong t_wrongAt t_faultKind t_faultPlace t_x t_wayLong t_bothLeast] ∧ va_S A s.heap s.heap [] ∧ (∀ q, s.heap.size ≤ q → A q) ∧ ∀ (v : Int32) (n_t_x : Int32) (H : Heap) (locs : List Loc) (pc : Nat) (ls : Array Slot), some (v, n_t_x) = some (r, o_t_x) → va_P G.1 vwCl [oX8 t_h t_a t_thrown t_taped t_at t_behind t_size t_kind t_number t_wrong t_wrongAt t_faultKind t_faultPlace n_t_x t_wayLong t_bothLeast] H → va_S A s.heap H locs → decode cX8_draw pc = .ok (.ireturn, 1) → W p l e ({ frames := 0, cells := 0, slots := 0, locals := 0 } : Room) s m args below meth c H locs 0 0 Q (F0 m pc ls [.int v])) ⟨va_A [oX8 t_h t_a t_thrown t_taped t_at t_behind t_size t_kind t_number t_wrong t_wrongAt t_faultKind t_faultPlace t_x t_wayLong t_bothLeast] s.heap.size, hD0.self (sz := s.heap.size), va_S.rf, fun q h => Or.inr h, ?_⟩ ?_
  · intro v n_t_x H locs pc ls h hP hS hd
    cases h
    exact retWI hx hb hr hlk hS hP rfl hd
  rintro Q ⟨A, hD, hS, hA, hRet⟩
  change W p l e ({ frames := 0, cells := 0, slots := 0, locals := 0 } : Room) s m args below meth c _ _ 0 0 Q _
  unfold fX8_draw at hf
  refine lv_aload_n hx hb dX8_draw_0 rfl (lv_at hl 0 rfl) ?_
  refine lv_ldc hx hb hown (hw _ kw_27_12) dX8_draw_1 ?_
  refine lv_aload_n hx hb dX8_draw_3 rfl (lv_at hl 0 rfl) ?_
  refine va_get (D := G.1) (ci := 8) (v := .int t_x) (C := RX8) (T := TX8) (N := 33) hx hb hw inW8 hown hK.1 hP 0 rfl rfl 15 (by decide) (hw _ kw_27_7) (fun _ h9 => h9) rfl dX8_draw_4 ?_
  refine lv_imul hx hb dX8_draw_7 ?_
  refine lv_sipush (v := 12345) hx hb dX8_draw_8 (by decide) ?_
  refine lv_iadd hx hb dX8_draw_11 ?_
  refine lv_topi (fun y_1 ey_1 => ?_)
  have hf := bnd_all hf y_1 ey_1
  refine va_put (D := G.1) (ci := 8) (v := .int y_1) (ty := .int) (C := RX8) (T := TX8) (N := 33) hx hb hw inW8 tyX8 tyX8_ok nmX8 hown hK.1 hP hD hS 0 rfl rfl 15 (by decide) (hw _ kw_27_7) (fun _ h9 => h9) rfl (by decide +kernel) rfl rfl (Nat.le_of_ble_eq_true rfl) dX8_draw_12 (fun H locs hP hD hS => ?_)
  have hP : va_P G.1 vwCl [oX8 t_h t_a t_thrown t_taped t_at t_behind t_size t_kind t_number t_wrong t_wrongAt t_faultKind t_faultPlace y_1 t_wayLong t_bothLeast] H := hP
  have hD : va_D A [oX8 t_h t_a t_thrown t_taped t_at t_behind t_size t_kind t_number t_wrong t_wrongAt t_faultKind t_faultPlace y_1 t_wayLong t_bothLeast] := hD
  refine lv_aload_n hx hb dX8_draw_15 rfl (lv_at hl 0 rfl) ?_
  refine va_get (D := G.1) (ci := 8) (v := .int y_1) (C := RX8) (T := TX8) (N := 33) hx hb hw inW8 hown hK.1 hP 0 rfl rfl 15 (by decide) (hw _ kw_27_7) (fun _ h9 => h9) rfl dX8_draw_16 ?_
  refine lv_bipush (v := 16) hx hb dX8_draw_19 (by decide) ?_
  refine lv_iushr hx hb dX8_draw_21 rfl ?_
  refine lv_iload_n hx hb dX8_draw_22 rfl (lv_at hl 1 rfl) ?_
  obtain ⟨hz, hf⟩ := nzI_in hf
  refine lv_irem hx hb dX8_draw_23 hz ?_
  exact hRet _ _ _ _ _ _ hf hP hS dX8_draw_24
theorem calX8_gust : CalV yX8_gust cX8_gust 6 (some .int) 2 := ⟨⟨kw_27_5, kw_1_5, by decide +kernel⟩, kw_27_3, kw_27_4⟩
set_option maxHeartbeats 8000000 in
set_option maxRecDepth 100000 in
theorem ctX8_gust (l : Launch) (G : GT) (t_h : Nat) (t_a : Nat → Nat) (t_thrown : Int32) (t_all : Nat → Int32) (t_taped : Int32) (t_at : Int32) (t_behind : Int32) (t_size : Int32) (t_kind : Int32) (t_number : Int32) (t_wrong : Int32) (t_wrongAt : Int32) (t_faultKind : Int32) (t_faultPlace : Int32) (t_x : Int32) (t_wayLong : Int32) (t_bothLeast : Int32) (v1 : Int32) (v2 : Int32) (r : Int32) (o_t_thrown : Int32) (o_t_all : Nat → Int32) (o_t_x : Int32) (hf : fX8_gust t_thrown t_all t_x v1 v2 = some (r, o_t_thrown, o_t_all, o_t_x)) : WrI l yX8_gust (Cond.code yX8_gust cX8_gust 6 (some .int)) { frames := 3, cells := 0, slots := 0, locals := 71 } G [.ref t_h, .int v1, .int v2] [oX8 t_h t_a t_thrown t_taped t_at t_behind t_size t_kind t_number t_wrong t_wrongAt t_faultKind t_faultPlace t_x t_wayLong t_bothLeast, arI G (t_a 1) 558 t_all] [oX8 t_h t_a o_t_thrown t_taped t_at t_behind t_size t_kind t_number t_wrong t_wrongAt t_faultKind t_faultPlace o_t_x t_wayLong t_bothLeast, arI G (t_a 1) 558 o_t_all] r := by
  intro sz
  refine Met.ofW (cc := cX8_gust) (maxL := 6) (ret := (some .int)) (by decide) rfl ?_
  intro p e s m args below meth c s₁ B hml hv
  obtain ⟨hargs, hsz, hP, hD0, hK⟩ := hv
  subst hsz
  obtain ⟨hx, hb, hr, hw, hown, hlk⟩ := fwB B
  refine fw_enter hargs (Nat.le_of_ble_eq_true rfl) (fun ls hl => ?_)
  have hl : lv_has ls 6 [(0, .ref t_h), (1, .int v1), (2, .int v2)] := hl
  refine fw_Q (P := fun Q => ∃ A : Nat → Prop, va_D A [oX8 t_h t_a t_thrown t_taped t_at t_behind t_size t_kind t_number t_wrong t_wrongAt t_faultKind t_faultPlace t_x t_wayLong t_bothLeast, arI G (t_a 1) 558 t_all] ∧ va_S A s.heap s.heap [] ∧ (∀ q, s.heap.size ≤ q → A q) ∧ ∀ (v : Int32) (n_t_thrown : Int32) (n_t_all : Nat → Int32) (n_t_x : Int32) (H : Heap) (locs : List Loc) (pc : Nat) (ls : Array Slot), some (v, n_t_thrown, n_t_all, n_t_x) = some (r, o_t_thrown, o_t_all, o_t_x) → va_P G.1 vwCl [oX8 t_h t_a n_t_thrown t_taped t_at t_behind t_size t_kind t_number t_wrong t_wrongAt t_faultKind t_faultPlace n_t_x t_wayLong t_bothLeast, arI G (t_a 1) 558 n_t_all] H → va_S A s.heap H locs → decode cX8_gust pc = .ok (.ireturn, 1) → W p l e ({ frames := 3, cells := 0, slots := 0, locals := 71 } : Room) s m args below meth c H locs 0 0 Q (F0 m pc ls [.int v])) ⟨va_A [oX8 t_h t_a t_thrown t_taped t_at t_behind t_size t_kind t_number t_wrong t_wrongAt t_faultKind t_faultPlace t_x t_wayLong t_bothLeast, arI G (t_a 1) 558 t_all] s.heap.size, hD0.self (sz := s.heap.size), va_S.rf, fun q h => Or.inr h, ?_⟩ ?_
  · intro v n_t_thrown n_t_all n_t_x H locs pc ls h hP hS hd
    cases h
    exact retWI hx hb hr hlk hS hP rfl hd
  rintro Q ⟨A, hD, hS, hA, hRet⟩
  change W p l e ({ frames := 3, cells := 0, slots := 0, locals := 71 } : Room) s m args below meth c _ _ 0 0 Q _
  have L39 : ∀ (t_thrown : Int32) (K : (Nat → Int32) → Int32 → Option (Int32 × Int32 × (Nat → Int32) × Int32)) (n : Nat) (l3 : Int32) (t_all : Nat → Int32) (t_x : Int32) (H : Heap) (locs : List Loc) (ls : Array Slot), va_P G.1 vwCl [oX8 t_h t_a t_thrown t_taped t_at t_behind t_size t_kind t_number t_wrong t_wrongAt t_faultKind t_faultPlace t_x t_wayLong t_bothLeast, arI G (t_a 1) 558 t_all] H → va_D A [oX8 t_h t_a t_thrown t_taped t_at t_behind t_size t_kind t_number t_wrong t_wrongAt t_faultKind t_faultPlace t_x t_wayLong t_bothLeast, arI G (t_a 1) 558 t_all] → va_S A s.heap H locs → lv_has ls 6 [(0, .ref t_h), (2, .int v2), (3, .int l3)] → fX8_gust_39 v2 K n l3 t_all t_x = some (r, o_t_thrown, o_t_all, o_t_x) → (∀ (kt_all : Nat → Int32) (kt_x : Int32) (H : Heap) (locs : List Loc) (ls : Array Slot), va_P G.1 vwCl [oX8 t_h t_a t_thrown t_taped t_at t_behind t_size t_kind t_number t_wrong t_wrongAt t_faultKind t_faultPlace kt_x t_wayLong t_bothLeast, arI G (t_a 1) 558 kt_all] H → va_D A [oX8 t_h t_a t_thrown t_taped t_at t_behind t_size t_kind t_number t_wrong t_wrongAt t_faultKind t_faultPlace kt_x t_wayLong t_bothLeast, arI G (t_a 1) 558 kt_all] → va_S A s.heap H locs → lv_has ls 6 [(0, .ref t_h)] → K kt_all kt_x = some (r, o_t_thrown, o_t_all, o_t_x) → W p l e ({ frames := 3, cells := 0, slots := 0, locals := 71 } : Room) s m args below meth c H locs 0 0 Q (F0 m 142 ls [])) → W p l e ({ frames := 3, cells := 0, slots := 0, locals := 71 } : Room) s m args below meth c H locs 0 0 Q (F0 m 39 ls []) := by
    intro t_thrown K n
    induction n with
    | zero => intro l3 t_all t_x H locs ls hP hD hS hl hf; rw [fX8_gust_39] at hf; cases hf
    | succ n ih =>
      intro l3 t_all t_x H locs ls hP hD hS hl hf hX
      rw [fX8_gust_39] at hf
      refine lv_iload_n hx hb dX8_gust_39 rfl (lv_at hl 2 rfl) ?_
      refine lv_iload_n hx hb dX8_gust_40 rfl (lv_at hl 1 rfl) ?_
      refine lv_icmp_ge (tgt := 142) hx hb dX8_gust_41 (by decide) (fun c_7 => ?_) (fun c_7 => ?_)
      · have hf := ip c_7 hf
        exact hX _ _ _ _ _ hP hD hS (lv_sub hl [0] rfl) hf
      · have hf := iq c_7 hf
        refine lv_aload_n hx hb dX8_gust_44 rfl (lv_at hl 0 rfl) ?_
        refine lv_aload_n hx hb dX8_gust_45 rfl (lv_at hl 0 rfl) ?_
        refine va_get (D := G.1) (ci := 8) (v := .ref (t_a 1)) (C := RX8) (T := TX8) (N := 33) hx hb hw inW8 hown hK.1 hP 0 rfl rfl 1 (by decide) (hw _ kw_5_11) (fun _ h9 => h9) rfl dX8_gust_46 ?_
        refine lv_iconst (v := 0) hx hb dX8_gust_49 (by decide) ?_
        obtain ⟨hi_9, hf⟩ := rdI_in hf
        refine va_iald hx hb hK.1 hP 1 0 rfl rfl hi_9 dX8_gust_50 ?_
        refine lv_topi (fun x_8 ex_8 => ?_)
        have hf := hf x_8 ex_8
        obtain ⟨r_11, t_x_10, hc_12, hf⟩ := bd2_in hf
        refine wcI (w1 := [oX8 t_h t_a t_thrown t_taped t_at t_behind t_size t_kind t_number t_wrong t_wrongAt t_faultKind t_faultPlace t_x_10 t_wayLong t_bothLeast]) (va_runV (As := [.int x_8]) (rest := []) ⟨hx, hb, hml, hown, hw⟩ ((ctX8_draw l G t_h t_a t_thrown t_taped t_at t_behind t_size t_kind t_number t_wrong t_wrongAt t_faultKind t_faultPlace t_x t_wayLong t_bothLeast x_8 _ _ hc_12) _) (kV hw calX8_draw kw_27_8 rfl rfl ⟨Nat.le_of_ble_eq_true rfl, Nat.le_of_ble_eq_true rfl⟩) (wpV (hP.sub (ws' := [oX8 t_h t_a t_thrown t_taped t_at t_behind t_size t_kind t_number t_wrong t_wrongAt t_faultKind t_faultPlace t_x t_wayLong t_bothLeast]) [0] rfl) (hD.sub (ws' := [oX8 t_h t_a t_thrown t_taped t_at t_behind t_size t_kind t_number t_wrong t_wrongAt t_faultKind t_faultPlace t_x t_wayLong t_bothLeast]) [0] (by decide) rfl) hK (ci := 8) (q0 := 0) rfl rfl) rfl rfl hl.1 rfl (lv_room (Nat.le_of_ble_eq_true rfl)) dX8_gust_51 ⟨Nat.zero_le _, Nat.zero_le _⟩) hS hA hP hD [0] rfl rfl (fun H locs hP hD hS => ?_)
        have hP : va_P G.1 vwCl [oX8 t_h t_a t_thrown t_taped t_at t_behind t_size t_kind t_number t_wrong t_wrongAt t_faultKind t_faultPlace t_x_10 t_wayLong t_bothLeast, arI G (t_a 1) 558 t_all] H := hP
        have hD : va_D A [oX8 t_h t_a t_thrown t_taped t_at t_behind t_size t_kind t_number t_wrong t_wrongAt t_faultKind t_faultPlace t_x_10 t_wayLong t_bothLeast, arI G (t_a 1) 558 t_all] := hD
        refine lv_istore (lv' := [(4, .int r_11), (0, .ref t_h), (2, .int v2), (3, .int l3)]) hx hb dX8_gust_54 hl (by decide) rfl (fun ls hl => ?_)
        refine lv_aload_n hx hb dX8_gust_56 rfl (lv_at hl 1 rfl) ?_
        refine lv_aload_n hx hb dX8_gust_57 rfl (lv_at hl 1 rfl) ?_
        refine va_get (D := G.1) (ci := 8) (v := .ref (t_a 1)) (C := RX8) (T := TX8) (N := 33) hx hb hw inW8 hown hK.1 hP 0 rfl rfl 1 (by decide) (hw _ kw_5_11) (fun _ h9 => h9) rfl dX8_gust_58 ?_
        refine lv_iconst (v := 0) hx hb dX8_gust_61 (by decide) ?_
        obtain ⟨hi_14, hf⟩ := rdI_in hf
        refine va_iald hx hb hK.1 hP 1 0 rfl rfl hi_14 dX8_gust_62 ?_
        refine lv_topi (fun x_13 ex_13 => ?_)
        have hf := hf x_13 ex_13
        obtain ⟨r_16, t_x_15, hc_17, hf⟩ := bd2_in hf
        refine wcI (w1 := [oX8 t_h t_a t_thrown t_taped t_at t_behind t_size t_kind t_number t_wrong t_wrongAt t_faultKind t_faultPlace t_x_15 t_wayLong t_bothLeast]) (va_runV (As := [.int x_13]) (rest := []) ⟨hx, hb, hml, hown, hw⟩ ((ctX8_draw l G t_h t_a t_thrown t_taped t_at t_behind t_size t_kind t_number t_wrong t_wrongAt t_faultKind t_faultPlace t_x_10 t_wayLong t_bothLeast x_13 _ _ hc_17) _) (kV hw calX8_draw kw_27_8 rfl rfl ⟨Nat.le_of_ble_eq_true rfl, Nat.le_of_ble_eq_true rfl⟩) (wpV (hP.sub (ws' := [oX8 t_h t_a t_thrown t_taped t_at t_behind t_size t_kind t_number t_wrong t_wrongAt t_faultKind t_faultPlace t_x_10 t_wayLong t_bothLeast]) [0] rfl) (hD.sub (ws' := [oX8 t_h t_a t_thrown t_taped t_at t_behind t_size t_kind t_number t_wrong t_wrongAt t_faultKind t_faultPlace t_x_10 t_wayLong t_bothLeast]) [0] (by decide) rfl) hK (ci := 8) (q0 := 0) rfl rfl) rfl rfl hl.1 rfl (lv_room (Nat.le_of_ble_eq_true rfl)) dX8_gust_63 ⟨Nat.zero_le _, Nat.zero_le _⟩) hS hA hP hD [0] rfl rfl (fun H locs hP hD hS => ?_)
        have hP : va_P G.1 vwCl [oX8 t_h t_a t_thrown t_taped t_at t_behind t_size t_kind t_number t_wrong t_wrongAt t_faultKind t_faultPlace t_x_15 t_wayLong t_bothLeast, arI G (t_a 1) 558 t_all] H := hP
        have hD : va_D A [oX8 t_h t_a t_thrown t_taped t_at t_behind t_size t_kind t_number t_wrong t_wrongAt t_faultKind t_faultPlace t_x_15 t_wayLong t_bothLeast, arI G (t_a 1) 558 t_all] := hD
        refine lv_istore (lv' := [(5, .int r_16), (4, .int r_11), (0, .ref t_h), (2, .int v2), (3, .int l3)]) hx hb dX8_gust_66 hl (by decide) rfl (fun ls hl => ?_)
        refine lv_iload hx hb dX8_gust_68 (lv_at hl 1 rfl) ?_
        refine lv_iload hx hb dX8_gust_70 (lv_at hl 0 rfl) ?_
        refine lv_icmp_ne (tgt := 78) hx hb dX8_gust_72 (by decide) (fun c_18 => ?_) (fun c_18 => ?_)
        · have hf := iq c_18 hf
          refine lv_aload_n hx hb dX8_gust_78 rfl (lv_at hl 2 rfl) ?_
          refine lv_iload hx hb dX8_gust_79 (lv_at hl 1 rfl) ?_
          refine lv_iload hx hb dX8_gust_81 (lv_at hl 0 rfl) ?_
          obtain ⟨r_19, hc_20, hf⟩ := bd1_in hf
          refine rcI (va_runV (As := [.int r_11, .int r_16]) (rest := []) ⟨hx, hb, hml, hown, hw⟩ ((ctX8_isTied l G t_h t_a t_thrown t_all t_taped t_at t_behind t_size t_kind t_number t_wrong t_wrongAt t_faultKind t_faultPlace t_x_15 t_wayLong t_bothLeast r_11 r_16 _ hc_20) _) (kV hw calX8_isTied kw_20_16 rfl rfl ⟨Nat.le_of_ble_eq_true rfl, Nat.le_of_ble_eq_true rfl⟩) (rpV (hP.sub (ws' := [oX8 t_h t_a t_thrown t_taped t_at t_behind t_size t_kind t_number t_wrong t_wrongAt t_faultKind t_faultPlace t_x_15 t_wayLong t_bothLeast, arI G (t_a 1) 558 t_all]) [0, 1] rfl) hK (ci := 8) (q0 := 0) rfl rfl) rfl rfl hl.1 rfl (lv_room (Nat.le_of_ble_eq_true rfl)) dX8_gust_83 ⟨Nat.zero_le _, Nat.zero_le _⟩) hS hA hP (fun H locs hP hS => ?_)
          refine lv_if_eq (tgt := 104) hx hb dX8_gust_86 (by decide) (fun c_21 => ?_) (fun c_21 => ?_)
          · have hf := ip c_21 hf
            refine lv_aload_n hx hb dX8_gust_104 rfl (lv_at hl 2 rfl) ?_
            refine va_get (D := G.1) (ci := 8) (v := .ref (t_a 1)) (C := RX8) (T := TX8) (N := 33) hx hb hw inW8 hown hK.1 hP 0 rfl rfl 1 (by decide) (hw _ kw_5_11) (fun _ h9 => h9) rfl dX8_gust_105 ?_
            refine lv_iload hx hb dX8_gust_108 (lv_at hl 1 rfl) ?_
            refine lv_iload hx hb dX8_gust_110 (lv_at hl 0 rfl) ?_
            obtain ⟨r_22, hc_23, hf⟩ := bd1_in hf
            refine rcI (va_runS (As := [.ref (t_a 1), .int r_11, .int r_16]) (rest := []) ⟨hx, hb, hml, hown, hw⟩ ((ctX8_refusesIn l G 558 (t_a 1) t_all r_11 r_16 _ hc_23) _) (kS hw calX8_refusesIn kw_16_22 rfl rfl ⟨Nat.le_of_ble_eq_true rfl, Nat.le_of_ble_eq_true rfl⟩) (rpS (hP.sub (ws' := [arI G (t_a 1) 558 t_all]) [1] rfl) hK) rfl rfl hl.1 rfl (lv_room (Nat.le_of_ble_eq_true rfl)) dX8_gust_112 ⟨Nat.zero_le _, Nat.zero_le _⟩) hS hA hP (fun H locs hP hS => ?_)
            refine lv_if_ne (tgt := 136) hx hb dX8_gust_115 (by decide) (fun c_24 => ?_) (fun c_24 => ?_)
            · have hf := iq c_24 hf
              refine lv_iinc (v := (l3 + 1)) (lv' := [(3, .int (l3 + 1)), (5, .int r_16), (4, .int r_11), (0, .ref t_h), (2, .int v2)]) hx hb dX8_gust_136 hl (k := 4) rfl (by rfl) (by decide) rfl (fun ls hl => ?_)
              refine lv_goto (tgt := 39) hx hb dX8_gust_139 (by decide) ?_
              exact ih _ _ _ _ _ _ hP hD hS (lv_sub hl [3, 4, 0] rfl) hf hX
            · have hf := ip c_24 hf
              refine lv_aload_n hx hb dX8_gust_118 rfl (lv_at hl 2 rfl) ?_
              refine va_get (D := G.1) (ci := 8) (v := .ref (t_a 1)) (C := RX8) (T := TX8) (N := 33) hx hb hw inW8 hown hK.1 hP 0 rfl rfl 1 (by decide) (hw _ kw_5_11) (fun _ h9 => h9) rfl dX8_gust_119 ?_
              refine lv_iload hx hb dX8_gust_122 (lv_at hl 1 rfl) ?_
              refine lv_iload hx hb dX8_gust_124 (lv_at hl 0 rfl) ?_
              refine lv_iconst (v := 1) hx hb dX8_gust_126 (by decide) ?_
              refine lv_aload_n hx hb dX8_gust_127 rfl (lv_at hl 2 rfl) ?_
              refine lv_iconst (v := 3) hx hb dX8_gust_128 (by decide) ?_
              obtain ⟨r_26, t_x_25, hc_27, hf⟩ := bd2_in hf
              refine wcI (w1 := [oX8 t_h t_a t_thrown t_taped t_at t_behind t_size t_kind t_number t_wrong t_wrongAt t_faultKind t_faultPlace t_x_25 t_wayLong t_bothLeast]) (va_runV (As := [.int 3]) (rest := [.int 1, .int r_16, .int r_11, .ref (t_a 1)]) ⟨hx, hb, hml, hown, hw⟩ ((ctX8_draw l G t_h t_a t_thrown t_taped t_at t_behind t_size t_kind t_number t_wrong t_wrongAt t_faultKind t_faultPlace t_x_15 t_wayLong t_bothLeast 3 _ _ hc_27) _) (kV hw calX8_draw kw_27_8 rfl rfl ⟨Nat.le_of_ble_eq_true rfl, Nat.le_of_ble_eq_true rfl⟩) (wpV (hP.sub (ws' := [oX8 t_h t_a t_thrown t_taped t_at t_behind t_size t_kind t_number t_wrong t_wrongAt t_faultKind t_faultPlace t_x_15 t_wayLong t_bothLeast]) [0] rfl) (hD.sub (ws' := [oX8 t_h t_a t_thrown t_taped t_at t_behind t_size t_kind t_number t_wrong t_wrongAt t_faultKind t_faultPlace t_x_15 t_wayLong t_bothLeast]) [0] (by decide) rfl) hK (ci := 8) (q0 := 0) rfl rfl) rfl rfl hl.1 rfl (lv_room (Nat.le_of_ble_eq_true rfl)) dX8_gust_129 ⟨Nat.zero_le _, Nat.zero_le _⟩) hS hA hP hD [0] rfl rfl (fun H locs hP hD hS => ?_)
              have hP : va_P G.1 vwCl [oX8 t_h t_a t_thrown t_taped t_at t_behind t_size t_kind t_number t_wrong t_wrongAt t_faultKind t_faultPlace t_x_25 t_wayLong t_bothLeast, arI G (t_a 1) 558 t_all] H := hP
              have hD : va_D A [oX8 t_h t_a t_thrown t_taped t_at t_behind t_size t_kind t_number t_wrong t_wrongAt t_faultKind t_faultPlace t_x_25 t_wayLong t_bothLeast, arI G (t_a 1) 558 t_all] := hD
              refine lv_iadd hx hb dX8_gust_132 ?_
              obtain ⟨t_all_28, hc_29, hf⟩ := bd1_in hf
              refine wcV (w1 := [arI G (t_a 1) 558 t_all_28]) (va_runS (As := [.ref (t_a 1), .int r_11, .int r_16, .int (1 + r_26)]) (rest := []) ⟨hx, hb, hml, hown, hw⟩ ((ctX8_sets l G 558 (t_a 1) t_all r_11 r_16 (1 + r_26) _ hc_29) _) (kS hw calX8_sets kw_17_10 rfl rfl ⟨Nat.le_of_ble_eq_true rfl, Nat.le_of_ble_eq_true rfl⟩) (wpS (hP.sub (ws' := [arI G (t_a 1) 558 t_all]) [1] rfl) (hD.sub (ws' := [arI G (t_a 1) 558 t_all]) [1] (by decide) rfl) hK) rfl rfl hl.1 rfl (lv_room (Nat.le_of_ble_eq_true rfl)) dX8_gust_133 ⟨Nat.zero_le _, Nat.zero_le _⟩) hS hA hP hD [1] rfl rfl (fun H locs hP hD hS => ?_)
              have hP : va_P G.1 vwCl [oX8 t_h t_a t_thrown t_taped t_at t_behind t_size t_kind t_number t_wrong t_wrongAt t_faultKind t_faultPlace t_x_25 t_wayLong t_bothLeast, arI G (t_a 1) 558 t_all_28] H := hP
              have hD : va_D A [oX8 t_h t_a t_thrown t_taped t_at t_behind t_size t_kind t_number t_wrong t_wrongAt t_faultKind t_faultPlace t_x_25 t_wayLong t_bothLeast, arI G (t_a 1) 558 t_all_28] := hD
              refine lv_iinc (v := (l3 + 1)) (lv' := [(3, .int (l3 + 1)), (5, .int r_16), (4, .int r_11), (0, .ref t_h), (2, .int v2)]) hx hb dX8_gust_136 hl (k := 4) rfl (by rfl) (by decide) rfl (fun ls hl => ?_)
              refine lv_goto (tgt := 39) hx hb dX8_gust_139 (by decide) ?_
              exact ih _ _ _ _ _ _ hP hD hS (lv_sub hl [3, 4, 0] rfl) hf hX
          · have hf := iq c_21 hf
            refine lv_aload_n hx hb dX8_gust_89 rfl (lv_at hl 2 rfl) ?_
            refine va_get (D := G.1) (ci := 8) (v := .ref (t_a 1)) (C := RX8) (T := TX8) (N := 33) hx hb hw inW8 hown hK.1 hP 0 rfl rfl 1 (by decide) (hw _ kw_5_11) (fun _ h9 => h9) rfl dX8_gust_90 ?_
            refine lv_iload hx hb dX8_gust_93 (lv_at hl 1 rfl) ?_
            refine lv_iload hx hb dX8_gust_95 (lv_at hl 0 rfl) ?_
            refine lv_iconst (v := 0) hx hb dX8_gust_97 (by decide) ?_
            obtain ⟨t_all_30, hc_31, hf⟩ := bd1_in hf
            refine wcV (w1 := [arI G (t_a 1) 558 t_all_30]) (va_runS (As := [.ref (t_a 1), .int r_11, .int r_16, .int 0]) (rest := []) ⟨hx, hb, hml, hown, hw⟩ ((ctX8_sets l G 558 (t_a 1) t_all r_11 r_16 0 _ hc_31) _) (kS hw calX8_sets kw_17_10 rfl rfl ⟨Nat.le_of_ble_eq_true rfl, Nat.le_of_ble_eq_true rfl⟩) (wpS (hP.sub (ws' := [arI G (t_a 1) 558 t_all]) [1] rfl) (hD.sub (ws' := [arI G (t_a 1) 558 t_all]) [1] (by decide) rfl) hK) rfl rfl hl.1 rfl (lv_room (Nat.le_of_ble_eq_true rfl)) dX8_gust_98 ⟨Nat.zero_le _, Nat.zero_le _⟩) hS hA hP hD [1] rfl rfl (fun H locs hP hD hS => ?_)
            have hP : va_P G.1 vwCl [oX8 t_h t_a t_thrown t_taped t_at t_behind t_size t_kind t_number t_wrong t_wrongAt t_faultKind t_faultPlace t_x_15 t_wayLong t_bothLeast, arI G (t_a 1) 558 t_all_30] H := hP
            have hD : va_D A [oX8 t_h t_a t_thrown t_taped t_at t_behind t_size t_kind t_number t_wrong t_wrongAt t_faultKind t_faultPlace t_x_15 t_wayLong t_bothLeast, arI G (t_a 1) 558 t_all_30] := hD
            refine lv_goto (tgt := 136) hx hb dX8_gust_101 (by decide) ?_
            refine lv_iinc (v := (l3 + 1)) (lv' := [(3, .int (l3 + 1)), (5, .int r_16), (4, .int r_11), (0, .ref t_h), (2, .int v2)]) hx hb dX8_gust_136 hl (k := 4) rfl (by rfl) (by decide) rfl (fun ls hl => ?_)
            refine lv_goto (tgt := 39) hx hb dX8_gust_139 (by decide) ?_
            exact ih _ _ _ _ _ _ hP hD hS (lv_sub hl [3, 4, 0] rfl) hf hX
        · have hf := ip c_18 hf
          refine lv_goto (tgt := 136) hx hb dX8_gust_75 (by decide) ?_
          refine lv_iinc (v := (l3 + 1)) (lv' := [(3, .int (l3 + 1)), (5, .int r_16), (4, .int r_11), (0, .ref t_h), (2, .int v2)]) hx hb dX8_gust_136 hl (k := 4) rfl (by rfl) (by decide) rfl (fun ls hl => ?_)
          refine lv_goto (tgt := 39) hx hb dX8_gust_139 (by decide) ?_
          exact ih _ _ _ _ _ _ hP hD hS (lv_sub hl [3, 4, 0] rfl) hf hX
  unfold fX8_gust at hf
  refine lv_aload_n hx hb dX8_gust_0 rfl (lv_at hl 0 rfl) ?_
  refine lv_iconst (v := 0) hx hb dX8_gust_1 (by decide) ?_
  refine va_put (D := G.1) (ci := 8) (v := .int 0) (ty := .int) (C := RX8) (T := TX8) (N := 33) hx hb hw inW8 tyX8 tyX8_ok nmX8 hown hK.1 hP hD hS 0 rfl rfl 0 (by decide) (hw _ kw_6_21) (fun _ h9 => h9) rfl (by decide +kernel) rfl rfl (Nat.le_of_ble_eq_true rfl) dX8_gust_2 (fun H locs hP hD hS => ?_)
  have hP : va_P G.1 vwCl [oX8 t_h t_a 0 t_taped t_at t_behind t_size t_kind t_number t_wrong t_wrongAt t_faultKind t_faultPlace t_x t_wayLong t_bothLeast, arI G (t_a 1) 558 t_all] H := hP
  have hD : va_D A [oX8 t_h t_a 0 t_taped t_at t_behind t_size t_kind t_number t_wrong t_wrongAt t_faultKind t_faultPlace t_x t_wayLong t_bothLeast, arI G (t_a 1) 558 t_all] := hD
  refine lv_aload_n hx hb dX8_gust_5 rfl (lv_at hl 0 rfl) ?_
  refine va_get (D := G.1) (ci := 8) (v := .ref (t_a 1)) (C := RX8) (T := TX8) (N := 33) hx hb hw inW8 hown hK.1 hP 0 rfl rfl 1 (by decide) (hw _ kw_5_11) (fun _ h9 => h9) rfl dX8_gust_6 ?_
  refine lv_iconst (v := 0) hx hb dX8_gust_9 (by decide) ?_
  obtain ⟨hi_2, hf⟩ := rdI_in hf
  refine va_iald hx hb hK.1 hP 1 0 rfl rfl hi_2 dX8_gust_10 ?_
  refine lv_topi (fun x_1 ex_1 => ?_)
  have hf := hf x_1 ex_1
  refine lv_if_ne (tgt := 17) hx hb dX8_gust_11 (by decide) (fun c_3 => ?_) (fun c_3 => ?_)
  · have hf := iq c_3 hf
    refine lv_iload_n hx hb dX8_gust_17 rfl (lv_at hl 2 rfl) ?_
    refine lv_i2l hx hb dX8_gust_18 rfl ?_
    refine lv_lconst (v := 1) hx hb dX8_gust_19 (by decide) ?_
    refine lv_ldc2 hx hb hown (hw _ kw_27_6) dX8_gust_20 ?_
    obtain ⟨r_4, hc_5, hf⟩ := bd1_in hf
    refine rcI (va_runS (As := [.long (Int32.toInt64 v2), .long 1, .long 60]) (rest := []) ⟨hx, hb, hml, hown, hw⟩ ((ctX8_within l G (Int32.toInt64 v2) 1 60 _ hc_5) _) (kS hw calX8_within kw_14_2 rfl rfl ⟨Nat.le_of_ble_eq_true rfl, Nat.le_of_ble_eq_true rfl⟩) (rpS (hP.sub (ws' := []) [] rfl) hK) rfl rfl hl.1 rfl (lv_room (Nat.le_of_ble_eq_true rfl)) dX8_gust_23 ⟨Nat.zero_le _, Nat.zero_le _⟩) hS hA hP (fun H locs hP hS => ?_)
    refine lv_if_ne (tgt := 32) hx hb dX8_gust_26 (by decide) (fun c_6 => ?_) (fun c_6 => ?_)
    · have hf := iq c_6 hf
      refine lv_aload_n hx hb dX8_gust_32 rfl (lv_at hl 0 rfl) ?_
      refine lv_iload_n hx hb dX8_gust_33 rfl (lv_at hl 1 rfl) ?_
      refine va_put (D := G.1) (ci := 8) (v := .int v1) (ty := .int) (C := RX8) (T := TX8) (N := 33) hx hb hw inW8 tyX8 tyX8_ok nmX8 hown hK.1 hP hD hS 0 rfl rfl 15 (by decide) (hw _ kw_27_7) (fun _ h9 => h9) rfl (by decide +kernel) rfl rfl (Nat.le_of_ble_eq_true rfl) dX8_gust_34 (fun H locs hP hD hS => ?_)
      have hP : va_P G.1 vwCl [oX8 t_h t_a 0 t_taped t_at t_behind t_size t_kind t_number t_wrong t_wrongAt t_faultKind t_faultPlace v1 t_wayLong t_bothLeast, arI G (t_a 1) 558 t_all] H := hP
      have hD : va_D A [oX8 t_h t_a 0 t_taped t_at t_behind t_size t_kind t_number t_wrong t_wrongAt t_faultKind t_faultPlace v1 t_wayLong t_bothLeast, arI G (t_a 1) 558 t_all] := hD
      refine lv_iconst (v := 0) hx hb dX8_gust_37 (by decide) ?_
      refine lv_istore_n (lv' := [(3, .int 0), (0, .ref t_h), (1, .int v1), (2, .int v2)]) hx hb dX8_gust_38 rfl hl (by decide) rfl (fun ls hl => ?_)
      refine L39 _ _ _ _ _ _ _ _ _ hP hD hS (lv_sub hl [1, 3, 0] rfl) hf (fun t_all_32 t_x_33 H locs ls hP hD hS hl hf => ?_)
      refine lv_aload_n hx hb dX8_gust_142 rfl (lv_at hl 0 rfl) ?_
      obtain ⟨r_34, hc_35, hf⟩ := bd1_in hf
      refine rcI (va_runV (As := []) (rest := []) ⟨hx, hb, hml, hown, hw⟩ ((ctX8_strings l G t_h t_a 0 t_all_32 t_taped t_at t_behind t_size t_kind t_number t_wrong t_wrongAt t_faultKind t_faultPlace t_x_33 t_wayLong t_bothLeast _ hc_35) _) (kV hw calX8_strings kw_23_22 rfl rfl ⟨Nat.le_of_ble_eq_true rfl, Nat.le_of_ble_eq_true rfl⟩) (rpV (hP.sub (ws' := [oX8 t_h t_a 0 t_taped t_at t_behind t_size t_kind t_number t_wrong t_wrongAt t_faultKind t_faultPlace t_x_33 t_wayLong t_bothLeast, arI G (t_a 1) 558 t_all_32]) [0, 1] rfl) hK (ci := 8) (q0 := 0) rfl rfl) rfl rfl hl.1 rfl (lv_room (Nat.le_of_ble_eq_true rfl)) dX8_gust_143 ⟨Nat.zero_le _, Nat.zero_le _⟩) hS hA hP (fun H locs hP hS => ?_)
      exact hRet _ _ _ _ _ _ _ _ hf hP hS dX8_gust_146
    · have hf := ip c_6 hf
      refine lv_bipush (v := (-3)) hx hb dX8_gust_29 (by decide) ?_
      exact hRet _ _ _ _ _ _ _ _ hf hP hS dX8_gust_31
  · have hf := ip c_3 hf
    refine lv_bipush (v := (-5)) hx hb dX8_gust_14 (by decide) ?_
    exact hRet _ _ _ _ _ _ _ _ hf hP hS dX8_gust_16
theorem calX8_laysLoss : CalV yX8_laysLoss cX8_laysLoss 8 none 3 := ⟨⟨kw_30_7, kw_1_5, by decide +kernel⟩, kw_30_5, kw_30_6⟩
set_option maxHeartbeats 8000000 in
set_option maxRecDepth 100000 in
theorem ctX8_laysLoss (l : Launch) (G : GT) (t_h : Nat) (t_a : Nat → Nat) (t_thrown : Int32) (t_all : Nat → Int32) (t_taped : Int32) (t_at : Int32) (t_behind : Int32) (t_size : Int32) (t_kind : Int32) (t_number : Int32) (t_wrong : Int32) (t_wrongAt : Int32) (t_faultKind : Int32) (t_faultPlace : Int32) (t_x : Int32) (t_loss : Nat → Int32) (t_hops : Nat → Int32) (t_wayLong : Int32) (t_bothLeast : Int32) (v1 : Int32) (v2 : Int32) (v3 : Int32) (o_t_loss : Nat → Int32) (o_t_hops : Nat → Int32) (hf : fX8_laysLoss t_all t_loss t_hops v1 v2 v3 = some (o_t_loss, o_t_hops)) : WrV l yX8_laysLoss (Cond.code yX8_laysLoss cX8_laysLoss 8 none) { frames := 4, cells := 0, slots := 0, locals := 94 } G [.ref t_h, .int v1, .int v2, .int v3] [oX8 t_h t_a t_thrown t_taped t_at t_behind t_size t_kind t_number t_wrong t_wrongAt t_faultKind t_faultPlace t_x t_wayLong t_bothLeast, arI G (t_a 1) 558 t_all, arI G (t_a 16) 12 t_loss, arI G (t_a 17) 12 t_hops] [oX8 t_h t_a t_thrown t_taped t_at t_behind t_size t_kind t_number t_wrong t_wrongAt t_faultKind t_faultPlace t_x t_wayLong t_bothLeast, arI G (t_a 1) 558 t_all, arI G (t_a 16) 12 o_t_loss, arI G (t_a 17) 12 o_t_hops] := by
  intro sz
  refine Met.ofW (cc := cX8_laysLoss) (maxL := 8) (ret := none) (by decide) rfl ?_
  intro p e s m args below meth c s₁ B hml hv
  obtain ⟨hargs, hsz, hP, hD0, hK⟩ := hv
  subst hsz
  obtain ⟨hx, hb, hr, hw, hown, hlk⟩ := fwB B
  refine fw_enter hargs (Nat.le_of_ble_eq_true rfl) (fun ls hl => ?_)
  have hl : lv_has ls 8 [(0, .ref t_h), (1, .int v1), (2, .int v2), (3, .int v3)] := hl
  refine fw_Q (P := fun Q => ∃ A : Nat → Prop, va_D A [oX8 t_h t_a t_thrown t_taped t_at t_behind t_size t_kind t_number t_wrong t_wrongAt t_faultKind t_faultPlace t_x t_wayLong t_bothLeast, arI G (t_a 1) 558 t_all, arI G (t_a 16) 12 t_loss, arI G (t_a 17) 12 t_hops] ∧ va_S A s.heap s.heap [] ∧ (∀ q, s.heap.size ≤ q → A q) ∧ ∀ (n_t_loss : Nat → Int32) (n_t_hops : Nat → Int32) (H : Heap) (locs : List Loc) (pc : Nat) (ls : Array Slot), some (n_t_loss, n_t_hops) = some (o_t_loss, o_t_hops) → va_P G.1 vwCl [oX8 t_h t_a t_thrown t_taped t_at t_behind t_size t_kind t_number t_wrong t_wrongAt t_faultKind t_faultPlace t_x t_wayLong t_bothLeast, arI G (t_a 1) 558 t_all, arI G (t_a 16) 12 n_t_loss, arI G (t_a 17) 12 n_t_hops] H → va_S A s.heap H locs → decode cX8_laysLoss pc = .ok (.return_, 1) → W p l e ({ frames := 4, cells := 0, slots := 0, locals := 94 } : Room) s m args below meth c H locs 0 0 Q (F0 m pc ls [])) ⟨va_A [oX8 t_h t_a t_thrown t_taped t_at t_behind t_size t_kind t_number t_wrong t_wrongAt t_faultKind t_faultPlace t_x t_wayLong t_bothLeast, arI G (t_a 1) 558 t_all, arI G (t_a 16) 12 t_loss, arI G (t_a 17) 12 t_hops] s.heap.size, hD0.self (sz := s.heap.size), va_S.rf, fun q h => Or.inr h, ?_⟩ ?_
  · intro n_t_loss n_t_hops H locs pc ls h hP hS hd
    cases h
    exact retWV hx hb hr hlk hS hP hd
  rintro Q ⟨A, hD, hS, hA, hRet⟩
  change W p l e ({ frames := 4, cells := 0, slots := 0, locals := 94 } : Room) s m args below meth c _ _ 0 0 Q _
  have L3 : ∀ (t_hops : Nat → Int32) (K : (Nat → Int32) → Option ((Nat → Int32) × (Nat → Int32))) (n : Nat) (l4 : Int32) (t_loss : Nat → Int32) (H : Heap) (locs : List Loc) (ls : Array Slot), va_P G.1 vwCl [oX8 t_h t_a t_thrown t_taped t_at t_behind t_size t_kind t_number t_wrong t_wrongAt t_faultKind t_faultPlace t_x t_wayLong t_bothLeast, arI G (t_a 1) 558 t_all, arI G (t_a 16) 12 t_loss, arI G (t_a 17) 12 t_hops] H → va_D A [oX8 t_h t_a t_thrown t_taped t_at t_behind t_size t_kind t_number t_wrong t_wrongAt t_faultKind t_faultPlace t_x t_wayLong t_bothLeast, arI G (t_a 1) 558 t_all, arI G (t_a 16) 12 t_loss, arI G (t_a 17) 12 t_hops] → va_S A s.heap H locs → lv_has ls 8 [(0, .ref t_h), (1, .int v1), (2, .int v2), (3, .int v3), (4, .int l4)] → fX8_laysLoss_3 v1 K n l4 t_loss = some (o_t_loss, o_t_hops) → (∀ (kt_loss : Nat → Int32) (H : Heap) (locs : List Loc) (ls : Array Slot), va_P G.1 vwCl [oX8 t_h t_a t_thrown t_taped t_at t_behind t_size t_kind t_number t_wrong t_wrongAt t_faultKind t_faultPlace t_x t_wayLong t_bothLeast, arI G (t_a 1) 558 t_all, arI G (t_a 16) 12 kt_loss, arI G (t_a 17) 12 t_hops] H → va_D A [oX8 t_h t_a t_thrown t_taped t_at t_behind t_size t_kind t_number t_wrong t_wrongAt t_faultKind t_faultPlace t_x t_wayLong t_bothLeast, arI G (t_a 1) 558 t_all, arI G (t_a 16) 12 kt_loss, arI G (t_a 17) 12 t_hops] → va_S A s.heap H locs → lv_has ls 8 [(0, .ref t_h), (1, .int v1), (2, .int v2), (3, .int v3)] → K kt_loss = some (o_t_loss, o_t_hops) → W p l e ({ frames := 4, cells := 0, slots := 0, locals := 94 } : Room) s m args below meth c H locs 0 0 Q (F0 m 35 ls [])) → W p l e ({ frames := 4, cells := 0, slots := 0, locals := 94 } : Room) s m args below meth c H locs 0 0 Q (F0 m 3 ls []) := by
    intro t_hops K n
    induction n with
    | zero => intro l4 t_loss H locs ls hP hD hS hl hf; rw [fX8_laysLoss_3] at hf; cases hf
    | succ n ih =>
      intro l4 t_loss H locs ls hP hD hS hl hf hX
      rw [fX8_laysLoss_3] at hf
      refine lv_iload hx hb dX8_laysLoss_3 (lv_at hl 4 rfl) ?_
      refine lv_bipush (v := 12) hx hb dX8_laysLoss_5 (by decide) ?_
      refine lv_icmp_ge (tgt := 35) hx hb dX8_laysLoss_7 (by decide) (fun c_1 => ?_) (fun c_1 => ?_)
      · have hf := ip c_1 hf
        exact hX _ _ _ _ hP hD hS (lv_sub hl [0, 1, 2, 3] rfl) hf
      · have hf := iq c_1 hf
        refine lv_aload_n hx hb dX8_laysLoss_10 rfl (lv_at hl 0 rfl) ?_
        refine va_get (D := G.1) (ci := 8) (v := .ref (t_a 16)) (C := RX8) (T := TX8) (N := 33) hx hb hw inW8 hown hK.1 hP 0 rfl rfl 16 (by decide) (hw _ kw_5_16) (fun _ h9 => h9) rfl dX8_laysLoss_11 ?_
        refine lv_iload hx hb dX8_laysLoss_14 (lv_at hl 4 rfl) ?_
        refine lv_iload hx hb dX8_laysLoss_16 (lv_at hl 4 rfl) ?_
        refine lv_iload_n hx hb dX8_laysLoss_18 rfl (lv_at hl 1 rfl) ?_
        refine jn_el hf (fun k_3 ek_3 hf => ?_)
        have J28 : ∀ (z_2 : Int32) (H : Heap) (locs : List Loc) (ls : Array Slot), va_P G.1 vwCl [oX8 t_h t_a t_thrown t_taped t_at t_behind t_size t_kind t_number t_wrong t_wrongAt t_faultKind t_faultPlace t_x t_wayLong t_bothLeast, arI G (t_a 1) 558 t_all, arI G (t_a 16) 12 t_loss, arI G (t_a 17) 12 t_hops] H → va_D A [oX8 t_h t_a t_thrown t_taped t_at t_behind t_size t_kind t_number t_wrong t_wrongAt t_faultKind t_faultPlace t_x t_wayLong t_bothLeast, arI G (t_a 1) 558 t_all, arI G (t_a 16) 12 t_loss, arI G (t_a 17) 12 t_hops] → va_S A s.heap H locs → lv_has ls 8 [(0, .ref t_h), (1, .int v1), (2, .int v2), (3, .int v3), (4, .int l4)] → k_3 z_2 = some (o_t_loss, o_t_hops) → W p l e ({ frames := 4, cells := 0, slots := 0, locals := 94 } : Room) s m args below meth c H locs 0 0 Q (F0 m 28 ls [.int z_2, .int l4, .ref (t_a 16)]) := by
          intro z_2 H locs ls hP hD hS hl hf
          rw [ek_3] at hf
          obtain ⟨hi_5, hf⟩ := wrI_in hf
          refine xiast hx hb hK.1 hP hD hS 2 0 rfl rfl hi_5 dX8_laysLoss_28 (fun t_loss_4 H locs et_loss_4 hP hD hS => ?_)
          have hf := hf t_loss_4 et_loss_4
          have hP : va_P G.1 vwCl [oX8 t_h t_a t_thrown t_taped t_at t_behind t_size t_kind t_number t_wrong t_wrongAt t_faultKind t_faultPlace t_x t_wayLong t_bothLeast, arI G (t_a 1) 558 t_all, arI G (t_a 16) 12 t_loss_4, arI G (t_a 17) 12 t_hops] H := hP
          have hD : va_D A [oX8 t_h t_a t_thrown t_taped t_at t_behind t_size t_kind t_number t_wrong t_wrongAt t_faultKind t_faultPlace t_x t_wayLong t_bothLeast, arI G (t_a 1) 558 t_all, arI G (t_a 16) 12 t_loss_4, arI G (t_a 17) 12 t_hops] := hD
          refine lv_iinc (v := (l4 + 1)) (lv' := [(4, .int (l4 + 1)), (0, .ref t_h), (1, .int v1), (2, .int v2), (3, .int v3)]) hx hb dX8_laysLoss_29 hl (k := 4) rfl (by rfl) (by decide) rfl (fun ls hl => ?_)
          refine lv_goto (tgt := 3) hx hb dX8_laysLoss_32 (by decide) ?_
          exact ih _ _ _ _ _ hP hD hS (lv_sub hl [1, 2, 3, 4, 0] rfl) hf hX
        refine lv_icmp_ne (tgt := 26) hx hb dX8_laysLoss_19 (by decide) (fun c_6 => ?_) (fun c_6 => ?_)
        · have hf := iq c_6 hf
          refine lv_ldc hx hb hown (hw _ kw_29_22) dX8_laysLoss_26 ?_
          exact J28 _ _ _ _ hP hD hS (lv_sub hl [0, 1, 2, 3, 4] rfl) hf
        · have hf := ip c_6 hf
          refine lv_iconst (v := 0) hx hb dX8_laysLoss_22 (by decide) ?_
          refine lv_goto (tgt := 28) hx hb dX8_laysLoss_23 (by decide) ?_
          exact J28 _ _ _ _ hP hD hS (lv_sub hl [0, 1, 2, 3, 4] rfl) hf
  have L70 : ∀ (l5 : Int32) (K : Int32 → (Nat → Int32) → (Nat → Int32) → Option ((Nat → Int32) × (Nat → Int32))) (n : Nat) (l4 : Int32) (l6 : Int32) (t_loss : Nat → Int32) (t_hops : Nat → Int32) (H : Heap) (locs : List Loc) (ls : Array Slot), va_P G.1 vwCl [oX8 t_h t_a t_thrown t_taped t_at t_behind t_size t_kind t_number t_wrong t_wrongAt t_faultKind t_faultPlace t_x t_wayLong t_bothLeast, arI G (t_a 1) 558 t_all, arI G (t_a 16) 12 t_loss, arI G (t_a 17) 12 t_hops] H → va_D A [oX8 t_h t_a t_thrown t_taped t_at t_behind t_size t_kind t_number t_wrong t_wrongAt t_faultKind t_faultPlace t_x t_wayLong t_bothLeast, arI G (t_a 1) 558 t_all, arI G (t_a 16) 12 t_loss, arI G (t_a 17) 12 t_hops] → va_S A s.heap H locs → lv_has ls 8 [(0, .ref t_h), (2, .int v2), (3, .int v3), (4, .int l4), (5, .int l5), (6, .int l6)] → fX8_laysLoss_70 v2 v3 l5 t_all K n l4 l6 t_loss t_hops = some (o_t_loss, o_t_hops) → (∀ (k4 : Int32) (kt_loss : Nat → Int32) (kt_hops : Nat → Int32) (H : Heap) (locs : List Loc) (ls : Array Slot), va_P G.1 vwCl [oX8 t_h t_a t_thrown t_taped t_at t_behind t_size t_kind t_number t_wrong t_wrongAt t_faultKind t_faultPlace t_x t_wayLong t_bothLeast, arI G (t_a 1) 558 t_all, arI G (t_a 16) 12 kt_loss, arI G (t_a 17) 12 kt_hops] H → va_D A [oX8 t_h t_a t_thrown t_taped t_at t_behind t_size t_kind t_number t_wrong t_wrongAt t_faultKind t_faultPlace t_x t_wayLong t_bothLeast, arI G (t_a 1) 558 t_all, arI G (t_a 16) 12 kt_loss, arI G (t_a 17) 12 kt_hops] → va_S A s.heap H locs → lv_has ls 8 [(0, .ref t_h), (2, .int v2), (3, .int v3), (4, .int k4), (5, .int l5)] → K k4 kt_loss kt_hops = some (o_t_loss, o_t_hops) → W p l e ({ frames := 4, cells := 0, slots := 0, locals := 94 } : Room) s m args below meth c H locs 0 0 Q (F0 m 223 ls [])) → W p l e ({ frames := 4, cells := 0, slots := 0, locals := 94 } : Room) s m args below meth c H locs 0 0 Q (F0 m 70 ls []) := by
    intro l5 K n
    induction n with
    | zero => intro l4 l6 t_loss t_hops H locs ls hP hD hS hl hf; rw [fX8_laysLoss_70] at hf; cases hf
    | succ n ih =>
      intro l4 l6 t_loss t_hops H locs ls hP hD hS hl hf hX
      rw [fX8_laysLoss_70] at hf
      refine lv_iload hx hb dX8_laysLoss_70 (lv_at hl 5 rfl) ?_
      refine lv_aload_n hx hb dX8_laysLoss_72 rfl (lv_at hl 0 rfl) ?_
      refine va_get (D := G.1) (ci := 8) (v := .ref (t_a 1)) (C := RX8) (T := TX8) (N := 33) hx hb hw inW8 hown hK.1 hP 0 rfl rfl 1 (by decide) (hw _ kw_5_11) (fun _ h9 => h9) rfl dX8_laysLoss_73 ?_
      refine lv_iconst (v := 0) hx hb dX8_laysLoss_76 (by decide) ?_
      obtain ⟨hi_15, hf⟩ := rdI_in hf
      refine va_iald hx hb hK.1 hP 1 0 rfl rfl hi_15 dX8_laysLoss_77 ?_
      refine lv_topi (fun x_14 ex_14 => ?_)
      have hf := hf x_14 ex_14
      refine lv_icmp_ge (tgt := 223) hx hb dX8_laysLoss_78 (by decide) (fun c_16 => ?_) (fun c_16 => ?_)
      · have hf := ip c_16 hf
        exact hX _ _ _ _ _ _ hP hD hS (lv_sub hl [0, 1, 2, 3, 4] rfl) hf
      · have hf := iq c_16 hf
        refine lv_iload hx hb dX8_laysLoss_81 (lv_at hl 4 rfl) ?_
        refine lv_iload hx hb dX8_laysLoss_83 (lv_at hl 5 rfl) ?_
        refine lv_icmp_eq (tgt := 217) hx hb dX8_laysLoss_85 (by decide) (fun c_17 => ?_) (fun c_17 => ?_)
        · have hf := ip c_17 hf
          refine lv_iinc (v := (l6 + 1)) (lv' := [(6, .int (l6 + 1)), (0, .ref t_h), (2, .int v2), (3, .int v3), (4, .int l4), (5, .int l5)]) hx hb dX8_laysLoss_217 hl (k := 5) rfl (by rfl) (by decide) rfl (fun ls hl => ?_)
          refine lv_goto (tgt := 70) hx hb dX8_laysLoss_220 (by decide) ?_
          exact ih _ _ _ _ _ _ _ hP hD hS (lv_sub hl [1, 2, 3, 4, 5, 0] rfl) hf hX
        · have hf := iq c_17 hf
          refine lv_iload_n hx hb dX8_laysLoss_88 rfl (lv_at hl 1 rfl) ?_
          refine lv_iload hx hb dX8_laysLoss_89 (lv_at hl 4 rfl) ?_
          refine lv_ishr hx hb dX8_laysLoss_91 ?_
          refine lv_iconst (v := 1) hx hb dX8_laysLoss_92 (by decide) ?_
          refine lv_iand hx hb dX8_laysLoss_93 ?_
          refine lv_iconst (v := 1) hx hb dX8_laysLoss_94 (by decide) ?_
          refine lv_icmp_eq (tgt := 217) hx hb dX8_laysLoss_95 (by decide) (fun c_18 => ?_) (fun c_18 => ?_)
          · have hf := ip c_18 hf
            refine lv_iinc (v := (l6 + 1)) (lv' := [(6, .int (l6 + 1)), (0, .ref t_h), (2, .int v2), (3, .int v3), (4, .int l4), (5, .int l5)]) hx hb dX8_laysLoss_217 hl (k := 5) rfl (by rfl) (by decide) rfl (fun ls hl => ?_)
            refine lv_goto (tgt := 70) hx hb dX8_laysLoss_220 (by decide) ?_
            exact ih _ _ _ _ _ _ _ hP hD hS (lv_sub hl [1, 2, 3, 4, 5, 0] rfl) hf hX
          · have hf := iq c_18 hf
            refine lv_aload_n hx hb dX8_laysLoss_98 rfl (lv_at hl 0 rfl) ?_
            refine va_get (D := G.1) (ci := 8) (v := .ref (t_a 16)) (C := RX8) (T := TX8) (N := 33) hx hb hw inW8 hown hK.1 hP 0 rfl rfl 16 (by decide) (hw _ kw_5_16) (fun _ h9 => h9) rfl dX8_laysLoss_99 ?_
            refine lv_iload hx hb dX8_laysLoss_102 (lv_at hl 5 rfl) ?_
            obtain ⟨hi_20, hf⟩ := rdI_in hf
            refine va_iald hx hb hK.1 hP 2 0 rfl rfl hi_20 dX8_laysLoss_104 ?_
            refine lv_topi (fun x_19 ex_19 => ?_)
            have hf := hf x_19 ex_19
            refine lv_ldc hx hb hown (hw _ kw_29_22) dX8_laysLoss_105 ?_
            refine lv_icmp_eq (tgt := 217) hx hb dX8_laysLoss_107 (by decide) (fun c_21 => ?_) (fun c_21 => ?_)
            · have hf := ip c_21 hf
              refine lv_iinc (v := (l6 + 1)) (lv' := [(6, .int (l6 + 1)), (0, .ref t_h), (2, .int v2), (3, .int v3), (4, .int l4), (5, .int l5)]) hx hb dX8_laysLoss_217 hl (k := 5) rfl (by rfl) (by decide) rfl (fun ls hl => ?_)
              refine lv_goto (tgt := 70) hx hb dX8_laysLoss_220 (by decide) ?_
              exact ih _ _ _ _ _ _ _ hP hD hS (lv_sub hl [1, 2, 3, 4, 5, 0] rfl) hf hX
            · have hf := iq c_21 hf
              refine lv_aload_n hx hb dX8_laysLoss_110 rfl (lv_at hl 0 rfl) ?_
              refine lv_iload hx hb dX8_laysLoss_111 (lv_at hl 4 rfl) ?_
              refine lv_iload hx hb dX8_laysLoss_113 (lv_at hl 5 rfl) ?_
              refine lv_iload_n hx hb dX8_laysLoss_115 rfl (lv_at hl 2 rfl) ?_
              obtain ⟨r_22, hc_23, hf⟩ := bd1_in hf
              refine rcI (va_runV (As := [.int l5, .int l6, .int v3]) (rest := []) ⟨hx, hb, hml, hown, hw⟩ ((ctX8_talks l G t_h t_a t_thrown t_all t_taped t_at t_behind t_size t_kind t_number t_wrong t_wrongAt t_faultKind t_faultPlace t_x t_wayLong t_bothLeast l5 l6 v3 _ hc_23) _) (kV hw calX8_talks kw_20_12 rfl rfl ⟨Nat.le_of_ble_eq_true rfl, Nat.le_of_ble_eq_true rfl⟩) (rpV (hP.sub (ws' := [oX8 t_h t_a t_thrown t_taped t_at t_behind t_size t_kind t_number t_wrong t_wrongAt t_faultKind t_faultPlace t_x t_wayLong t_bothLeast, arI G (t_a 1) 558 t_all]) [0, 1] rfl) hK (ci := 8) (q0 := 0) rfl rfl) rfl rfl hl.1 rfl (lv_room (Nat.le_of_ble_eq_true rfl)) dX8_laysLoss_116 ⟨Nat.zero_le _, Nat.zero_le _⟩) hS hA hP (fun H locs hP hS => ?_)
              refine lv_if_ne (tgt := 125) hx hb dX8_laysLoss_119 (by decide) (fun c_24 => ?_) (fun c_24 => ?_)
              · have hf := iq c_24 hf
                refine lv_aload_n hx hb dX8_laysLoss_125 rfl (lv_at hl 0 rfl) ?_
                refine va_get (D := G.1) (ci := 8) (v := .ref (t_a 16)) (C := RX8) (T := TX8) (N := 33) hx hb hw inW8 hown hK.1 hP 0 rfl rfl 16 (by decide) (hw _ kw_5_16) (fun _ h9 => h9) rfl dX8_laysLoss_126 ?_
                refine lv_iload hx hb dX8_laysLoss_129 (lv_at hl 5 rfl) ?_
                obtain ⟨hi_26, hf⟩ := rdI_in hf
                refine va_iald hx hb hK.1 hP 2 0 rfl rfl hi_26 dX8_laysLoss_131 ?_
                refine lv_topi (fun x_25 ex_25 => ?_)
                have hf := hf x_25 ex_25
                refine lv_aload_n hx hb dX8_laysLoss_132 rfl (lv_at hl 0 rfl) ?_
                refine lv_iload hx hb dX8_laysLoss_133 (lv_at hl 4 rfl) ?_
                refine lv_iload hx hb dX8_laysLoss_135 (lv_at hl 5 rfl) ?_
                obtain ⟨r_27, hc_28, hf⟩ := bd1_in hf
                refine rcI (va_runV (As := [.int l5, .int l6]) (rest := [.int x_25]) ⟨hx, hb, hml, hown, hw⟩ ((ctX8_lossOf l G t_h t_a t_thrown t_all t_taped t_at t_behind t_size t_kind t_number t_wrong t_wrongAt t_faultKind t_faultPlace t_x t_wayLong t_bothLeast l5 l6 _ hc_28) _) (kV hw calX8_lossOf kw_22_15 rfl rfl ⟨Nat.le_of_ble_eq_true rfl, Nat.le_of_ble_eq_true rfl⟩) (rpV (hP.sub (ws' := [oX8 t_h t_a t_thrown t_taped t_at t_behind t_size t_kind t_number t_wrong t_wrongAt t_faultKind t_faultPlace t_x t_wayLong t_bothLeast, arI G (t_a 1) 558 t_all]) [0, 1] rfl) hK (ci := 8) (q0 := 0) rfl rfl) rfl rfl hl.1 rfl (lv_room (Nat.le_of_ble_eq_true rfl)) dX8_laysLoss_137 ⟨Nat.zero_le _, Nat.zero_le _⟩) hS hA hP (fun H locs hP hS => ?_)
                refine lv_iadd hx hb dX8_laysLoss_140 ?_
                refine lv_topi (fun y_29 ey_29 => ?_)
                have hf := bnd_all hf y_29 ey_29
                refine lv_istore (lv' := [(7, .int y_29), (0, .ref t_h), (2, .int v2), (3, .int v3), (4, .int l4), (5, .int l5), (6, .int l6)]) hx hb dX8_laysLoss_141 hl (by decide) rfl (fun ls hl => ?_)
                refine lv_iload hx hb dX8_laysLoss_143 (lv_at hl 0 rfl) ?_
                refine lv_aload_n hx hb dX8_laysLoss_145 rfl (lv_at hl 1 rfl) ?_
                refine va_get (D := G.1) (ci := 8) (v := .ref (t_a 16)) (C := RX8) (T := TX8) (N := 33) hx hb hw inW8 hown hK.1 hP 0 rfl rfl 16 (by decide) (hw _ kw_5_16) (fun _ h9 => h9) rfl dX8_laysLoss_146 ?_
                refine lv_iload hx hb dX8_laysLoss_149 (lv_at hl 5 rfl) ?_
                obtain ⟨hi_31, hf⟩ := rdI_in hf
                refine va_iald hx hb hK.1 hP 2 0 rfl rfl hi_31 dX8_laysLoss_151 ?_
                refine lv_topi (fun x_30 ex_30 => ?_)
                have hf := hf x_30 ex_30
                refine lv_icmp_gt (tgt := 217) hx hb dX8_laysLoss_152 (by decide) (fun c_32 => ?_) (fun c_32 => ?_)
                · have hf := ip c_32 hf
                  refine lv_iinc (v := (l6 + 1)) (lv' := [(6, .int (l6 + 1)), (7, .int y_29), (0, .ref t_h), (2, .int v2), (3, .int v3), (4, .int l4), (5, .int l5)]) hx hb dX8_laysLoss_217 hl (k := 6) rfl (by rfl) (by decide) rfl (fun ls hl => ?_)
                  refine lv_goto (tgt := 70) hx hb dX8_laysLoss_220 (by decide) ?_
                  exact ih _ _ _ _ _ _ _ hP hD hS (lv_sub hl [2, 3, 4, 5, 6, 0] rfl) hf hX
                · have hf := iq c_32 hf
                  refine lv_iload hx hb dX8_laysLoss_155 (lv_at hl 0 rfl) ?_
                  refine lv_aload_n hx hb dX8_laysLoss_157 rfl (lv_at hl 1 rfl) ?_
                  refine va_get (D := G.1) (ci := 8) (v := .ref (t_a 16)) (C := RX8) (T := TX8) (N := 33) hx hb hw inW8 hown hK.1 hP 0 rfl rfl 16 (by decide) (hw _ kw_5_16) (fun _ h9 => h9) rfl dX8_laysLoss_158 ?_
                  refine lv_iload hx hb dX8_laysLoss_161 (lv_at hl 5 rfl) ?_
                  obtain ⟨hi_34, hf⟩ := rdI_in hf
                  refine va_iald hx hb hK.1 hP 2 0 rfl rfl hi_34 dX8_laysLoss_163 ?_
                  refine lv_topi (fun x_33 ex_33 => ?_)
                  have hf := hf x_33 ex_33
                  refine jn_el hf (fun k_35 ek_35 hf => ?_)
                  have J189 : ∀  (H : Heap) (locs : List Loc) (ls : Array Slot), va_P G.1 vwCl [oX8 t_h t_a t_thrown t_taped t_at t_behind t_size t_kind t_number t_wrong t_wrongAt t_faultKind t_faultPlace t_x t_wayLong t_bothLeast, arI G (t_a 1) 558 t_all, arI G (t_a 16) 12 t_loss, arI G (t_a 17) 12 t_hops] H → va_D A [oX8 t_h t_a t_thrown t_taped t_at t_behind t_size t_kind t_number t_wrong t_wrongAt t_faultKind t_faultPlace t_x t_wayLong t_bothLeast, arI G (t_a 1) 558 t_all, arI G (t_a 16) 12 t_loss, arI G (t_a 17) 12 t_hops] → va_S A s.heap H locs → lv_has ls 8 [(0, .ref t_h), (2, .int v2), (3, .int v3), (5, .int l5), (6, .int l6), (7, .int y_29)] → k_35 = some (o_t_loss, o_t_hops) → W p l e ({ frames := 4, cells := 0, slots := 0, locals := 94 } : Room) s m args below meth c H locs 0 0 Q (F0 m 189 ls []) := by
                    intro  H locs ls hP hD hS hl hf
                    rw [ek_35] at hf
                    refine lv_aload_n hx hb dX8_laysLoss_189 rfl (lv_at hl 0 rfl) ?_
                    refine va_get (D := G.1) (ci := 8) (v := .ref (t_a 16)) (C := RX8) (T := TX8) (N := 33) hx hb hw inW8 hown hK.1 hP 0 rfl rfl 16 (by decide) (hw _ kw_5_16) (fun _ h9 => h9) rfl dX8_laysLoss_190 ?_
                    refine lv_iload hx hb dX8_laysLoss_193 (lv_at hl 3 rfl) ?_
                    refine lv_iload hx hb dX8_laysLoss_195 (lv_at hl 5 rfl) ?_
                    obtain ⟨hi_37, hf⟩ := wrI_in hf
                    refine xiast hx hb hK.1 hP hD hS 2 0 rfl rfl hi_37 dX8_laysLoss_197 (fun t_loss_36 H locs et_loss_36 hP hD hS => ?_)
                    have hf := hf t_loss_36 et_loss_36
                    have hP : va_P G.1 vwCl [oX8 t_h t_a t_thrown t_taped t_at t_behind t_size t_kind t_number t_wrong t_wrongAt t_faultKind t_faultPlace t_x t_wayLong t_bothLeast, arI G (t_a 1) 558 t_all, arI G (t_a 16) 12 t_loss_36, arI G (t_a 17) 12 t_hops] H := hP
                    have hD : va_D A [oX8 t_h t_a t_thrown t_taped t_at t_behind t_size t_kind t_number t_wrong t_wrongAt t_faultKind t_faultPlace t_x t_wayLong t_bothLeast, arI G (t_a 1) 558 t_all, arI G (t_a 16) 12 t_loss_36, arI G (t_a 17) 12 t_hops] := hD
                    refine lv_aload_n hx hb dX8_laysLoss_198 rfl (lv_at hl 0 rfl) ?_
                    refine va_get (D := G.1) (ci := 8) (v := .ref (t_a 17)) (C := RX8) (T := TX8) (N := 33) hx hb hw inW8 hown hK.1 hP 0 rfl rfl 17 (by decide) (hw _ kw_5_17) (fun _ h9 => h9) rfl dX8_laysLoss_199 ?_
                    refine lv_iload hx hb dX8_laysLoss_202 (lv_at hl 3 rfl) ?_
                    refine lv_aload_n hx hb dX8_laysLoss_204 rfl (lv_at hl 0 rfl) ?_
                    refine va_get (D := G.1) (ci := 8) (v := .ref (t_a 17)) (C := RX8) (T := TX8) (N := 33) hx hb hw inW8 hown hK.1 hP 0 rfl rfl 17 (by decide) (hw _ kw_5_17) (fun _ h9 => h9) rfl dX8_laysLoss_205 ?_
                    refine lv_iload hx hb dX8_laysLoss_208 (lv_at hl 4 rfl) ?_
                    obtain ⟨hi_39, hf⟩ := rdI_in hf
                    refine va_iald hx hb hK.1 hP 3 0 rfl rfl hi_39 dX8_laysLoss_210 ?_
                    refine lv_topi (fun x_38 ex_38 => ?_)
                    have hf := hf x_38 ex_38
                    refine lv_iconst (v := 1) hx hb dX8_laysLoss_211 (by decide) ?_
                    refine lv_iadd hx hb dX8_laysLoss_212 ?_
                    obtain ⟨hi_41, hf⟩ := wrI_in hf
                    refine xiast hx hb hK.1 hP hD hS 3 0 rfl rfl hi_41 dX8_laysLoss_213 (fun t_hops_40 H locs et_hops_40 hP hD hS => ?_)
                    have hf := hf t_hops_40 et_hops_40
                    have hP : va_P G.1 vwCl [oX8 t_h t_a t_thrown t_taped t_at t_behind t_size t_kind t_number t_wrong t_wrongAt t_faultKind t_faultPlace t_x t_wayLong t_bothLeast, arI G (t_a 1) 558 t_all, arI G (t_a 16) 12 t_loss_36, arI G (t_a 17) 12 t_hops_40] H := hP
                    have hD : va_D A [oX8 t_h t_a t_thrown t_taped t_at t_behind t_size t_kind t_number t_wrong t_wrongAt t_faultKind t_faultPlace t_x t_wayLong t_bothLeast, arI G (t_a 1) 558 t_all, arI G (t_a 16) 12 t_loss_36, arI G (t_a 17) 12 t_hops_40] := hD
                    refine lv_iconst (v := 1) hx hb dX8_laysLoss_214 (by decide) ?_
                    refine lv_istore (lv' := [(4, .int 1), (0, .ref t_h), (2, .int v2), (3, .int v3), (5, .int l5), (6, .int l6), (7, .int y_29)]) hx hb dX8_laysLoss_215 hl (by decide) rfl (fun ls hl => ?_)
                    refine lv_iinc (v := (l6 + 1)) (lv' := [(6, .int (l6 + 1)), (4, .int 1), (0, .ref t_h), (2, .int v2), (3, .int v3), (5, .int l5), (7, .int y_29)]) hx hb dX8_laysLoss_217 hl (k := 5) rfl (by rfl) (by decide) rfl (fun ls hl => ?_)
                    refine lv_goto (tgt := 70) hx hb dX8_laysLoss_220 (by decide) ?_
                    exact ih _ _ _ _ _ _ _ hP hD hS (lv_sub hl [2, 3, 4, 1, 5, 0] rfl) hf hX
                  refine lv_icmp_ne (tgt := 189) hx hb dX8_laysLoss_164 (by decide) (fun c_42 => ?_) (fun c_42 => ?_)
                  · have hf := iq c_42 hf
                    exact J189  _ _ _ hP hD hS (lv_sub hl [1, 2, 3, 5, 6, 0] rfl) hf
                  · have hf := ip c_42 hf
                    refine lv_aload_n hx hb dX8_laysLoss_167 rfl (lv_at hl 1 rfl) ?_
                    refine va_get (D := G.1) (ci := 8) (v := .ref (t_a 17)) (C := RX8) (T := TX8) (N := 33) hx hb hw inW8 hown hK.1 hP 0 rfl rfl 17 (by decide) (hw _ kw_5_17) (fun _ h9 => h9) rfl dX8_laysLoss_168 ?_
                    refine lv_iload hx hb dX8_laysLoss_171 (lv_at hl 6 rfl) ?_
                    obtain ⟨hi_44, hf⟩ := rdI_in hf
                    refine va_iald hx hb hK.1 hP 3 0 rfl rfl hi_44 dX8_laysLoss_173 ?_
                    refine lv_topi (fun x_43 ex_43 => ?_)
                    have hf := hf x_43 ex_43
                    refine lv_iconst (v := 1) hx hb dX8_laysLoss_174 (by decide) ?_
                    refine lv_iadd hx hb dX8_laysLoss_175 ?_
                    refine lv_aload_n hx hb dX8_laysLoss_176 rfl (lv_at hl 1 rfl) ?_
                    refine va_get (D := G.1) (ci := 8) (v := .ref (t_a 17)) (C := RX8) (T := TX8) (N := 33) hx hb hw inW8 hown hK.1 hP 0 rfl rfl 17 (by decide) (hw _ kw_5_17) (fun _ h9 => h9) rfl dX8_laysLoss_177 ?_
                    refine lv_iload hx hb dX8_laysLoss_180 (lv_at hl 5 rfl) ?_
                    obtain ⟨hi_46, hf⟩ := rdI_in hf
                    refine va_iald hx hb hK.1 hP 3 0 rfl rfl hi_46 dX8_laysLoss_182 ?_
                    refine lv_topi (fun x_45 ex_45 => ?_)
                    have hf := hf x_45 ex_45
                    refine lv_icmp_lt (tgt := 189) hx hb dX8_laysLoss_183 (by decide) (fun c_47 => ?_) (fun c_47 => ?_)
                    · have hf := ip c_47 hf
                      exact J189  _ _ _ hP hD hS (lv_sub hl [1, 2, 3, 5, 6, 0] rfl) hf
                    · have hf := iq c_47 hf
                      refine lv_goto (tgt := 217) hx hb dX8_laysLoss_186 (by decide) ?_
                      refine lv_iinc (v := (l6 + 1)) (lv' := [(6, .int (l6 + 1)), (7, .int y_29), (0, .ref t_h), (2, .int v2), (3, .int v3), (4, .int l4), (5, .int l5)]) hx hb dX8_laysLoss_217 hl (k := 6) rfl (by rfl) (by decide) rfl (fun ls hl => ?_)
                      refine lv_goto (tgt := 70) hx hb dX8_laysLoss_220 (by decide) ?_
                      exact ih _ _ _ _ _ _ _ hP hD hS (lv_sub hl [2, 3, 4, 5, 6, 0] rfl) hf hX
              · have hf := ip c_24 hf
                refine lv_goto (tgt := 217) hx hb dX8_laysLoss_122 (by decide) ?_
                refine lv_iinc (v := (l6 + 1)) (lv' := [(6, .int (l6 + 1)), (0, .ref t_h), (2, .int v2), (3, .int v3), (4, .int l4), (5, .int l5)]) hx hb dX8_laysLoss_217 hl (k := 5) rfl (by rfl) (by decide) rfl (fun ls hl => ?_)
                refine lv_goto (tgt := 70) hx hb dX8_laysLoss_220 (by decide) ?_
                exact ih _ _ _ _ _ _ _ hP hD hS (lv_sub hl [1, 2, 3, 4, 5, 0] rfl) hf hX
  have L56 : ∀  (K : Int32 → (Nat → Int32) → (Nat → Int32) → Option ((Nat → Int32) × (Nat → Int32))) (n : Nat) (l4 : Int32) (l5 : Int32) (t_loss : Nat → Int32) (t_hops : Nat → Int32) (H : Heap) (locs : List Loc) (ls : Array Slot), va_P G.1 vwCl [oX8 t_h t_a t_thrown t_taped t_at t_behind t_size t_kind t_number t_wrong t_wrongAt t_faultKind t_faultPlace t_x t_wayLong t_bothLeast, arI G (t_a 1) 558 t_all, arI G (t_a 16) 12 t_loss, arI G (t_a 17) 12 t_hops] H → va_D A [oX8 t_h t_a t_thrown t_taped t_at t_behind t_size t_kind t_number t_wrong t_wrongAt t_faultKind t_faultPlace t_x t_wayLong t_bothLeast, arI G (t_a 1) 558 t_all, arI G (t_a 16) 12 t_loss, arI G (t_a 17) 12 t_hops] → va_S A s.heap H locs → lv_has ls 8 [(0, .ref t_h), (2, .int v2), (3, .int v3), (4, .int l4), (5, .int l5)] → fX8_laysLoss_56 v2 v3 t_all K n l4 l5 t_loss t_hops = some (o_t_loss, o_t_hops) → (∀ (k4 : Int32) (kt_loss : Nat → Int32) (kt_hops : Nat → Int32) (H : Heap) (locs : List Loc) (ls : Array Slot), va_P G.1 vwCl [oX8 t_h t_a t_thrown t_taped t_at t_behind t_size t_kind t_number t_wrong t_wrongAt t_faultKind t_faultPlace t_x t_wayLong t_bothLeast, arI G (t_a 1) 558 t_all, arI G (t_a 16) 12 kt_loss, arI G (t_a 17) 12 kt_hops] H → va_D A [oX8 t_h t_a t_thrown t_taped t_at t_behind t_size t_kind t_number t_wrong t_wrongAt t_faultKind t_faultPlace t_x t_wayLong t_bothLeast, arI G (t_a 1) 558 t_all, arI G (t_a 16) 12 kt_loss, arI G (t_a 17) 12 kt_hops] → va_S A s.heap H locs → lv_has ls 8 [(0, .ref t_h), (2, .int v2), (3, .int v3), (4, .int k4)] → K k4 kt_loss kt_hops = some (o_t_loss, o_t_hops) → W p l e ({ frames := 4, cells := 0, slots := 0, locals := 94 } : Room) s m args below meth c H locs 0 0 Q (F0 m 229 ls [])) → W p l e ({ frames := 4, cells := 0, slots := 0, locals := 94 } : Room) s m args below meth c H locs 0 0 Q (F0 m 56 ls []) := by
    intro  K n
    induction n with
    | zero => intro l4 l5 t_loss t_hops H locs ls hP hD hS hl hf; rw [fX8_laysLoss_56] at hf; cases hf
    | succ n ih =>
      intro l4 l5 t_loss t_hops H locs ls hP hD hS hl hf hX
      rw [fX8_laysLoss_56] at hf
      refine lv_iload hx hb dX8_laysLoss_56 (lv_at hl 4 rfl) ?_
      refine lv_aload_n hx hb dX8_laysLoss_58 rfl (lv_at hl 0 rfl) ?_
      refine va_get (D := G.1) (ci := 8) (v := .ref (t_a 1)) (C := RX8) (T := TX8) (N := 33) hx hb hw inW8 hown hK.1 hP 0 rfl rfl 1 (by decide) (hw _ kw_5_11) (fun _ h9 => h9) rfl dX8_laysLoss_59 ?_
      refine lv_iconst (v := 0) hx hb dX8_laysLoss_62 (by decide) ?_
      obtain ⟨hi_12, hf⟩ := rdI_in hf
      refine va_iald hx hb hK.1 hP 1 0 rfl rfl hi_12 dX8_laysLoss_63 ?_
      refine lv_topi (fun x_11 ex_11 => ?_)
      have hf := hf x_11 ex_11
      refine lv_icmp_ge (tgt := 229) hx hb dX8_laysLoss_64 (by decide) (fun c_13 => ?_) (fun c_13 => ?_)
      · have hf := ip c_13 hf
        exact hX _ _ _ _ _ _ hP hD hS (lv_sub hl [0, 1, 2, 3] rfl) hf
      · have hf := iq c_13 hf
        refine lv_iconst (v := 0) hx hb dX8_laysLoss_67 (by decide) ?_
        refine lv_istore (lv' := [(6, .int 0), (0, .ref t_h), (2, .int v2), (3, .int v3), (4, .int l4), (5, .int l5)]) hx hb dX8_laysLoss_68 hl (by decide) rfl (fun ls hl => ?_)
        refine L70 _ _ _ _ _ _ _ _ _ _ hP hD hS (lv_sub hl [1, 2, 3, 4, 5, 0] rfl) hf (fun w_48 t_loss_49 t_hops_50 H locs ls hP hD hS hl hf => ?_)
        refine lv_iinc (v := (l5 + 1)) (lv' := [(5, .int (l5 + 1)), (0, .ref t_h), (2, .int v2), (3, .int v3), (4, .int w_48)]) hx hb dX8_laysLoss_223 hl (k := 4) rfl (by rfl) (by decide) rfl (fun ls hl => ?_)
        refine lv_goto (tgt := 56) hx hb dX8_laysLoss_226 (by decide) ?_
        exact ih _ _ _ _ _ _ _ hP hD hS (lv_sub hl [1, 2, 3, 4, 0] rfl) hf hX
  have L45 : ∀  (K : (Nat → Int32) → (Nat → Int32) → Option ((Nat → Int32) × (Nat → Int32))) (n : Nat) (l4 : Int32) (t_loss : Nat → Int32) (t_hops : Nat → Int32) (H : Heap) (locs : List Loc) (ls : Array Slot), va_P G.1 vwCl [oX8 t_h t_a t_thrown t_taped t_at t_behind t_size t_kind t_number t_wrong t_wrongAt t_faultKind t_faultPlace t_x t_wayLong t_bothLeast, arI G (t_a 1) 558 t_all, arI G (t_a 16) 12 t_loss, arI G (t_a 17) 12 t_hops] H → va_D A [oX8 t_h t_a t_thrown t_taped t_at t_behind t_size t_kind t_number t_wrong t_wrongAt t_faultKind t_faultPlace t_x t_wayLong t_bothLeast, arI G (t_a 1) 558 t_all, arI G (t_a 16) 12 t_loss, arI G (t_a 17) 12 t_hops] → va_S A s.heap H locs → lv_has ls 8 [(0, .ref t_h), (2, .int v2), (3, .int v3), (4, .int l4)] → fX8_laysLoss_45 v2 v3 t_all K n l4 t_loss t_hops = some (o_t_loss, o_t_hops) → (∀ (kt_loss : Nat → Int32) (kt_hops : Nat → Int32) (H : Heap) (locs : List Loc) (ls : Array Slot), va_P G.1 vwCl [oX8 t_h t_a t_thrown t_taped t_at t_behind t_size t_kind t_number t_wrong t_wrongAt t_faultKind t_faultPlace t_x t_wayLong t_bothLeast, arI G (t_a 1) 558 t_all, arI G (t_a 16) 12 kt_loss, arI G (t_a 17) 12 kt_hops] H → va_D A [oX8 t_h t_a t_thrown t_taped t_at t_behind t_size t_kind t_number t_wrong t_wrongAt t_faultKind t_faultPlace t_x t_wayLong t_bothLeast, arI G (t_a 1) 558 t_all, arI G (t_a 16) 12 kt_loss, arI G (t_a 17) 12 kt_hops] → va_S A s.heap H locs → lv_has ls 8 [] → K kt_loss kt_hops = some (o_t_loss, o_t_hops) → W p l e ({ frames := 4, cells := 0, slots := 0, locals := 94 } : Room) s m args below meth c H locs 0 0 Q (F0 m 232 ls [])) → W p l e ({ frames := 4, cells := 0, slots := 0, locals := 94 } : Room) s m args below meth c H locs 0 0 Q (F0 m 45 ls []) := by
    intro  K n
    induction n with
    | zero => intro l4 t_loss t_hops H locs ls hP hD hS hl hf; rw [fX8_laysLoss_45] at hf; cases hf
    | succ n ih =>
      intro l4 t_loss t_hops H locs ls hP hD hS hl hf hX
      rw [fX8_laysLoss_45] at hf
      refine lv_iload hx hb dX8_laysLoss_45 (lv_at hl 3 rfl) ?_
      refine lv_if_eq (tgt := 232) hx hb dX8_laysLoss_47 (by decide) (fun c_10 => ?_) (fun c_10 => ?_)
      · have hf := ip c_10 hf
        exact hX _ _ _ _ _ hP hD hS (lv_sub hl [] rfl) hf
      · have hf := iq c_10 hf
        refine lv_iconst (v := 0) hx hb dX8_laysLoss_50 (by decide) ?_
        refine lv_istore (lv' := [(4, .int 0), (0, .ref t_h), (2, .int v2), (3, .int v3)]) hx hb dX8_laysLoss_51 hl (by decide) rfl (fun ls hl => ?_)
        refine lv_iconst (v := 0) hx hb dX8_laysLoss_53 (by decide) ?_
        refine lv_istore (lv' := [(5, .int 0), (4, .int 0), (0, .ref t_h), (2, .int v2), (3, .int v3)]) hx hb dX8_laysLoss_54 hl (by decide) rfl (fun ls hl => ?_)
        refine L56  _ _ _ _ _ _ _ _ _ hP hD hS (lv_sub hl [2, 3, 4, 1, 0] rfl) hf (fun w_51 t_loss_52 t_hops_53 H locs ls hP hD hS hl hf => ?_)
        refine lv_goto (tgt := 45) hx hb dX8_laysLoss_229 (by decide) ?_
        exact ih _ _ _ _ _ _ hP hD hS (lv_sub hl [0, 1, 2, 3] rfl) hf hX
  unfold fX8_laysLoss at hf
  refine lv_iconst (v := 0) hx hb dX8_laysLoss_0 (by decide) ?_
  refine lv_istore (lv' := [(4, .int 0), (0, .ref t_h), (1, .int v1), (2, .int v2), (3, .int v3)]) hx hb dX8_laysLoss_1 hl (by decide) rfl (fun ls hl => ?_)
  refine L3 _ _ _ _ _ _ _ _ hP hD hS (lv_sub hl [1, 2, 3, 4, 0] rfl) hf (fun t_loss_7 H locs ls hP hD hS hl hf => ?_)
  refine lv_aload_n hx hb dX8_laysLoss_35 rfl (lv_at hl 0 rfl) ?_
  refine va_get (D := G.1) (ci := 8) (v := .ref (t_a 17)) (C := RX8) (T := TX8) (N := 33) hx hb hw inW8 hown hK.1 hP 0 rfl rfl 17 (by decide) (hw _ kw_5_17) (fun _ h9 => h9) rfl dX8_laysLoss_36 ?_
  refine lv_iload_n hx hb dX8_laysLoss_39 rfl (lv_at hl 1 rfl) ?_
  refine lv_iconst (v := 0) hx hb dX8_laysLoss_40 (by decide) ?_
  obtain ⟨hi_9, hf⟩ := wrI_in hf
  refine xiast hx hb hK.1 hP hD hS 3 0 rfl rfl hi_9 dX8_laysLoss_41 (fun t_hops_8 H locs et_hops_8 hP hD hS => ?_)
  have hf := hf t_hops_8 et_hops_8
  have hP : va_P G.1 vwCl [oX8 t_h t_a t_thrown t_taped t_at t_behind t_size t_kind t_number t_wrong t_wrongAt t_faultKind t_faultPlace t_x t_wayLong t_bothLeast, arI G (t_a 1) 558 t_all, arI G (t_a 16) 12 t_loss_7, arI G (t_a 17) 12 t_hops_8] H := hP
  have hD : va_D A [oX8 t_h t_a t_thrown t_taped t_at t_behind t_size t_kind t_number t_wrong t_wrongAt t_faultKind t_faultPlace t_x t_wayLong t_bothLeast, arI G (t_a 1) 558 t_all, arI G (t_a 16) 12 t_loss_7, arI G (t_a 17) 12 t_hops_8] := hD
  refine lv_iconst (v := 1) hx hb dX8_laysLoss_42 (by decide) ?_
  refine lv_istore (lv' := [(4, .int 1), (0, .ref t_h), (1, .int v1), (2, .int v2), (3, .int v3)]) hx hb dX8_laysLoss_43 hl (by decide) rfl (fun ls hl => ?_)
  refine L45  _ _ _ _ _ _ _ _ hP hD hS (lv_sub hl [1, 3, 4, 0] rfl) hf (fun t_loss_54 t_hops_55 H locs ls hP hD hS hl hf => ?_)
  exact hRet _ _ _ _ _ _ hf hP hS dX8_laysLoss_232
