theorem calX8_walks : CalV yX8_walks cX8_walks 6 none 2 := ⟨⟨kw_30_11, kw_1_5, by decide +kernel⟩, kw_30_9, kw_30_10⟩
set_option maxHeartbeats 8000000 in
set_option maxRecDepth 100000 in
theorem ctX8_walks (l : Launch) (G : GT) (t_h : Nat) (t_a : Nat → Nat) (t_thrown : Int32) (t_all : Nat → Int32) (t_taped : Int32) (t_at : Int32) (t_behind : Int32) (t_size : Int32) (t_kind : Int32) (t_number : Int32) (t_wrong : Int32) (t_wrongAt : Int32) (t_faultKind : Int32) (t_faultPlace : Int32) (t_x : Int32) (t_loss : Nat → Int32) (t_hops : Nat → Int32) (t_way : Nat → Int32) (t_wayLong : Int32) (t_bothLeast : Int32) (v1 : Int32) (v2 : Int32) (o_t_way : Nat → Int32) (o_t_wayLong : Int32) (hf : fX8_walks t_all t_loss t_hops t_way t_wayLong v1 v2 = some (o_t_way, o_t_wayLong)) : WrV l yX8_walks (Cond.code yX8_walks cX8_walks 6 none) { frames := 4, cells := 0, slots := 0, locals := 94 } G [.ref t_h, .int v1, .int v2] [oX8 t_h t_a t_thrown t_taped t_at t_behind t_size t_kind t_number t_wrong t_wrongAt t_faultKind t_faultPlace t_x t_wayLong t_bothLeast, arI G (t_a 1) 558 t_all, arI G (t_a 16) 12 t_loss, arI G (t_a 17) 12 t_hops, arI G (t_a 18) 12 t_way] [oX8 t_h t_a t_thrown t_taped t_at t_behind t_size t_kind t_number t_wrong t_wrongAt t_faultKind t_faultPlace t_x o_t_wayLong t_bothLeast, arI G (t_a 1) 558 t_all, arI G (t_a 16) 12 t_loss, arI G (t_a 17) 12 t_hops, arI G (t_a 18) 12 o_t_way] := by
  intro sz
  refine Met.ofW (cc := cX8_walks) (maxL := 6) (ret := none) (by decide) rfl ?_
  intro p e s m args below meth c s₁ B hml hv
  obtain ⟨hargs, hsz, hP, hD0, hK⟩ := hv
  subst hsz
  obtain ⟨hx, hb, hr, hw, hown, hlk⟩ := fwB B
  refine fw_enter hargs (Nat.le_of_ble_eq_true rfl) (fun ls hl => ?_)
  have hl : lv_has ls 6 [(0, .ref t_h), (1, .int v1), (2, .int v2)] := hl
  refine fw_Q (P := fun Q => ∃ A : Nat → Prop, va_D A [oX8 t_h t_a t_thrown t_taped t_at t_behind t_size t_kind t_number t_wrong t_wrongAt t_faultKind t_faultPlace t_x t_wayLong t_bothLeast, arI G (t_a 1) 558 t_all, arI G (t_a 16) 12 t_loss, arI G (t_a 17) 12 t_hops, arI G (t_a 18) 12 t_way] ∧ va_S A s.heap s.heap [] ∧ (∀ q, s.heap.size ≤ q → A q) ∧ ∀ (n_t_way : Nat → Int32) (n_t_wayLong : Int32) (H : Heap) (locs : List Loc) (pc : Nat) (ls : Array Slot), some (n_t_way, n_t_wayLong) = some (o_t_way, o_t_wayLong) → va_P G.1 vwCl [oX8 t_h t_a t_thrown t_taped t_at t_behind t_size t_kind t_number t_wrong t_wrongAt t_faultKind t_faultPlace t_x n_t_wayLong t_bothLeast, arI G (t_a 1) 558 t_all, arI G (t_a 16) 12 t_loss, arI G (t_a 17) 12 t_hops, arI G (t_a 18) 12 n_t_way] H → va_S A s.heap H locs → decode cX8_walks pc = .ok (.return_, 1) → W p l e ({ frames := 4, cells := 0, slots := 0, locals := 94 } : Room) s m args below meth c H locs 0 0 Q (F0 m pc ls [])) ⟨va_A [oX8 t_h t_a t_thrown t_taped t_at t_behind t_size t_kind t_number t_wrong t_wrongAt t_faultKind t_faultPlace t_x t_wayLong t_bothLeast, arI G (t_a 1) 558 t_all, arI G (t_a 16) 12 t_loss, arI G (t_a 17) 12 t_hops, arI G (t_a 18) 12 t_way] s.heap.size, hD0.self (sz := s.heap.size), va_S.rf, fun q h => Or.inr h, ?_⟩ ?_
  · intro n_t_way n_t_wayLong H locs pc ls h hP hS hd
    cases h
    exact retWV hx hb hr hlk hS hP hd
  rintro Q ⟨A, hD, hS, hA, hRet⟩
  change W p l e ({ frames := 4, cells := 0, slots := 0, locals := 94 } : Room) s m args below meth c _ _ 0 0 Q _
  have L40 : ∀ (l3 : Int32) (l4 : Int32) (t_way : Nat → Int32) (t_wayLong : Int32) (K : Int32 → Option ((Nat → Int32) × Int32)) (n : Nat) (l5 : Int32) (H : Heap) (locs : List Loc) (ls : Array Slot), va_P G.1 vwCl [oX8 t_h t_a t_thrown t_taped t_at t_behind t_size t_kind t_number t_wrong t_wrongAt t_faultKind t_faultPlace t_x t_wayLong t_bothLeast, arI G (t_a 1) 558 t_all, arI G (t_a 16) 12 t_loss, arI G (t_a 17) 12 t_hops, arI G (t_a 18) 12 t_way] H → va_D A [oX8 t_h t_a t_thrown t_taped t_at t_behind t_size t_kind t_number t_wrong t_wrongAt t_faultKind t_faultPlace t_x t_wayLong t_bothLeast, arI G (t_a 1) 558 t_all, arI G (t_a 16) 12 t_loss, arI G (t_a 17) 12 t_hops, arI G (t_a 18) 12 t_way] → va_S A s.heap H locs → lv_has ls 6 [(0, .ref t_h), (2, .int v2), (3, .int l3), (4, .int l4), (5, .int l5)] → fX8_walks_40 v2 l4 t_all t_loss t_hops K n l5 = some (o_t_way, o_t_wayLong) → (∀ (k5 : Int32) (H : Heap) (locs : List Loc) (ls : Array Slot), va_P G.1 vwCl [oX8 t_h t_a t_thrown t_taped t_at t_behind t_size t_kind t_number t_wrong t_wrongAt t_faultKind t_faultPlace t_x t_wayLong t_bothLeast, arI G (t_a 1) 558 t_all, arI G (t_a 16) 12 t_loss, arI G (t_a 17) 12 t_hops, arI G (t_a 18) 12 t_way] H → va_D A [oX8 t_h t_a t_thrown t_taped t_at t_behind t_size t_kind t_number t_wrong t_wrongAt t_faultKind t_faultPlace t_x t_wayLong t_bothLeast, arI G (t_a 1) 558 t_all, arI G (t_a 16) 12 t_loss, arI G (t_a 17) 12 t_hops, arI G (t_a 18) 12 t_way] → va_S A s.heap H locs → lv_has ls 6 [(0, .ref t_h), (2, .int v2), (3, .int l3), (5, .int k5)] → K k5 = some (o_t_way, o_t_wayLong) → W p l e ({ frames := 4, cells := 0, slots := 0, locals := 94 } : Room) s m args below meth c H locs 0 0 Q (F0 m 137 ls [])) → W p l e ({ frames := 4, cells := 0, slots := 0, locals := 94 } : Room) s m args below meth c H locs 0 0 Q (F0 m 40 ls []) := by
    intro l3 l4 t_way t_wayLong K n
    induction n with
    | zero => intro l5 H locs ls hP hD hS hl hf; rw [fX8_walks_40] at hf; cases hf
    | succ n ih =>
      intro l5 H locs ls hP hD hS hl hf hX
      rw [fX8_walks_40] at hf
      refine lv_iload hx hb dX8_walks_40 (lv_at hl 4 rfl) ?_
      refine lv_iload hx hb dX8_walks_42 (lv_at hl 3 rfl) ?_
      refine lv_icmp_eq (tgt := 131) hx hb dX8_walks_44 (by decide) (fun c_8 => ?_) (fun c_8 => ?_)
      · have hf := ip c_8 hf
        refine lv_iinc (v := (l5 + 1)) (lv' := [(5, .int (l5 + 1)), (0, .ref t_h), (2, .int v2), (3, .int l3), (4, .int l4)]) hx hb dX8_walks_131 hl (k := 4) rfl (by rfl) (by decide) rfl (fun ls hl => ?_)
        refine lv_goto (tgt := 40) hx hb dX8_walks_134 (by decide) ?_
        exact ih _ _ _ _ hP hD hS (lv_sub hl [1, 2, 3, 4, 0] rfl) hf hX
      · have hf := iq c_8 hf
        refine lv_iload_n hx hb dX8_walks_47 rfl (lv_at hl 1 rfl) ?_
        refine lv_iload hx hb dX8_walks_48 (lv_at hl 4 rfl) ?_
        refine lv_ishr hx hb dX8_walks_50 ?_
        refine lv_iconst (v := 1) hx hb dX8_walks_51 (by decide) ?_
        refine lv_iand hx hb dX8_walks_52 ?_
        refine lv_iconst (v := 1) hx hb dX8_walks_53 (by decide) ?_
        refine lv_icmp_eq (tgt := 131) hx hb dX8_walks_54 (by decide) (fun c_9 => ?_) (fun c_9 => ?_)
        · have hf := ip c_9 hf
          refine lv_iinc (v := (l5 + 1)) (lv' := [(5, .int (l5 + 1)), (0, .ref t_h), (2, .int v2), (3, .int l3), (4, .int l4)]) hx hb dX8_walks_131 hl (k := 4) rfl (by rfl) (by decide) rfl (fun ls hl => ?_)
          refine lv_goto (tgt := 40) hx hb dX8_walks_134 (by decide) ?_
          exact ih _ _ _ _ hP hD hS (lv_sub hl [1, 2, 3, 4, 0] rfl) hf hX
        · have hf := iq c_9 hf
          refine lv_aload_n hx hb dX8_walks_57 rfl (lv_at hl 0 rfl) ?_
          refine va_get (D := G.1) (ci := 8) (v := .ref (t_a 16)) (C := RX8) (T := TX8) (N := 33) hx hb hw inW8 hown hK.1 hP 0 rfl rfl 16 (by decide) (hw _ kw_5_16) (fun _ h9 => h9) rfl dX8_walks_58 ?_
          refine lv_iload hx hb dX8_walks_61 (lv_at hl 4 rfl) ?_
          obtain ⟨hi_11, hf⟩ := rdI_in hf
          refine va_iald hx hb hK.1 hP 2 0 rfl rfl hi_11 dX8_walks_63 ?_
          refine lv_topi (fun x_10 ex_10 => ?_)
          have hf := hf x_10 ex_10
          refine lv_ldc hx hb hown (hw _ kw_29_22) dX8_walks_64 ?_
          refine lv_icmp_eq (tgt := 131) hx hb dX8_walks_66 (by decide) (fun c_12 => ?_) (fun c_12 => ?_)
          · have hf := ip c_12 hf
            refine lv_iinc (v := (l5 + 1)) (lv' := [(5, .int (l5 + 1)), (0, .ref t_h), (2, .int v2), (3, .int l3), (4, .int l4)]) hx hb dX8_walks_131 hl (k := 4) rfl (by rfl) (by decide) rfl (fun ls hl => ?_)
            refine lv_goto (tgt := 40) hx hb dX8_walks_134 (by decide) ?_
            exact ih _ _ _ _ hP hD hS (lv_sub hl [1, 2, 3, 4, 0] rfl) hf hX
          · have hf := iq c_12 hf
            refine lv_aload_n hx hb dX8_walks_69 rfl (lv_at hl 0 rfl) ?_
            refine lv_iload hx hb dX8_walks_70 (lv_at hl 3 rfl) ?_
            refine lv_iload hx hb dX8_walks_72 (lv_at hl 4 rfl) ?_
            refine lv_aload_n hx hb dX8_walks_74 rfl (lv_at hl 0 rfl) ?_
            refine va_get (D := G.1) (ci := 8) (v := .ref (t_a 1)) (C := RX8) (T := TX8) (N := 33) hx hb hw inW8 hown hK.1 hP 0 rfl rfl 1 (by decide) (hw _ kw_5_11) (fun _ h9 => h9) rfl dX8_walks_75 ?_
            refine lv_iconst (v := 1) hx hb dX8_walks_78 (by decide) ?_
            obtain ⟨hi_14, hf⟩ := rdI_in hf
            refine va_iald hx hb hK.1 hP 1 0 rfl rfl hi_14 dX8_walks_79 ?_
            refine lv_topi (fun x_13 ex_13 => ?_)
            have hf := hf x_13 ex_13
            obtain ⟨r_15, hc_16, hf⟩ := bd1_in hf
            refine rcI (va_runV (As := [.int l4, .int l5, .int x_13]) (rest := []) ⟨hx, hb, hml, hown, hw⟩ ((ctX8_talks l G t_h t_a t_thrown t_all t_taped t_at t_behind t_size t_kind t_number t_wrong t_wrongAt t_faultKind t_faultPlace t_x t_wayLong t_bothLeast l4 l5 x_13 _ hc_16) _) (kV hw calX8_talks kw_20_12 rfl rfl ⟨Nat.le_of_ble_eq_true rfl, Nat.le_of_ble_eq_true rfl⟩) (rpV (hP.sub (ws' := [oX8 t_h t_a t_thrown t_taped t_at t_behind t_size t_kind t_number t_wrong t_wrongAt t_faultKind t_faultPlace t_x t_wayLong t_bothLeast, arI G (t_a 1) 558 t_all]) [0, 1] rfl) hK (ci := 8) (q0 := 0) rfl rfl) rfl rfl hl.1 rfl (lv_room (Nat.le_of_ble_eq_true rfl)) dX8_walks_80 ⟨Nat.zero_le _, Nat.zero_le _⟩) hS hA hP (fun H locs hP hS => ?_)
            refine lv_if_eq (tgt := 131) hx hb dX8_walks_83 (by decide) (fun c_17 => ?_) (fun c_17 => ?_)
            · have hf := ip c_17 hf
              refine lv_iinc (v := (l5 + 1)) (lv' := [(5, .int (l5 + 1)), (0, .ref t_h), (2, .int v2), (3, .int l3), (4, .int l4)]) hx hb dX8_walks_131 hl (k := 4) rfl (by rfl) (by decide) rfl (fun ls hl => ?_)
              refine lv_goto (tgt := 40) hx hb dX8_walks_134 (by decide) ?_
              exact ih _ _ _ _ hP hD hS (lv_sub hl [1, 2, 3, 4, 0] rfl) hf hX
            · have hf := iq c_17 hf
              refine lv_aload_n hx hb dX8_walks_86 rfl (lv_at hl 0 rfl) ?_
              refine va_get (D := G.1) (ci := 8) (v := .ref (t_a 16)) (C := RX8) (T := TX8) (N := 33) hx hb hw inW8 hown hK.1 hP 0 rfl rfl 16 (by decide) (hw _ kw_5_16) (fun _ h9 => h9) rfl dX8_walks_87 ?_
              refine lv_iload hx hb dX8_walks_90 (lv_at hl 4 rfl) ?_
              obtain ⟨hi_19, hf⟩ := rdI_in hf
              refine va_iald hx hb hK.1 hP 2 0 rfl rfl hi_19 dX8_walks_92 ?_
              refine lv_topi (fun x_18 ex_18 => ?_)
              have hf := hf x_18 ex_18
              refine lv_aload_n hx hb dX8_walks_93 rfl (lv_at hl 0 rfl) ?_
              refine lv_iload hx hb dX8_walks_94 (lv_at hl 3 rfl) ?_
              refine lv_iload hx hb dX8_walks_96 (lv_at hl 4 rfl) ?_
              obtain ⟨r_20, hc_21, hf⟩ := bd1_in hf
              refine rcI (va_runV (As := [.int l4, .int l5]) (rest := [.int x_18]) ⟨hx, hb, hml, hown, hw⟩ ((ctX8_lossOf l G t_h t_a t_thrown t_all t_taped t_at t_behind t_size t_kind t_number t_wrong t_wrongAt t_faultKind t_faultPlace t_x t_wayLong t_bothLeast l4 l5 _ hc_21) _) (kV hw calX8_lossOf kw_22_15 rfl rfl ⟨Nat.le_of_ble_eq_true rfl, Nat.le_of_ble_eq_true rfl⟩) (rpV (hP.sub (ws' := [oX8 t_h t_a t_thrown t_taped t_at t_behind t_size t_kind t_number t_wrong t_wrongAt t_faultKind t_faultPlace t_x t_wayLong t_bothLeast, arI G (t_a 1) 558 t_all]) [0, 1] rfl) hK (ci := 8) (q0 := 0) rfl rfl) rfl rfl hl.1 rfl (lv_room (Nat.le_of_ble_eq_true rfl)) dX8_walks_98 ⟨Nat.zero_le _, Nat.zero_le _⟩) hS hA hP (fun H locs hP hS => ?_)
              refine lv_iadd hx hb dX8_walks_101 ?_
              refine lv_aload_n hx hb dX8_walks_102 rfl (lv_at hl 0 rfl) ?_
              refine va_get (D := G.1) (ci := 8) (v := .ref (t_a 16)) (C := RX8) (T := TX8) (N := 33) hx hb hw inW8 hown hK.1 hP 0 rfl rfl 16 (by decide) (hw _ kw_5_16) (fun _ h9 => h9) rfl dX8_walks_103 ?_
              refine lv_iload hx hb dX8_walks_106 (lv_at hl 3 rfl) ?_
              obtain ⟨hi_23, hf⟩ := rdI_in hf
              refine va_iald hx hb hK.1 hP 2 0 rfl rfl hi_23 dX8_walks_108 ?_
              refine lv_topi (fun x_22 ex_22 => ?_)
              have hf := hf x_22 ex_22
              refine lv_icmp_ne (tgt := 131) hx hb dX8_walks_109 (by decide) (fun c_24 => ?_) (fun c_24 => ?_)
              · have hf := iq c_24 hf
                refine lv_iinc (v := (l5 + 1)) (lv' := [(5, .int (l5 + 1)), (0, .ref t_h), (2, .int v2), (3, .int l3), (4, .int l4)]) hx hb dX8_walks_131 hl (k := 4) rfl (by rfl) (by decide) rfl (fun ls hl => ?_)
                refine lv_goto (tgt := 40) hx hb dX8_walks_134 (by decide) ?_
                exact ih _ _ _ _ hP hD hS (lv_sub hl [1, 2, 3, 4, 0] rfl) hf hX
              · have hf := ip c_24 hf
                refine lv_aload_n hx hb dX8_walks_112 rfl (lv_at hl 0 rfl) ?_
                refine va_get (D := G.1) (ci := 8) (v := .ref (t_a 17)) (C := RX8) (T := TX8) (N := 33) hx hb hw inW8 hown hK.1 hP 0 rfl rfl 17 (by decide) (hw _ kw_5_17) (fun _ h9 => h9) rfl dX8_walks_113 ?_
                refine lv_iload hx hb dX8_walks_116 (lv_at hl 4 rfl) ?_
                obtain ⟨hi_26, hf⟩ := rdI_in hf
                refine va_iald hx hb hK.1 hP 3 0 rfl rfl hi_26 dX8_walks_118 ?_
                refine lv_topi (fun x_25 ex_25 => ?_)
                have hf := hf x_25 ex_25
                refine lv_iconst (v := 1) hx hb dX8_walks_119 (by decide) ?_
                refine lv_iadd hx hb dX8_walks_120 ?_
                refine lv_aload_n hx hb dX8_walks_121 rfl (lv_at hl 0 rfl) ?_
                refine va_get (D := G.1) (ci := 8) (v := .ref (t_a 17)) (C := RX8) (T := TX8) (N := 33) hx hb hw inW8 hown hK.1 hP 0 rfl rfl 17 (by decide) (hw _ kw_5_17) (fun _ h9 => h9) rfl dX8_walks_122 ?_
                refine lv_iload hx hb dX8_walks_125 (lv_at hl 3 rfl) ?_
                obtain ⟨hi_28, hf⟩ := rdI_in hf
                refine va_iald hx hb hK.1 hP 3 0 rfl rfl hi_28 dX8_walks_127 ?_
                refine lv_topi (fun x_27 ex_27 => ?_)
                have hf := hf x_27 ex_27
                refine lv_icmp_eq (tgt := 137) hx hb dX8_walks_128 (by decide) (fun c_29 => ?_) (fun c_29 => ?_)
                · have hf := ip c_29 hf
                  exact hX _ _ _ _ hP hD hS (lv_sub hl [0, 1, 2, 4] rfl) hf
                · have hf := iq c_29 hf
                  refine lv_iinc (v := (l5 + 1)) (lv' := [(5, .int (l5 + 1)), (0, .ref t_h), (2, .int v2), (3, .int l3), (4, .int l4)]) hx hb dX8_walks_131 hl (k := 4) rfl (by rfl) (by decide) rfl (fun ls hl => ?_)
                  refine lv_goto (tgt := 40) hx hb dX8_walks_134 (by decide) ?_
                  exact ih _ _ _ _ hP hD hS (lv_sub hl [1, 2, 3, 4, 0] rfl) hf hX
  have L19 : ∀ (t_wayLong : Int32) (K : (Nat → Int32) → Option ((Nat → Int32) × Int32)) (n : Nat) (l3 : Int32) (t_way : Nat → Int32) (H : Heap) (locs : List Loc) (ls : Array Slot), va_P G.1 vwCl [oX8 t_h t_a t_thrown t_taped t_at t_behind t_size t_kind t_number t_wrong t_wrongAt t_faultKind t_faultPlace t_x t_wayLong t_bothLeast, arI G (t_a 1) 558 t_all, arI G (t_a 16) 12 t_loss, arI G (t_a 17) 12 t_hops, arI G (t_a 18) 12 t_way] H → va_D A [oX8 t_h t_a t_thrown t_taped t_at t_behind t_size t_kind t_number t_wrong t_wrongAt t_faultKind t_faultPlace t_x t_wayLong t_bothLeast, arI G (t_a 1) 558 t_all, arI G (t_a 16) 12 t_loss, arI G (t_a 17) 12 t_hops, arI G (t_a 18) 12 t_way] → va_S A s.heap H locs → lv_has ls 6 [(0, .ref t_h), (2, .int v2), (3, .int l3)] → fX8_walks_19 v2 t_all t_loss t_hops t_wayLong K n l3 t_way = some (o_t_way, o_t_wayLong) → (∀ (kt_way : Nat → Int32) (H : Heap) (locs : List Loc) (ls : Array Slot), va_P G.1 vwCl [oX8 t_h t_a t_thrown t_taped t_at t_behind t_size t_kind t_number t_wrong t_wrongAt t_faultKind t_faultPlace t_x t_wayLong t_bothLeast, arI G (t_a 1) 558 t_all, arI G (t_a 16) 12 t_loss, arI G (t_a 17) 12 t_hops, arI G (t_a 18) 12 kt_way] H → va_D A [oX8 t_h t_a t_thrown t_taped t_at t_behind t_size t_kind t_number t_wrong t_wrongAt t_faultKind t_faultPlace t_x t_wayLong t_bothLeast, arI G (t_a 1) 558 t_all, arI G (t_a 16) 12 t_loss, arI G (t_a 17) 12 t_hops, arI G (t_a 18) 12 kt_way] → va_S A s.heap H locs → lv_has ls 6 [] → K kt_way = some (o_t_way, o_t_wayLong) → W p l e ({ frames := 4, cells := 0, slots := 0, locals := 94 } : Room) s m args below meth c H locs 0 0 Q (F0 m 151 ls [])) → W p l e ({ frames := 4, cells := 0, slots := 0, locals := 94 } : Room) s m args below meth c H locs 0 0 Q (F0 m 19 ls []) := by
    intro t_wayLong K n
    induction n with
    | zero => intro l3 t_way H locs ls hP hD hS hl hf; rw [fX8_walks_19] at hf; cases hf
    | succ n ih =>
      intro l3 t_way H locs ls hP hD hS hl hf hX
      rw [fX8_walks_19] at hf
      refine lv_iload_n hx hb dX8_walks_19 rfl (lv_at hl 2 rfl) ?_
      refine lv_aload_n hx hb dX8_walks_20 rfl (lv_at hl 0 rfl) ?_
      refine va_get (D := G.1) (ci := 8) (v := .int t_wayLong) (C := RX8) (T := TX8) (N := 33) hx hb hw inW8 hown hK.1 hP 0 rfl rfl 19 (by decide) (hw _ kw_29_23) (fun _ h9 => h9) rfl dX8_walks_21 ?_
      refine lv_icmp_gt (tgt := 151) hx hb dX8_walks_24 (by decide) (fun c_5 => ?_) (fun c_5 => ?_)
      · have hf := ip c_5 hf
        exact hX _ _ _ _ hP hD hS (lv_sub hl [] rfl) hf
      · have hf := iq c_5 hf
        refine lv_aload_n hx hb dX8_walks_27 rfl (lv_at hl 0 rfl) ?_
        refine va_get (D := G.1) (ci := 8) (v := .ref (t_a 18)) (C := RX8) (T := TX8) (N := 33) hx hb hw inW8 hown hK.1 hP 0 rfl rfl 18 (by decide) (hw _ kw_5_18) (fun _ h9 => h9) rfl dX8_walks_28 ?_
        refine lv_iload_n hx hb dX8_walks_31 rfl (lv_at hl 2 rfl) ?_
        refine lv_iconst (v := 1) hx hb dX8_walks_32 (by decide) ?_
        refine lv_isub hx hb dX8_walks_33 ?_
        obtain ⟨hi_7, hf⟩ := rdI_in hf
        refine va_iald hx hb hK.1 hP 4 0 rfl rfl hi_7 dX8_walks_34 ?_
        refine lv_topi (fun x_6 ex_6 => ?_)
        have hf := hf x_6 ex_6
        refine lv_istore (lv' := [(4, .int x_6), (0, .ref t_h), (2, .int v2), (3, .int l3)]) hx hb dX8_walks_35 hl (by decide) rfl (fun ls hl => ?_)
        refine lv_iconst (v := 0) hx hb dX8_walks_37 (by decide) ?_
        refine lv_istore (lv' := [(5, .int 0), (4, .int x_6), (0, .ref t_h), (2, .int v2), (3, .int l3)]) hx hb dX8_walks_38 hl (by decide) rfl (fun ls hl => ?_)
        refine L40 _ _ _ _ _ _ _ _ _ _ hP hD hS (lv_sub hl [2, 3, 4, 1, 0] rfl) hf (fun w_30 H locs ls hP hD hS hl hf => ?_)
        refine lv_aload_n hx hb dX8_walks_137 rfl (lv_at hl 0 rfl) ?_
        refine va_get (D := G.1) (ci := 8) (v := .ref (t_a 18)) (C := RX8) (T := TX8) (N := 33) hx hb hw inW8 hown hK.1 hP 0 rfl rfl 18 (by decide) (hw _ kw_5_18) (fun _ h9 => h9) rfl dX8_walks_138 ?_
        refine lv_iload_n hx hb dX8_walks_141 rfl (lv_at hl 2 rfl) ?_
        refine lv_iload hx hb dX8_walks_142 (lv_at hl 3 rfl) ?_
        obtain ⟨hi_32, hf⟩ := wrI_in hf
        refine xiast hx hb hK.1 hP hD hS 4 0 rfl rfl hi_32 dX8_walks_144 (fun t_way_31 H locs et_way_31 hP hD hS => ?_)
        have hf := hf t_way_31 et_way_31
        have hP : va_P G.1 vwCl [oX8 t_h t_a t_thrown t_taped t_at t_behind t_size t_kind t_number t_wrong t_wrongAt t_faultKind t_faultPlace t_x t_wayLong t_bothLeast, arI G (t_a 1) 558 t_all, arI G (t_a 16) 12 t_loss, arI G (t_a 17) 12 t_hops, arI G (t_a 18) 12 t_way_31] H := hP
        have hD : va_D A [oX8 t_h t_a t_thrown t_taped t_at t_behind t_size t_kind t_number t_wrong t_wrongAt t_faultKind t_faultPlace t_x t_wayLong t_bothLeast, arI G (t_a 1) 558 t_all, arI G (t_a 16) 12 t_loss, arI G (t_a 17) 12 t_hops, arI G (t_a 18) 12 t_way_31] := hD
        refine lv_iinc (v := (l3 + 1)) (lv' := [(3, .int (l3 + 1)), (0, .ref t_h), (2, .int v2), (5, .int w_30)]) hx hb dX8_walks_145 hl (k := 2) rfl (by rfl) (by decide) rfl (fun ls hl => ?_)
        refine lv_goto (tgt := 19) hx hb dX8_walks_148 (by decide) ?_
        exact ih _ _ _ _ _ hP hD hS (lv_sub hl [1, 2, 0] rfl) hf hX
  unfold fX8_walks at hf
  refine lv_aload_n hx hb dX8_walks_0 rfl (lv_at hl 0 rfl) ?_
  refine lv_aload_n hx hb dX8_walks_1 rfl (lv_at hl 0 rfl) ?_
  refine va_get (D := G.1) (ci := 8) (v := .ref (t_a 17)) (C := RX8) (T := TX8) (N := 33) hx hb hw inW8 hown hK.1 hP 0 rfl rfl 17 (by decide) (hw _ kw_5_17) (fun _ h9 => h9) rfl dX8_walks_2 ?_
  refine lv_iload_n hx hb dX8_walks_5 rfl (lv_at hl 1 rfl) ?_
  obtain ⟨hi_2, hf⟩ := rdI_in hf
  refine va_iald hx hb hK.1 hP 3 0 rfl rfl hi_2 dX8_walks_6 ?_
  refine lv_topi (fun x_1 ex_1 => ?_)
  have hf := hf x_1 ex_1
  refine va_put (D := G.1) (ci := 8) (v := .int x_1) (ty := .int) (C := RX8) (T := TX8) (N := 33) hx hb hw inW8 tyX8 tyX8_ok nmX8 hown hK.1 hP hD hS 0 rfl rfl 19 (by decide) (hw _ kw_29_23) (fun _ h9 => h9) rfl (by decide +kernel) rfl rfl (Nat.le_of_ble_eq_true rfl) dX8_walks_7 (fun H locs hP hD hS => ?_)
  have hP : va_P G.1 vwCl [oX8 t_h t_a t_thrown t_taped t_at t_behind t_size t_kind t_number t_wrong t_wrongAt t_faultKind t_faultPlace t_x x_1 t_bothLeast, arI G (t_a 1) 558 t_all, arI G (t_a 16) 12 t_loss, arI G (t_a 17) 12 t_hops, arI G (t_a 18) 12 t_way] H := hP
  have hD : va_D A [oX8 t_h t_a t_thrown t_taped t_at t_behind t_size t_kind t_number t_wrong t_wrongAt t_faultKind t_faultPlace t_x x_1 t_bothLeast, arI G (t_a 1) 558 t_all, arI G (t_a 16) 12 t_loss, arI G (t_a 17) 12 t_hops, arI G (t_a 18) 12 t_way] := hD
  refine lv_aload_n hx hb dX8_walks_10 rfl (lv_at hl 0 rfl) ?_
  refine va_get (D := G.1) (ci := 8) (v := .ref (t_a 18)) (C := RX8) (T := TX8) (N := 33) hx hb hw inW8 hown hK.1 hP 0 rfl rfl 18 (by decide) (hw _ kw_5_18) (fun _ h9 => h9) rfl dX8_walks_11 ?_
  refine lv_iconst (v := 0) hx hb dX8_walks_14 (by decide) ?_
  refine lv_iload_n hx hb dX8_walks_15 rfl (lv_at hl 1 rfl) ?_
  obtain ⟨hi_4, hf⟩ := wrI_in hf
  refine xiast hx hb hK.1 hP hD hS 4 0 rfl rfl hi_4 dX8_walks_16 (fun t_way_3 H locs et_way_3 hP hD hS => ?_)
  have hf := hf t_way_3 et_way_3
  have hP : va_P G.1 vwCl [oX8 t_h t_a t_thrown t_taped t_at t_behind t_size t_kind t_number t_wrong t_wrongAt t_faultKind t_faultPlace t_x x_1 t_bothLeast, arI G (t_a 1) 558 t_all, arI G (t_a 16) 12 t_loss, arI G (t_a 17) 12 t_hops, arI G (t_a 18) 12 t_way_3] H := hP
  have hD : va_D A [oX8 t_h t_a t_thrown t_taped t_at t_behind t_size t_kind t_number t_wrong t_wrongAt t_faultKind t_faultPlace t_x x_1 t_bothLeast, arI G (t_a 1) 558 t_all, arI G (t_a 16) 12 t_loss, arI G (t_a 17) 12 t_hops, arI G (t_a 18) 12 t_way_3] := hD
  refine lv_iconst (v := 1) hx hb dX8_walks_17 (by decide) ?_
  refine lv_istore_n (lv' := [(3, .int 1), (0, .ref t_h), (1, .int v1), (2, .int v2)]) hx hb dX8_walks_18 rfl hl (by decide) rfl (fun ls hl => ?_)
  refine L19 _ _ _ _ _ _ _ _ hP hD hS (lv_sub hl [1, 3, 0] rfl) hf (fun t_way_33 H locs ls hP hD hS hl hf => ?_)
  exact hRet _ _ _ _ _ _ hf hP hS dX8_walks_151
theorem calX8_areTwo : CalV yX8_areTwo cX8_areTwo 3 (some .boolean) 2 := ⟨⟨kw_30_3, kw_1_5, by decide +kernel⟩, kw_30_1, kw_30_2⟩
set_option maxHeartbeats 8000000 in
set_option maxRecDepth 100000 in
theorem ctX8_areTwo (l : Launch) (G : GT) (t_h : Nat) (t_a : Nat → Nat) (t_thrown : Int32) (t_all : Nat → Int32) (t_taped : Int32) (t_at : Int32) (t_behind : Int32) (t_size : Int32) (t_kind : Int32) (t_number : Int32) (t_wrong : Int32) (t_wrongAt : Int32) (t_faultKind : Int32) (t_faultPlace : Int32) (t_x : Int32) (t_wayLong : Int32) (t_bothLeast : Int32) (v1 : Int32) (v2 : Int32) (r : Int32) (hf : fX8_areTwo t_all v1 v2 = some r) : RdI l yX8_areTwo (Cond.code yX8_areTwo cX8_areTwo 3 (some .boolean)) { frames := 2, cells := 0, slots := 0, locals := 47 } G [.ref t_h, .int v1, .int v2] [oX8 t_h t_a t_thrown t_taped t_at t_behind t_size t_kind t_number t_wrong t_wrongAt t_faultKind t_faultPlace t_x t_wayLong t_bothLeast, arI G (t_a 1) 558 t_all] r := by
  intro sz
  refine Met.ofW (cc := cX8_areTwo) (maxL := 3) (ret := (some .boolean)) (by decide) rfl ?_
  intro p e s m args below meth c s₁ B hml hv
  obtain ⟨hargs, hsz, hP, hK⟩ := hv
  subst hsz
  obtain ⟨hx, hb, hr, hw, hown, hlk⟩ := fwB B
  refine fw_enter hargs (Nat.le_of_ble_eq_true rfl) (fun ls hl => ?_)
  have hl : lv_has ls 3 [(0, .ref t_h), (1, .int v1), (2, .int v2)] := hl
  refine fw_Q (P := fun Q => ∃ A : Nat → Prop, va_S A s.heap s.heap [] ∧ (∀ q, s.heap.size ≤ q → A q) ∧ ∀ (v : Int32) (H : Heap) (locs : List Loc) (pc : Nat) (ls : Array Slot), some v = some r → va_S A s.heap H locs → narrow .boolean (.int v) = .int v → decode cX8_areTwo pc = .ok (.ireturn, 1) → W p l e ({ frames := 2, cells := 0, slots := 0, locals := 47 } : Room) s m args below meth c H locs 0 0 Q (F0 m pc ls [.int v])) ⟨fun q => s.heap.size ≤ q, va_S.rf, fun q h => h, fun v H locs pc ls h hS hn hd => retRZ hx hb hr hlk hS hn h hd⟩ ?_
  rintro Q ⟨A, hS, hA, hRet⟩
  change W p l e ({ frames := 2, cells := 0, slots := 0, locals := 47 } : Room) s m args below meth c _ _ 0 0 Q _
  unfold fX8_areTwo at hf
  refine lv_aload_n hx hb dX8_areTwo_0 rfl (lv_at hl 0 rfl) ?_
  refine lv_iload_n hx hb dX8_areTwo_1 rfl (lv_at hl 1 rfl) ?_
  refine lv_i2l hx hb dX8_areTwo_2 rfl ?_
  obtain ⟨r_1, hc_2, hf⟩ := bd1_in hf
  refine rcI (va_runV (As := [.long (Int32.toInt64 v1)]) (rest := []) ⟨hx, hb, hml, hown, hw⟩ ((ctX8_isWindow l G t_h t_a t_thrown t_all t_taped t_at t_behind t_size t_kind t_number t_wrong t_wrongAt t_faultKind t_faultPlace t_x t_wayLong t_bothLeast (Int32.toInt64 v1) _ hc_2) _) (kV hw calX8_isWindow kw_20_4 rfl rfl ⟨Nat.le_of_ble_eq_true rfl, Nat.le_of_ble_eq_true rfl⟩) (rpV (hP.sub (ws' := [oX8 t_h t_a t_thrown t_taped t_at t_behind t_size t_kind t_number t_wrong t_wrongAt t_faultKind t_faultPlace t_x t_wayLong t_bothLeast, arI G (t_a 1) 558 t_all]) [0, 1] rfl) hK (ci := 8) (q0 := 0) rfl rfl) rfl rfl hl.1 rfl (lv_room (Nat.le_of_ble_eq_true rfl)) dX8_areTwo_3 ⟨Nat.zero_le _, Nat.zero_le _⟩) hS hA hP (fun H locs hP hS => ?_)
  refine lv_if_eq (tgt := 27) hx hb dX8_areTwo_6 (by decide) (fun c_3 => ?_) (fun c_3 => ?_)
  · have hf := ip c_3 hf
    refine lv_iconst (v := 0) hx hb dX8_areTwo_27 (by decide) ?_
    exact hRet _ _ _ _ _ hf hS (by decide +kernel) dX8_areTwo_28
  · have hf := iq c_3 hf
    refine lv_aload_n hx hb dX8_areTwo_9 rfl (lv_at hl 0 rfl) ?_
    refine lv_iload_n hx hb dX8_areTwo_10 rfl (lv_at hl 2 rfl) ?_
    refine lv_i2l hx hb dX8_areTwo_11 rfl ?_
    obtain ⟨r_4, hc_5, hf⟩ := bd1_in hf
    refine rcI (va_runV (As := [.long (Int32.toInt64 v2)]) (rest := []) ⟨hx, hb, hml, hown, hw⟩ ((ctX8_isWindow l G t_h t_a t_thrown t_all t_taped t_at t_behind t_size t_kind t_number t_wrong t_wrongAt t_faultKind t_faultPlace t_x t_wayLong t_bothLeast (Int32.toInt64 v2) _ hc_5) _) (kV hw calX8_isWindow kw_20_4 rfl rfl ⟨Nat.le_of_ble_eq_true rfl, Nat.le_of_ble_eq_true rfl⟩) (rpV (hP.sub (ws' := [oX8 t_h t_a t_thrown t_taped t_at t_behind t_size t_kind t_number t_wrong t_wrongAt t_faultKind t_faultPlace t_x t_wayLong t_bothLeast, arI G (t_a 1) 558 t_all]) [0, 1] rfl) hK (ci := 8) (q0 := 0) rfl rfl) rfl rfl hl.1 rfl (lv_room (Nat.le_of_ble_eq_true rfl)) dX8_areTwo_12 ⟨Nat.zero_le _, Nat.zero_le _⟩) hS hA hP (fun H locs hP hS => ?_)
    refine lv_if_eq (tgt := 27) hx hb dX8_areTwo_15 (by decide) (fun c_6 => ?_) (fun c_6 => ?_)
    · have hf := ip c_6 hf
      refine lv_iconst (v := 0) hx hb dX8_areTwo_27 (by decide) ?_
      exact hRet _ _ _ _ _ hf hS (by decide +kernel) dX8_areTwo_28
    · have hf := iq c_6 hf
      refine lv_iload_n hx hb dX8_areTwo_18 rfl (lv_at hl 1 rfl) ?_
      refine lv_iload_n hx hb dX8_areTwo_19 rfl (lv_at hl 2 rfl) ?_
      refine lv_icmp_eq (tgt := 27) hx hb dX8_areTwo_20 (by decide) (fun c_7 => ?_) (fun c_7 => ?_)
      · have hf := ip c_7 hf
        refine lv_iconst (v := 0) hx hb dX8_areTwo_27 (by decide) ?_
        exact hRet _ _ _ _ _ hf hS (by decide +kernel) dX8_areTwo_28
      · have hf := iq c_7 hf
        refine lv_iconst (v := 1) hx hb dX8_areTwo_23 (by decide) ?_
        refine lv_goto (tgt := 28) hx hb dX8_areTwo_24 (by decide) ?_
        exact hRet _ _ _ _ _ hf hS (by decide +kernel) dX8_areTwo_28
theorem calX8_best : CalV yX8_best cX8_best 5 (some .int) 4 := ⟨⟨kw_29_19, kw_1_5, by decide +kernel⟩, kw_29_17, kw_29_18⟩
set_option maxHeartbeats 8000000 in
set_option maxRecDepth 100000 in
theorem ctX8_best (l : Launch) (G : GT) (t_h : Nat) (t_a : Nat → Nat) (t_thrown : Int32) (t_all : Nat → Int32) (t_taped : Int32) (t_at : Int32) (t_behind : Int32) (t_size : Int32) (t_kind : Int32) (t_number : Int32) (t_wrong : Int32) (t_wrongAt : Int32) (t_faultKind : Int32) (t_faultPlace : Int32) (t_x : Int32) (t_loss : Nat → Int32) (t_hops : Nat → Int32) (t_way : Nat → Int32) (t_wayLong : Int32) (t_bothLeast : Int32) (v1 : Int32) (v2 : Int32) (v3 : Int32) (v4 : Int32) (r : Int32) (o_t_thrown : Int32) (o_t_loss : Nat → Int32) (o_t_hops : Nat → Int32) (o_t_way : Nat → Int32) (o_t_wayLong : Int32) (hf : fX8_best t_thrown t_all t_loss t_hops t_way t_wayLong v1 v2 v3 v4 = some (r, o_t_thrown, o_t_loss, o_t_hops, o_t_way, o_t_wayLong)) : WrI l yX8_best (Cond.code yX8_best cX8_best 5 (some .int)) { frames := 5, cells := 0, slots := 0, locals := 121 } G [.ref t_h, .int v1, .int v2, .int v3, .int v4] [oX8 t_h t_a t_thrown t_taped t_at t_behind t_size t_kind t_number t_wrong t_wrongAt t_faultKind t_faultPlace t_x t_wayLong t_bothLeast, arI G (t_a 1) 558 t_all, arI G (t_a 16) 12 t_loss, arI G (t_a 17) 12 t_hops, arI G (t_a 18) 12 t_way] [oX8 t_h t_a o_t_thrown t_taped t_at t_behind t_size t_kind t_number t_wrong t_wrongAt t_faultKind t_faultPlace t_x o_t_wayLong t_bothLeast, arI G (t_a 1) 558 t_all, arI G (t_a 16) 12 o_t_loss, arI G (t_a 17) 12 o_t_hops, arI G (t_a 18) 12 o_t_way] r := by
  intro sz
  refine Met.ofW (cc := cX8_best) (maxL := 5) (ret := (some .int)) (by decide) rfl ?_
  intro p e s m args below meth c s₁ B hml hv
  obtain ⟨hargs, hsz, hP, hD0, hK⟩ := hv
  subst hsz
  obtain ⟨hx, hb, hr, hw, hown, hlk⟩ := fwB B
  refine fw_enter hargs (Nat.le_of_ble_eq_true rfl) (fun ls hl => ?_)
  have hl : lv_has ls 5 [(0, .ref t_h), (1, .int v1), (2, .int v2), (3, .int v3), (4, .int v4)] := hl
  refine fw_Q (P := fun Q => ∃ A : Nat → Prop, va_D A [oX8 t_h t_a t_thrown t_taped t_at t_behind t_size t_kind t_number t_wrong t_wrongAt t_faultKind t_faultPlace t_x t_wayLong t_bothLeast, arI G (t_a 1) 558 t_all, arI G (t_a 16) 12 t_loss, arI G (t_a 17) 12 t_hops, arI G (t_a 18) 12 t_way] ∧ va_S A s.heap s.heap [] ∧ (∀ q, s.heap.size ≤ q → A q) ∧ ∀ (v : Int32) (n_t_thrown : Int32) (n_t_loss : Nat → Int32) (n_t_hops : Nat → Int32) (n_t_way : Nat → Int32) (n_t_wayLong : Int32) (H : Heap) (locs : List Loc) (pc : Nat) (ls : Array Slot), some (v, n_t_thrown, n_t_loss, n_t_hops, n_t_way, n_t_wayLong) = some (r, o_t_thrown, o_t_loss, o_t_hops, o_t_way, o_t_wayLong) → va_P G.1 vwCl [oX8 t_h t_a n_t_thrown t_taped t_at t_behind t_size t_kind t_number t_wrong t_wrongAt t_faultKind t_faultPlace t_x n_t_wayLong t_bothLeast, arI G (t_a 1) 558 t_all, arI G (t_a 16) 12 n_t_loss, arI G (t_a 17) 12 n_t_hops, arI G (t_a 18) 12 n_t_way] H → va_S A s.heap H locs → decode cX8_best pc = .ok (.ireturn, 1) → W p l e ({ frames := 5, cells := 0, slots := 0, locals := 121 } : Room) s m args below meth c H locs 0 0 Q (F0 m pc ls [.int v])) ⟨va_A [oX8 t_h t_a t_thrown t_taped t_at t_behind t_size t_kind t_number t_wrong t_wrongAt t_faultKind t_faultPlace t_x t_wayLong t_bothLeast, arI G (t_a 1) 558 t_all, arI G (t_a 16) 12 t_loss, arI G (t_a 17) 12 t_hops, arI G (t_a 18) 12 t_way] s.heap.size, hD0.self (sz := s.heap.size), va_S.rf, fun q h => Or.inr h, ?_⟩ ?_
  · intro v n_t_thrown n_t_loss n_t_hops n_t_way n_t_wayLong H locs pc ls h hP hS hd
    cases h
    exact retWI hx hb hr hlk hS hP rfl hd
  rintro Q ⟨A, hD, hS, hA, hRet⟩
  change W p l e ({ frames := 5, cells := 0, slots := 0, locals := 121 } : Room) s m args below meth c _ _ 0 0 Q _
  unfold fX8_best at hf
  refine lv_aload_n hx hb dX8_best_0 rfl (lv_at hl 0 rfl) ?_
  refine lv_iconst (v := 0) hx hb dX8_best_1 (by decide) ?_
  refine va_put (D := G.1) (ci := 8) (v := .int 0) (ty := .int) (C := RX8) (T := TX8) (N := 33) hx hb hw inW8 tyX8 tyX8_ok nmX8 hown hK.1 hP hD hS 0 rfl rfl 0 (by decide) (hw _ kw_6_21) (fun _ h9 => h9) rfl (by decide +kernel) rfl rfl (Nat.le_of_ble_eq_true rfl) dX8_best_2 (fun H locs hP hD hS => ?_)
  have hP : va_P G.1 vwCl [oX8 t_h t_a 0 t_taped t_at t_behind t_size t_kind t_number t_wrong t_wrongAt t_faultKind t_faultPlace t_x t_wayLong t_bothLeast, arI G (t_a 1) 558 t_all, arI G (t_a 16) 12 t_loss, arI G (t_a 17) 12 t_hops, arI G (t_a 18) 12 t_way] H := hP
  have hD : va_D A [oX8 t_h t_a 0 t_taped t_at t_behind t_size t_kind t_number t_wrong t_wrongAt t_faultKind t_faultPlace t_x t_wayLong t_bothLeast, arI G (t_a 1) 558 t_all, arI G (t_a 16) 12 t_loss, arI G (t_a 17) 12 t_hops, arI G (t_a 18) 12 t_way] := hD
  refine lv_aload_n hx hb dX8_best_5 rfl (lv_at hl 0 rfl) ?_
  refine lv_iload_n hx hb dX8_best_6 rfl (lv_at hl 1 rfl) ?_
  refine lv_iload_n hx hb dX8_best_7 rfl (lv_at hl 2 rfl) ?_
  obtain ⟨r_1, hc_2, hf⟩ := bd1_in hf
  refine rcI (va_runV (As := [.int v1, .int v2]) (rest := []) ⟨hx, hb, hml, hown, hw⟩ ((ctX8_areTwo l G t_h t_a 0 t_all t_taped t_at t_behind t_size t_kind t_number t_wrong t_wrongAt t_faultKind t_faultPlace t_x t_wayLong t_bothLeast v1 v2 _ hc_2) _) (kV hw calX8_areTwo kw_30_0 rfl rfl ⟨Nat.le_of_ble_eq_true rfl, Nat.le_of_ble_eq_true rfl⟩) (rpV (hP.sub (ws' := [oX8 t_h t_a 0 t_taped t_at t_behind t_size t_kind t_number t_wrong t_wrongAt t_faultKind t_faultPlace t_x t_wayLong t_bothLeast, arI G (t_a 1) 558 t_all]) [0, 1] rfl) hK (ci := 8) (q0 := 0) rfl rfl) rfl rfl hl.1 rfl (lv_room (Nat.le_of_ble_eq_true rfl)) dX8_best_8 ⟨Nat.zero_le _, Nat.zero_le _⟩) hS hA hP (fun H locs hP hS => ?_)
  refine lv_if_eq (tgt := 40) hx hb dX8_best_11 (by decide) (fun c_3 => ?_) (fun c_3 => ?_)
  · have hf := ip c_3 hf
    refine lv_bipush (v := (-2)) hx hb dX8_best_40 (by decide) ?_
    exact hRet _ _ _ _ _ _ _ _ _ _ hf hP hS dX8_best_42
  · have hf := iq c_3 hf
    refine lv_iload hx hb dX8_best_14 (lv_at hl 4 rfl) ?_
    refine lv_i2l hx hb dX8_best_16 rfl ?_
    refine lv_lconst (v := 0) hx hb dX8_best_17 (by decide) ?_
    refine lv_lconst (v := 1) hx hb dX8_best_18 (by decide) ?_
    obtain ⟨r_4, hc_5, hf⟩ := bd1_in hf
    refine rcI (va_runS (As := [.long (Int32.toInt64 v4), .long 0, .long 1]) (rest := []) ⟨hx, hb, hml, hown, hw⟩ ((ctX8_within l G (Int32.toInt64 v4) 0 1 _ hc_5) _) (kS hw calX8_within kw_14_2 rfl rfl ⟨Nat.le_of_ble_eq_true rfl, Nat.le_of_ble_eq_true rfl⟩) (rpS (hP.sub (ws' := []) [] rfl) hK) rfl rfl hl.1 rfl (lv_room (Nat.le_of_ble_eq_true rfl)) dX8_best_19 ⟨Nat.zero_le _, Nat.zero_le _⟩) hS hA hP (fun H locs hP hS => ?_)
    refine jn_el hf (fun k_6 ek_6 hf => ?_)
    have J43 : ∀  (H : Heap) (locs : List Loc) (ls : Array Slot), va_P G.1 vwCl [oX8 t_h t_a 0 t_taped t_at t_behind t_size t_kind t_number t_wrong t_wrongAt t_faultKind t_faultPlace t_x t_wayLong t_bothLeast, arI G (t_a 1) 558 t_all, arI G (t_a 16) 12 t_loss, arI G (t_a 17) 12 t_hops, arI G (t_a 18) 12 t_way] H → va_D A [oX8 t_h t_a 0 t_taped t_at t_behind t_size t_kind t_number t_wrong t_wrongAt t_faultKind t_faultPlace t_x t_wayLong t_bothLeast, arI G (t_a 1) 558 t_all, arI G (t_a 16) 12 t_loss, arI G (t_a 17) 12 t_hops, arI G (t_a 18) 12 t_way] → va_S A s.heap H locs → lv_has ls 5 [(0, .ref t_h), (1, .int v1), (2, .int v2), (3, .int v3), (4, .int v4)] → k_6 = some (r, o_t_thrown, o_t_loss, o_t_hops, o_t_way, o_t_wayLong) → W p l e ({ frames := 5, cells := 0, slots := 0, locals := 121 } : Room) s m args below meth c H locs 0 0 Q (F0 m 43 ls []) := by
      intro  H locs ls hP hD hS hl hf
      rw [ek_6] at hf
      refine lv_iload_n hx hb dX8_best_43 rfl (lv_at hl 3 rfl) ?_
      refine lv_i2l hx hb dX8_best_44 rfl ?_
      refine lv_lconst (v := 0) hx hb dX8_best_45 (by decide) ?_
      refine lv_iconst (v := 1) hx hb dX8_best_46 (by decide) ?_
      refine lv_aload_n hx hb dX8_best_47 rfl (lv_at hl 0 rfl) ?_
      refine va_get (D := G.1) (ci := 8) (v := .ref (t_a 1)) (C := RX8) (T := TX8) (N := 33) hx hb hw inW8 hown hK.1 hP 0 rfl rfl 1 (by decide) (hw _ kw_5_11) (fun _ h9 => h9) rfl dX8_best_48 ?_
      refine lv_iconst (v := 0) hx hb dX8_best_51 (by decide) ?_
      obtain ⟨hi_8, hf⟩ := rdI_in hf
      refine va_iald hx hb hK.1 hP 1 0 rfl rfl hi_8 dX8_best_52 ?_
      refine lv_topi (fun x_7 ex_7 => ?_)
      have hf := hf x_7 ex_7
      refine lv_ishl hx hb dX8_best_53 ?_
      refine lv_iconst (v := 1) hx hb dX8_best_54 (by decide) ?_
      refine lv_isub hx hb dX8_best_55 ?_
      refine lv_i2l hx hb dX8_best_56 rfl ?_
      obtain ⟨r_9, hc_10, hf⟩ := bd1_in hf
      refine rcI (va_runS (As := [.long (Int32.toInt64 v3), .long 0, .long (Int32.toInt64 (((1 : Int32) <<< (x_7 &&& 31)) - 1))]) (rest := []) ⟨hx, hb, hml, hown, hw⟩ ((ctX8_within l G (Int32.toInt64 v3) 0 (Int32.toInt64 (((1 : Int32) <<< (x_7 &&& 31)) - 1)) _ hc_10) _) (kS hw calX8_within kw_14_2 rfl rfl ⟨Nat.le_of_ble_eq_true rfl, Nat.le_of_ble_eq_true rfl⟩) (rpS (hP.sub (ws' := []) [] rfl) hK) rfl rfl hl.1 rfl (lv_room (Nat.le_of_ble_eq_true rfl)) dX8_best_57 ⟨Nat.zero_le _, Nat.zero_le _⟩) hS hA hP (fun H locs hP hS => ?_)
      refine lv_if_eq (tgt := 81) hx hb dX8_best_60 (by decide) (fun c_11 => ?_) (fun c_11 => ?_)
      · have hf := ip c_11 hf
        refine lv_bipush (v := (-3)) hx hb dX8_best_81 (by decide) ?_
        exact hRet _ _ _ _ _ _ _ _ _ _ hf hP hS dX8_best_83
      · have hf := iq c_11 hf
        refine lv_iload_n hx hb dX8_best_63 rfl (lv_at hl 3 rfl) ?_
        refine lv_iload_n hx hb dX8_best_64 rfl (lv_at hl 1 rfl) ?_
        refine lv_ishr hx hb dX8_best_65 ?_
        refine lv_iconst (v := 1) hx hb dX8_best_66 (by decide) ?_
        refine lv_iand hx hb dX8_best_67 ?_
        refine lv_iconst (v := 1) hx hb dX8_best_68 (by decide) ?_
        refine lv_icmp_eq (tgt := 81) hx hb dX8_best_69 (by decide) (fun c_12 => ?_) (fun c_12 => ?_)
        · have hf := ip c_12 hf
          refine lv_bipush (v := (-3)) hx hb dX8_best_81 (by decide) ?_
          exact hRet _ _ _ _ _ _ _ _ _ _ hf hP hS dX8_best_83
        · have hf := iq c_12 hf
          refine lv_iload_n hx hb dX8_best_72 rfl (lv_at hl 3 rfl) ?_
          refine lv_iload_n hx hb dX8_best_73 rfl (lv_at hl 2 rfl) ?_
          refine lv_ishr hx hb dX8_best_74 ?_
          refine lv_iconst (v := 1) hx hb dX8_best_75 (by decide) ?_
          refine lv_iand hx hb dX8_best_76 ?_
          refine lv_iconst (v := 1) hx hb dX8_best_77 (by decide) ?_
          refine lv_icmp_ne (tgt := 84) hx hb dX8_best_78 (by decide) (fun c_13 => ?_) (fun c_13 => ?_)
          · have hf := iq c_13 hf
            refine lv_aload_n hx hb dX8_best_84 rfl (lv_at hl 0 rfl) ?_
            refine lv_iload_n hx hb dX8_best_85 rfl (lv_at hl 2 rfl) ?_
            refine lv_iload_n hx hb dX8_best_86 rfl (lv_at hl 3 rfl) ?_
            refine lv_aload_n hx hb dX8_best_87 rfl (lv_at hl 0 rfl) ?_
            refine va_get (D := G.1) (ci := 8) (v := .ref (t_a 1)) (C := RX8) (T := TX8) (N := 33) hx hb hw inW8 hown hK.1 hP 0 rfl rfl 1 (by decide) (hw _ kw_5_11) (fun _ h9 => h9) rfl dX8_best_88 ?_
            refine lv_iconst (v := 1) hx hb dX8_best_91 (by decide) ?_
            obtain ⟨hi_15, hf⟩ := rdI_in hf
            refine va_iald hx hb hK.1 hP 1 0 rfl rfl hi_15 dX8_best_92 ?_
            refine lv_topi (fun x_14 ex_14 => ?_)
            have hf := hf x_14 ex_14
            obtain ⟨t_loss_16, t_hops_17, hc_18, hf⟩ := bd2_in hf
            refine wcV (w1 := [oX8 t_h t_a 0 t_taped t_at t_behind t_size t_kind t_number t_wrong t_wrongAt t_faultKind t_faultPlace t_x t_wayLong t_bothLeast, arI G (t_a 1) 558 t_all, arI G (t_a 16) 12 t_loss_16, arI G (t_a 17) 12 t_hops_17]) (va_runV (As := [.int v2, .int v3, .int x_14]) (rest := []) ⟨hx, hb, hml, hown, hw⟩ ((ctX8_laysLoss l G t_h t_a 0 t_all t_taped t_at t_behind t_size t_kind t_number t_wrong t_wrongAt t_faultKind t_faultPlace t_x t_loss t_hops t_wayLong t_bothLeast v2 v3 x_14 _ _ hc_18) _) (kV hw calX8_laysLoss kw_30_4 rfl rfl ⟨Nat.le_of_ble_eq_true rfl, Nat.le_of_ble_eq_true rfl⟩) (wpV (hP.sub (ws' := [oX8 t_h t_a 0 t_taped t_at t_behind t_size t_kind t_number t_wrong t_wrongAt t_faultKind t_faultPlace t_x t_wayLong t_bothLeast, arI G (t_a 1) 558 t_all, arI G (t_a 16) 12 t_loss, arI G (t_a 17) 12 t_hops]) [0, 1, 2, 3] rfl) (hD.sub (ws' := [oX8 t_h t_a 0 t_taped t_at t_behind t_size t_kind t_number t_wrong t_wrongAt t_faultKind t_faultPlace t_x t_wayLong t_bothLeast, arI G (t_a 1) 558 t_all, arI G (t_a 16) 12 t_loss, arI G (t_a 17) 12 t_hops]) [0, 1, 2, 3] (by decide) rfl) hK (ci := 8) (q0 := 0) rfl rfl) rfl rfl hl.1 rfl (lv_room (Nat.le_of_ble_eq_true rfl)) dX8_best_93 ⟨Nat.zero_le _, Nat.zero_le _⟩) hS hA hP hD [0, 1, 2, 3] rfl rfl (fun H locs hP hD hS => ?_)
            have hP : va_P G.1 vwCl [oX8 t_h t_a 0 t_taped t_at t_behind t_size t_kind t_number t_wrong t_wrongAt t_faultKind t_faultPlace t_x t_wayLong t_bothLeast, arI G (t_a 1) 558 t_all, arI G (t_a 16) 12 t_loss_16, arI G (t_a 17) 12 t_hops_17, arI G (t_a 18) 12 t_way] H := hP
            have hD : va_D A [oX8 t_h t_a 0 t_taped t_at t_behind t_size t_kind t_number t_wrong t_wrongAt t_faultKind t_faultPlace t_x t_wayLong t_bothLeast, arI G (t_a 1) 558 t_all, arI G (t_a 16) 12 t_loss_16, arI G (t_a 17) 12 t_hops_17, arI G (t_a 18) 12 t_way] := hD
            refine lv_aload_n hx hb dX8_best_96 rfl (lv_at hl 0 rfl) ?_
            refine va_get (D := G.1) (ci := 8) (v := .ref (t_a 16)) (C := RX8) (T := TX8) (N := 33) hx hb hw inW8 hown hK.1 hP 0 rfl rfl 16 (by decide) (hw _ kw_5_16) (fun _ h9 => h9) rfl dX8_best_97 ?_
            refine lv_iload_n hx hb dX8_best_100 rfl (lv_at hl 1 rfl) ?_
            obtain ⟨hi_20, hf⟩ := rdI_in hf
            refine va_iald hx hb hK.1 hP 2 0 rfl rfl hi_20 dX8_best_101 ?_
            refine lv_topi (fun x_19 ex_19 => ?_)
            have hf := hf x_19 ex_19
            refine lv_ldc hx hb hown (hw _ kw_29_22) dX8_best_102 ?_
            refine lv_icmp_ne (tgt := 109) hx hb dX8_best_104 (by decide) (fun c_21 => ?_) (fun c_21 => ?_)
            · have hf := iq c_21 hf
              refine lv_aload_n hx hb dX8_best_109 rfl (lv_at hl 0 rfl) ?_
              refine lv_iload_n hx hb dX8_best_110 rfl (lv_at hl 1 rfl) ?_
              refine lv_iload_n hx hb dX8_best_111 rfl (lv_at hl 3 rfl) ?_
              obtain ⟨t_way_22, t_wayLong_23, hc_24, hf⟩ := bd2_in hf
              refine wcV (w1 := [oX8 t_h t_a 0 t_taped t_at t_behind t_size t_kind t_number t_wrong t_wrongAt t_faultKind t_faultPlace t_x t_wayLong_23 t_bothLeast, arI G (t_a 1) 558 t_all, arI G (t_a 16) 12 t_loss_16, arI G (t_a 17) 12 t_hops_17, arI G (t_a 18) 12 t_way_22]) (va_runV (As := [.int v1, .int v3]) (rest := []) ⟨hx, hb, hml, hown, hw⟩ ((ctX8_walks l G t_h t_a 0 t_all t_taped t_at t_behind t_size t_kind t_number t_wrong t_wrongAt t_faultKind t_faultPlace t_x t_loss_16 t_hops_17 t_way t_wayLong t_bothLeast v1 v3 _ _ hc_24) _) (kV hw calX8_walks kw_30_8 rfl rfl ⟨Nat.le_of_ble_eq_true rfl, Nat.le_of_ble_eq_true rfl⟩) (wpV (hP.sub (ws' := [oX8 t_h t_a 0 t_taped t_at t_behind t_size t_kind t_number t_wrong t_wrongAt t_faultKind t_faultPlace t_x t_wayLong t_bothLeast, arI G (t_a 1) 558 t_all, arI G (t_a 16) 12 t_loss_16, arI G (t_a 17) 12 t_hops_17, arI G (t_a 18) 12 t_way]) [0, 1, 2, 3, 4] rfl) (hD.sub (ws' := [oX8 t_h t_a 0 t_taped t_at t_behind t_size t_kind t_number t_wrong t_wrongAt t_faultKind t_faultPlace t_x t_wayLong t_bothLeast, arI G (t_a 1) 558 t_all, arI G (t_a 16) 12 t_loss_16, arI G (t_a 17) 12 t_hops_17, arI G (t_a 18) 12 t_way]) [0, 1, 2, 3, 4] (by decide) rfl) hK (ci := 8) (q0 := 0) rfl rfl) rfl rfl hl.1 rfl (lv_room (Nat.le_of_ble_eq_true rfl)) dX8_best_112 ⟨Nat.zero_le _, Nat.zero_le _⟩) hS hA hP hD [0, 1, 2, 3, 4] rfl rfl (fun H locs hP hD hS => ?_)
              have hP : va_P G.1 vwCl [oX8 t_h t_a 0 t_taped t_at t_behind t_size t_kind t_number t_wrong t_wrongAt t_faultKind t_faultPlace t_x t_wayLong_23 t_bothLeast, arI G (t_a 1) 558 t_all, arI G (t_a 16) 12 t_loss_16, arI G (t_a 17) 12 t_hops_17, arI G (t_a 18) 12 t_way_22] H := hP
              have hD : va_D A [oX8 t_h t_a 0 t_taped t_at t_behind t_size t_kind t_number t_wrong t_wrongAt t_faultKind t_faultPlace t_x t_wayLong_23 t_bothLeast, arI G (t_a 1) 558 t_all, arI G (t_a 16) 12 t_loss_16, arI G (t_a 17) 12 t_hops_17, arI G (t_a 18) 12 t_way_22] := hD
              refine lv_iload hx hb dX8_best_115 (lv_at hl 4 rfl) ?_
              refine lv_if_ne (tgt := 129) hx hb dX8_best_117 (by decide) (fun c_25 => ?_) (fun c_25 => ?_)
              · have hf := iq c_25 hf
                refine lv_iload hx hb dX8_best_129 (lv_at hl 4 rfl) ?_
                refine lv_iconst (v := 1) hx hb dX8_best_131 (by decide) ?_
                refine lv_icmp_ne (tgt := 142) hx hb dX8_best_132 (by decide) (fun c_26 => ?_) (fun c_26 => ?_)
                · have hf := iq c_26 hf
                  refine lv_iload hx hb dX8_best_142 (lv_at hl 4 rfl) ?_
                  refine lv_bipush (v := 10) hx hb dX8_best_144 (by decide) ?_
                  refine lv_isub hx hb dX8_best_146 ?_
                  refine lv_aload_n hx hb dX8_best_147 rfl (lv_at hl 0 rfl) ?_
                  refine va_get (D := G.1) (ci := 8) (v := .int t_wayLong_23) (C := RX8) (T := TX8) (N := 33) hx hb hw inW8 hown hK.1 hP 0 rfl rfl 19 (by decide) (hw _ kw_29_23) (fun _ h9 => h9) rfl dX8_best_148 ?_
                  refine lv_icmp_gt (tgt := 167) hx hb dX8_best_151 (by decide) (fun c_27 => ?_) (fun c_27 => ?_)
                  · have hf := ip c_27 hf
                    refine lv_iconst (v := (-1)) hx hb dX8_best_167 (by decide) ?_
                    exact hRet _ _ _ _ _ _ _ _ _ _ hf hP hS dX8_best_168
                  · have hf := iq c_27 hf
                    refine lv_aload_n hx hb dX8_best_154 rfl (lv_at hl 0 rfl) ?_
                    refine va_get (D := G.1) (ci := 8) (v := .ref (t_a 18)) (C := RX8) (T := TX8) (N := 33) hx hb hw inW8 hown hK.1 hP 0 rfl rfl 18 (by decide) (hw _ kw_5_18) (fun _ h9 => h9) rfl dX8_best_155 ?_
                    refine lv_iload hx hb dX8_best_158 (lv_at hl 4 rfl) ?_
                    refine lv_bipush (v := 10) hx hb dX8_best_160 (by decide) ?_
                    refine lv_isub hx hb dX8_best_162 ?_
                    obtain ⟨hi_29, hf⟩ := rdI_in hf
                    refine va_iald hx hb hK.1 hP 4 0 rfl rfl hi_29 dX8_best_163 ?_
                    refine lv_topi (fun x_28 ex_28 => ?_)
                    have hf := hf x_28 ex_28
                    refine lv_goto (tgt := 168) hx hb dX8_best_164 (by decide) ?_
                    exact hRet _ _ _ _ _ _ _ _ _ _ hf hP hS dX8_best_168
                · have hf := ip c_26 hf
                  refine lv_aload_n hx hb dX8_best_135 rfl (lv_at hl 0 rfl) ?_
                  refine va_get (D := G.1) (ci := 8) (v := .int t_wayLong_23) (C := RX8) (T := TX8) (N := 33) hx hb hw inW8 hown hK.1 hP 0 rfl rfl 19 (by decide) (hw _ kw_29_23) (fun _ h9 => h9) rfl dX8_best_136 ?_
                  refine lv_goto (tgt := 168) hx hb dX8_best_139 (by decide) ?_
                  exact hRet _ _ _ _ _ _ _ _ _ _ hf hP hS dX8_best_168
              · have hf := ip c_25 hf
                refine lv_aload_n hx hb dX8_best_120 rfl (lv_at hl 0 rfl) ?_
                refine va_get (D := G.1) (ci := 8) (v := .ref (t_a 16)) (C := RX8) (T := TX8) (N := 33) hx hb hw inW8 hown hK.1 hP 0 rfl rfl 16 (by decide) (hw _ kw_5_16) (fun _ h9 => h9) rfl dX8_best_121 ?_
                refine lv_iload_n hx hb dX8_best_124 rfl (lv_at hl 1 rfl) ?_
                obtain ⟨hi_31, hf⟩ := rdI_in hf
                refine va_iald hx hb hK.1 hP 2 0 rfl rfl hi_31 dX8_best_125 ?_
                refine lv_topi (fun x_30 ex_30 => ?_)
                have hf := hf x_30 ex_30
                refine lv_goto (tgt := 168) hx hb dX8_best_126 (by decide) ?_
                exact hRet _ _ _ _ _ _ _ _ _ _ hf hP hS dX8_best_168
            · have hf := ip c_21 hf
              refine lv_iconst (v := (-1)) hx hb dX8_best_107 (by decide) ?_
              exact hRet _ _ _ _ _ _ _ _ _ _ hf hP hS dX8_best_108
          · have hf := ip c_13 hf
            refine lv_bipush (v := (-3)) hx hb dX8_best_81 (by decide) ?_
            exact hRet _ _ _ _ _ _ _ _ _ _ hf hP hS dX8_best_83
    refine lv_if_ne (tgt := 43) hx hb dX8_best_22 (by decide) (fun c_32 => ?_) (fun c_32 => ?_)
    · have hf := iq c_32 hf
      exact J43  _ _ _ hP hD hS (lv_sub hl [0, 1, 2, 3, 4] rfl) hf
    · have hf := ip c_32 hf
      refine lv_iload hx hb dX8_best_25 (lv_at hl 4 rfl) ?_
      refine lv_i2l hx hb dX8_best_27 rfl ?_
      refine lv_ldc2 hx hb hown (hw _ kw_29_20) dX8_best_28 ?_
      refine lv_ldc2 hx hb hown (hw _ kw_29_21) dX8_best_31 ?_
      obtain ⟨r_33, hc_34, hf⟩ := bd1_in hf
      refine rcI (va_runS (As := [.long (Int32.toInt64 v4), .long 10, .long 21]) (rest := []) ⟨hx, hb, hml, hown, hw⟩ ((ctX8_within l G (Int32.toInt64 v4) 10 21 _ hc_34) _) (kS hw calX8_within kw_14_2 rfl rfl ⟨Nat.le_of_ble_eq_true rfl, Nat.le_of_ble_eq_true rfl⟩) (rpS (hP.sub (ws' := []) [] rfl) hK) rfl rfl hl.1 rfl (lv_room (Nat.le_of_ble_eq_true rfl)) dX8_best_34 ⟨Nat.zero_le _, Nat.zero_le _⟩) hS hA hP (fun H locs hP hS => ?_)
      refine lv_if_ne (tgt := 43) hx hb dX8_best_37 (by decide) (fun c_35 => ?_) (fun c_35 => ?_)
      · have hf := iq c_35 hf
        exact J43  _ _ _ hP hD hS (lv_sub hl [0, 1, 2, 3, 4] rfl) hf
      · have hf := ip c_35 hf
        refine lv_bipush (v := (-2)) hx hb dX8_best_40 (by decide) ?_
        exact hRet _ _ _ _ _ _ _ _ _ _ hf hP hS dX8_best_42
theorem calX8_hears : CalV yX8_hears cX8_hears 4 (some .int) 1 := ⟨⟨kw_31_0, kw_1_5, by decide +kernel⟩, kw_30_22, kw_30_23⟩
set_option maxHeartbeats 8000000 in
set_option maxRecDepth 100000 in
theorem ctX8_hears (l : Launch) (G : GT) (t_h : Nat) (t_a : Nat → Nat) (t_thrown : Int32) (t_all : Nat → Int32) (t_taped : Int32) (t_at : Int32) (t_behind : Int32) (t_size : Int32) (t_kind : Int32) (t_number : Int32) (t_wrong : Int32) (t_wrongAt : Int32) (t_faultKind : Int32) (t_faultPlace : Int32) (t_x : Int32) (t_loss : Nat → Int32) (t_hops : Nat → Int32) (t_wayLong : Int32) (t_bothLeast : Int32) (v1 : Int32) (r : Int32) (o_t_thrown : Int32) (o_t_loss : Nat → Int32) (o_t_hops : Nat → Int32) (hf : fX8_hears t_thrown t_all t_loss t_hops v1 = some (r, o_t_thrown, o_t_loss, o_t_hops)) : WrI l yX8_hears (Cond.code yX8_hears cX8_hears 4 (some .int)) { frames := 5, cells := 0, slots := 0, locals := 121 } G [.ref t_h, .int v1] [oX8 t_h t_a t_thrown t_taped t_at t_behind t_size t_kind t_number t_wrong t_wrongAt t_faultKind t_faultPlace t_x t_wayLong t_bothLeast, arI G (t_a 1) 558 t_all, arI G (t_a 16) 12 t_loss, arI G (t_a 17) 12 t_hops] [oX8 t_h t_a o_t_thrown t_taped t_at t_behind t_size t_kind t_number t_wrong t_wrongAt t_faultKind t_faultPlace t_x t_wayLong t_bothLeast, arI G (t_a 1) 558 t_all, arI G (t_a 16) 12 o_t_loss, arI G (t_a 17) 12 o_t_hops] r := by
  intro sz
  refine Met.ofW (cc := cX8_hears) (maxL := 4) (ret := (some .int)) (by decide) rfl ?_
  intro p e s m args below meth c s₁ B hml hv
  obtain ⟨hargs, hsz, hP, hD0, hK⟩ := hv
  subst hsz
  obtain ⟨hx, hb, hr, hw, hown, hlk⟩ := fwB B
  refine fw_enter hargs (Nat.le_of_ble_eq_true rfl) (fun ls hl => ?_)
  have hl : lv_has ls 4 [(0, .ref t_h), (1, .int v1)] := hl
  refine fw_Q (P := fun Q => ∃ A : Nat → Prop, va_D A [oX8 t_h t_a t_thrown t_taped t_at t_behind t_size t_kind t_number t_wrong t_wrongAt t_faultKind t_faultPlace t_x t_wayLong t_bothLeast, arI G (t_a 1) 558 t_all, arI G (t_a 16) 12 t_loss, arI G (t_a 17) 12 t_hops] ∧ va_S A s.heap s.heap [] ∧ (∀ q, s.heap.size ≤ q → A q) ∧ ∀ (v : Int32) (n_t_thrown : Int32) (n_t_loss : Nat → Int32) (n_t_hops : Nat → Int32) (H : Heap) (locs : List Loc) (pc : Nat) (ls : Array Slot), some (v, n_t_thrown, n_t_loss, n_t_hops) = some (r, o_t_thrown, o_t_loss, o_t_hops) → va_P G.1 vwCl [oX8 t_h t_a n_t_thrown t_taped t_at t_behind t_size t_kind t_number t_wrong t_wrongAt t_faultKind t_faultPlace t_x t_wayLong t_bothLeast, arI G (t_a 1) 558 t_all, arI G (t_a 16) 12 n_t_loss, arI G (t_a 17) 12 n_t_hops] H → va_S A s.heap H locs → decode cX8_hears pc = .ok (.ireturn, 1) → W p l e ({ frames := 5, cells := 0, slots := 0, locals := 121 } : Room) s m args below meth c H locs 0 0 Q (F0 m pc ls [.int v])) ⟨va_A [oX8 t_h t_a t_thrown t_taped t_at t_behind t_size t_kind t_number t_wrong t_wrongAt t_faultKind t_faultPlace t_x t_wayLong t_bothLeast, arI G (t_a 1) 558 t_all, arI G (t_a 16) 12 t_loss, arI G (t_a 17) 12 t_hops] s.heap.size, hD0.self (sz := s.heap.size), va_S.rf, fun q h => Or.inr h, ?_⟩ ?_
  · intro v n_t_thrown n_t_loss n_t_hops H locs pc ls h hP hS hd
    cases h
    exact retWI hx hb hr hlk hS hP rfl hd
  rintro Q ⟨A, hD, hS, hA, hRet⟩
  change W p l e ({ frames := 5, cells := 0, slots := 0, locals := 121 } : Room) s m args below meth c _ _ 0 0 Q _
  have L33 : ∀ (t_thrown : Int32) (t_loss : Nat → Int32) (t_hops : Nat → Int32) (K : Int32 → Option (Int32 × Int32 × (Nat → Int32) × (Nat → Int32))) (n : Nat) (l2 : Int32) (l3 : Int32) (H : Heap) (locs : List Loc) (ls : Array Slot), va_P G.1 vwCl [oX8 t_h t_a t_thrown t_taped t_at t_behind t_size t_kind t_number t_wrong t_wrongAt t_faultKind t_faultPlace t_x t_wayLong t_bothLeast, arI G (t_a 1) 558 t_all, arI G (t_a 16) 12 t_loss, arI G (t_a 17) 12 t_hops] H → va_D A [oX8 t_h t_a t_thrown t_taped t_at t_behind t_size t_kind t_number t_wrong t_wrongAt t_faultKind t_faultPlace t_x t_wayLong t_bothLeast, arI G (t_a 1) 558 t_all, arI G (t_a 16) 12 t_loss, arI G (t_a 17) 12 t_hops] → va_S A s.heap H locs → lv_has ls 4 [(0, .ref t_h), (1, .int v1), (2, .int l2), (3, .int l3)] → fX8_hears_33 v1 t_all t_loss K n l2 l3 = some (r, o_t_thrown, o_t_loss, o_t_hops) → (∀ (k2 : Int32) (H : Heap) (locs : List Loc) (ls : Array Slot), va_P G.1 vwCl [oX8 t_h t_a t_thrown t_taped t_at t_behind t_size t_kind t_number t_wrong t_wrongAt t_faultKind t_faultPlace t_x t_wayLong t_bothLeast, arI G (t_a 1) 558 t_all, arI G (t_a 16) 12 t_loss, arI G (t_a 17) 12 t_hops] H → va_D A [oX8 t_h t_a t_thrown t_taped t_at t_behind t_size t_kind t_number t_wrong t_wrongAt t_faultKind t_faultPlace t_x t_wayLong t_bothLeast, arI G (t_a 1) 558 t_all, arI G (t_a 16) 12 t_loss, arI G (t_a 17) 12 t_hops] → va_S A s.heap H locs → lv_has ls 4 [(2, .int k2)] → K k2 = some (r, o_t_thrown, o_t_loss, o_t_hops) → W p l e ({ frames := 5, cells := 0, slots := 0, locals := 121 } : Room) s m args below meth c H locs 0 0 Q (F0 m 79 ls [])) → W p l e ({ frames := 5, cells := 0, slots := 0, locals := 121 } : Room) s m args below meth c H locs 0 0 Q (F0 m 33 ls []) := by
    intro t_thrown t_loss t_hops K n
    induction n with
    | zero => intro l2 l3 H locs ls hP hD hS hl hf; rw [fX8_hears_33] at hf; cases hf
    | succ n ih =>
      intro l2 l3 H locs ls hP hD hS hl hf hX
      rw [fX8_hears_33] at hf
      refine lv_iload_n hx hb dX8_hears_33 rfl (lv_at hl 3 rfl) ?_
      refine lv_aload_n hx hb dX8_hears_34 rfl (lv_at hl 0 rfl) ?_
      refine va_get (D := G.1) (ci := 8) (v := .ref (t_a 1)) (C := RX8) (T := TX8) (N := 33) hx hb hw inW8 hown hK.1 hP 0 rfl rfl 1 (by decide) (hw _ kw_5_11) (fun _ h9 => h9) rfl dX8_hears_35 ?_
      refine lv_iconst (v := 0) hx hb dX8_hears_38 (by decide) ?_
      obtain ⟨hi_10, hf⟩ := rdI_in hf
      refine va_iald hx hb hK.1 hP 1 0 rfl rfl hi_10 dX8_hears_39 ?_
      refine lv_topi (fun x_9 ex_9 => ?_)
      have hf := hf x_9 ex_9
      refine lv_icmp_ge (tgt := 79) hx hb dX8_hears_40 (by decide) (fun c_11 => ?_) (fun c_11 => ?_)
      · have hf := ip c_11 hf
        exact hX _ _ _ _ hP hD hS (lv_sub hl [2] rfl) hf
      · have hf := iq c_11 hf
        refine lv_iload_n hx hb dX8_hears_43 rfl (lv_at hl 2 rfl) ?_
        refine lv_iload_n hx hb dX8_hears_44 rfl (lv_at hl 3 rfl) ?_
        refine lv_iload_n hx hb dX8_hears_45 rfl (lv_at hl 1 rfl) ?_
        refine jn_el hf (fun k_13 ek_13 hf => ?_)
        have J71 : ∀ (z_12 : Int32) (H : Heap) (locs : List Loc) (ls : Array Slot), va_P G.1 vwCl [oX8 t_h t_a t_thrown t_taped t_at t_behind t_size t_kind t_number t_wrong t_wrongAt t_faultKind t_faultPlace t_x t_wayLong t_bothLeast, arI G (t_a 1) 558 t_all, arI G (t_a 16) 12 t_loss, arI G (t_a 17) 12 t_hops] H → va_D A [oX8 t_h t_a t_thrown t_taped t_at t_behind t_size t_kind t_number t_wrong t_wrongAt t_faultKind t_faultPlace t_x t_wayLong t_bothLeast, arI G (t_a 1) 558 t_all, arI G (t_a 16) 12 t_loss, arI G (t_a 17) 12 t_hops] → va_S A s.heap H locs → lv_has ls 4 [(0, .ref t_h), (1, .int v1), (3, .int l3)] → k_13 z_12 = some (r, o_t_thrown, o_t_loss, o_t_hops) → W p l e ({ frames := 5, cells := 0, slots := 0, locals := 121 } : Room) s m args below meth c H locs 0 0 Q (F0 m 71 ls [.int z_12, .int l2]) := by
          intro z_12 H locs ls hP hD hS hl hf
          rw [ek_13] at hf
          refine lv_ior hx hb dX8_hears_71 ?_
          refine lv_topi (fun y_14 ey_14 => ?_)
          have hf := bnd_all hf y_14 ey_14
          refine lv_istore_n (lv' := [(2, .int y_14), (0, .ref t_h), (1, .int v1), (3, .int l3)]) hx hb dX8_hears_72 rfl hl (by decide) rfl (fun ls hl => ?_)
          refine lv_iinc (v := (l3 + 1)) (lv' := [(3, .int (l3 + 1)), (2, .int y_14), (0, .ref t_h), (1, .int v1)]) hx hb dX8_hears_73 hl (k := 3) rfl (by rfl) (by decide) rfl (fun ls hl => ?_)
          refine lv_goto (tgt := 33) hx hb dX8_hears_76 (by decide) ?_
          exact ih _ _ _ _ _ hP hD hS (lv_sub hl [2, 3, 1, 0] rfl) hf hX
        refine lv_icmp_eq (tgt := 70) hx hb dX8_hears_46 (by decide) (fun c_15 => ?_) (fun c_15 => ?_)
        · have hf := ip c_15 hf
          refine lv_iconst (v := 0) hx hb dX8_hears_70 (by decide) ?_
          exact J71 _ _ _ _ hP hD hS (lv_sub hl [0, 1, 3] rfl) hf
        · have hf := iq c_15 hf
          refine lv_aload_n hx hb dX8_hears_49 rfl (lv_at hl 0 rfl) ?_
          refine va_get (D := G.1) (ci := 8) (v := .ref (t_a 16)) (C := RX8) (T := TX8) (N := 33) hx hb hw inW8 hown hK.1 hP 0 rfl rfl 16 (by decide) (hw _ kw_5_16) (fun _ h9 => h9) rfl dX8_hears_50 ?_
          refine lv_iload_n hx hb dX8_hears_53 rfl (lv_at hl 3 rfl) ?_
          obtain ⟨hi_17, hf⟩ := rdI_in hf
          refine va_iald hx hb hK.1 hP 2 0 rfl rfl hi_17 dX8_hears_54 ?_
          refine lv_topi (fun x_16 ex_16 => ?_)
          have hf := hf x_16 ex_16
          refine lv_aload_n hx hb dX8_hears_55 rfl (lv_at hl 0 rfl) ?_
          refine va_get (D := G.1) (ci := 8) (v := .ref (t_a 1)) (C := RX8) (T := TX8) (N := 33) hx hb hw inW8 hown hK.1 hP 0 rfl rfl 1 (by decide) (hw _ kw_5_11) (fun _ h9 => h9) rfl dX8_hears_56 ?_
          refine lv_iconst (v := 3) hx hb dX8_hears_59 (by decide) ?_
          obtain ⟨hi_19, hf⟩ := rdI_in hf
          refine va_iald hx hb hK.1 hP 1 0 rfl rfl hi_19 dX8_hears_60 ?_
          refine lv_topi (fun x_18 ex_18 => ?_)
          have hf := hf x_18 ex_18
          refine lv_icmp_gt (tgt := 70) hx hb dX8_hears_61 (by decide) (fun c_20 => ?_) (fun c_20 => ?_)
          · have hf := ip c_20 hf
            refine lv_iconst (v := 0) hx hb dX8_hears_70 (by decide) ?_
            exact J71 _ _ _ _ hP hD hS (lv_sub hl [0, 1, 3] rfl) hf
          · have hf := iq c_20 hf
            refine lv_iconst (v := 1) hx hb dX8_hears_64 (by decide) ?_
            refine lv_iload_n hx hb dX8_hears_65 rfl (lv_at hl 3 rfl) ?_
            refine lv_ishl hx hb dX8_hears_66 ?_
            refine lv_goto (tgt := 71) hx hb dX8_hears_67 (by decide) ?_
            exact J71 _ _ _ _ hP hD hS (lv_sub hl [0, 1, 3] rfl) hf
  unfold fX8_hears at hf
  refine lv_aload_n hx hb dX8_hears_0 rfl (lv_at hl 0 rfl) ?_
  refine lv_iconst (v := 0) hx hb dX8_hears_1 (by decide) ?_
  refine va_put (D := G.1) (ci := 8) (v := .int 0) (ty := .int) (C := RX8) (T := TX8) (N := 33) hx hb hw inW8 tyX8 tyX8_ok nmX8 hown hK.1 hP hD hS 0 rfl rfl 0 (by decide) (hw _ kw_6_21) (fun _ h9 => h9) rfl (by decide +kernel) rfl rfl (Nat.le_of_ble_eq_true rfl) dX8_hears_2 (fun H locs hP hD hS => ?_)
  have hP : va_P G.1 vwCl [oX8 t_h t_a 0 t_taped t_at t_behind t_size t_kind t_number t_wrong t_wrongAt t_faultKind t_faultPlace t_x t_wayLong t_bothLeast, arI G (t_a 1) 558 t_all, arI G (t_a 16) 12 t_loss, arI G (t_a 17) 12 t_hops] H := hP
  have hD : va_D A [oX8 t_h t_a 0 t_taped t_at t_behind t_size t_kind t_number t_wrong t_wrongAt t_faultKind t_faultPlace t_x t_wayLong t_bothLeast, arI G (t_a 1) 558 t_all, arI G (t_a 16) 12 t_loss, arI G (t_a 17) 12 t_hops] := hD
  refine lv_aload_n hx hb dX8_hears_5 rfl (lv_at hl 0 rfl) ?_
  refine lv_iload_n hx hb dX8_hears_6 rfl (lv_at hl 1 rfl) ?_
  refine lv_i2l hx hb dX8_hears_7 rfl ?_
  obtain ⟨r_1, hc_2, hf⟩ := bd1_in hf
  refine rcI (va_runV (As := [.long (Int32.toInt64 v1)]) (rest := []) ⟨hx, hb, hml, hown, hw⟩ ((ctX8_isWindow l G t_h t_a 0 t_all t_taped t_at t_behind t_size t_kind t_number t_wrong t_wrongAt t_faultKind t_faultPlace t_x t_wayLong t_bothLeast (Int32.toInt64 v1) _ hc_2) _) (kV hw calX8_isWindow kw_20_4 rfl rfl ⟨Nat.le_of_ble_eq_true rfl, Nat.le_of_ble_eq_true rfl⟩) (rpV (hP.sub (ws' := [oX8 t_h t_a 0 t_taped t_at t_behind t_size t_kind t_number t_wrong t_wrongAt t_faultKind t_faultPlace t_x t_wayLong t_bothLeast, arI G (t_a 1) 558 t_all]) [0, 1] rfl) hK (ci := 8) (q0 := 0) rfl rfl) rfl rfl hl.1 rfl (lv_room (Nat.le_of_ble_eq_true rfl)) dX8_hears_8 ⟨Nat.zero_le _, Nat.zero_le _⟩) hS hA hP (fun H locs hP hS => ?_)
  refine lv_if_ne (tgt := 17) hx hb dX8_hears_11 (by decide) (fun c_3 => ?_) (fun c_3 => ?_)
  · have hf := iq c_3 hf
    refine lv_aload_n hx hb dX8_hears_17 rfl (lv_at hl 0 rfl) ?_
    refine lv_iload_n hx hb dX8_hears_18 rfl (lv_at hl 1 rfl) ?_
    refine lv_iconst (v := 0) hx hb dX8_hears_19 (by decide) ?_
    refine lv_aload_n hx hb dX8_hears_20 rfl (lv_at hl 0 rfl) ?_
    refine va_get (D := G.1) (ci := 8) (v := .ref (t_a 1)) (C := RX8) (T := TX8) (N := 33) hx hb hw inW8 hown hK.1 hP 0 rfl rfl 1 (by decide) (hw _ kw_5_11) (fun _ h9 => h9) rfl dX8_hears_21 ?_
    refine lv_iconst (v := 1) hx hb dX8_hears_24 (by decide) ?_
    obtain ⟨hi_5, hf⟩ := rdI_in hf
    refine va_iald hx hb hK.1 hP 1 0 rfl rfl hi_5 dX8_hears_25 ?_
    refine lv_topi (fun x_4 ex_4 => ?_)
    have hf := hf x_4 ex_4
    obtain ⟨t_loss_6, t_hops_7, hc_8, hf⟩ := bd2_in hf
    refine wcV (w1 := [oX8 t_h t_a 0 t_taped t_at t_behind t_size t_kind t_number t_wrong t_wrongAt t_faultKind t_faultPlace t_x t_wayLong t_bothLeast, arI G (t_a 1) 558 t_all, arI G (t_a 16) 12 t_loss_6, arI G (t_a 17) 12 t_hops_7]) (va_runV (As := [.int v1, .int 0, .int x_4]) (rest := []) ⟨hx, hb, hml, hown, hw⟩ ((ctX8_laysLoss l G t_h t_a 0 t_all t_taped t_at t_behind t_size t_kind t_number t_wrong t_wrongAt t_faultKind t_faultPlace t_x t_loss t_hops t_wayLong t_bothLeast v1 0 x_4 _ _ hc_8) _) (kV hw calX8_laysLoss kw_30_4 rfl rfl ⟨Nat.le_of_ble_eq_true rfl, Nat.le_of_ble_eq_true rfl⟩) (wpV (hP.sub (ws' := [oX8 t_h t_a 0 t_taped t_at t_behind t_size t_kind t_number t_wrong t_wrongAt t_faultKind t_faultPlace t_x t_wayLong t_bothLeast, arI G (t_a 1) 558 t_all, arI G (t_a 16) 12 t_loss, arI G (t_a 17) 12 t_hops]) [0, 1, 2, 3] rfl) (hD.sub (ws' := [oX8 t_h t_a 0 t_taped t_at t_behind t_size t_kind t_number t_wrong t_wrongAt t_faultKind t_faultPlace t_x t_wayLong t_bothLeast, arI G (t_a 1) 558 t_all, arI G (t_a 16) 12 t_loss, arI G (t_a 17) 12 t_hops]) [0, 1, 2, 3] (by decide) rfl) hK (ci := 8) (q0 := 0) rfl rfl) rfl rfl hl.1 rfl (lv_room (Nat.le_of_ble_eq_true rfl)) dX8_hears_26 ⟨Nat.zero_le _, Nat.zero_le _⟩) hS hA hP hD [0, 1, 2, 3] rfl rfl (fun H locs hP hD hS => ?_)
    have hP : va_P G.1 vwCl [oX8 t_h t_a 0 t_taped t_at t_behind t_size t_kind t_number t_wrong t_wrongAt t_faultKind t_faultPlace t_x t_wayLong t_bothLeast, arI G (t_a 1) 558 t_all, arI G (t_a 16) 12 t_loss_6, arI G (t_a 17) 12 t_hops_7] H := hP
    have hD : va_D A [oX8 t_h t_a 0 t_taped t_at t_behind t_size t_kind t_number t_wrong t_wrongAt t_faultKind t_faultPlace t_x t_wayLong t_bothLeast, arI G (t_a 1) 558 t_all, arI G (t_a 16) 12 t_loss_6, arI G (t_a 17) 12 t_hops_7] := hD
    refine lv_iconst (v := 0) hx hb dX8_hears_29 (by decide) ?_
    refine lv_istore_n (lv' := [(2, .int 0), (0, .ref t_h), (1, .int v1)]) hx hb dX8_hears_30 rfl hl (by decide) rfl (fun ls hl => ?_)
    refine lv_iconst (v := 0) hx hb dX8_hears_31 (by decide) ?_
    refine lv_istore_n (lv' := [(3, .int 0), (2, .int 0), (0, .ref t_h), (1, .int v1)]) hx hb dX8_hears_32 rfl hl (by decide) rfl (fun ls hl => ?_)
    refine L33 _ _ _ _ _ _ _ _ _ _ hP hD hS (lv_sub hl [2, 3, 1, 0] rfl) hf (fun w_21 H locs ls hP hD hS hl hf => ?_)
    refine lv_iload_n hx hb dX8_hears_79 rfl (lv_at hl 0 rfl) ?_
    exact hRet _ _ _ _ _ _ _ _ hf hP hS dX8_hears_80
  · have hf := ip c_3 hf
    refine lv_bipush (v := (-2)) hx hb dX8_hears_14 (by decide) ?_
    exact hRet _ _ _ _ _ _ _ _ hf hP hS dX8_hears_16
theorem calX8_overhears : CalV yX8_overhears cX8_overhears 5 (some .int) 2 := ⟨⟨kw_31_8, kw_1_5, by decide +kernel⟩, kw_31_6, kw_31_7⟩
set_option maxHeartbeats 8000000 in
set_option maxRecDepth 100000 in
theorem ctX8_overhears (l : Launch) (G : GT) (t_h : Nat) (t_a : Nat → Nat) (t_thrown : Int32) (t_all : Nat → Int32) (t_taped : Int32) (t_at : Int32) (t_behind : Int32) (t_size : Int32) (t_kind : Int32) (t_number : Int32) (t_wrong : Int32) (t_wrongAt : Int32) (t_faultKind : Int32) (t_faultPlace : Int32) (t_x : Int32) (t_loss : Nat → Int32) (t_hops : Nat → Int32) (t_way : Nat → Int32) (t_wayLong : Int32) (t_bothLeast : Int32) (v1 : Int32) (v2 : Int32) (r : Int32) (o_t_thrown : Int32) (o_t_loss : Nat → Int32) (o_t_hops : Nat → Int32) (o_t_way : Nat → Int32) (o_t_wayLong : Int32) (hf : fX8_overhears t_thrown t_all t_loss t_hops t_way t_wayLong v1 v2 = some (r, o_t_thrown, o_t_loss, o_t_hops, o_t_way, o_t_wayLong)) : WrI l yX8_overhears (Cond.code yX8_overhears cX8_overhears 5 (some .int)) { frames := 5, cells := 0, slots := 0, locals := 121 } G [.ref t_h, .int v1, .int v2] [oX8 t_h t_a t_thrown t_taped t_at t_behind t_size t_kind t_number t_wrong t_wrongAt t_faultKind t_faultPlace t_x t_wayLong t_bothLeast, arI G (t_a 1) 558 t_all, arI G (t_a 16) 12 t_loss, arI G (t_a 17) 12 t_hops, arI G (t_a 18) 12 t_way] [oX8 t_h t_a o_t_thrown t_taped t_at t_behind t_size t_kind t_number t_wrong t_wrongAt t_faultKind t_faultPlace t_x o_t_wayLong t_bothLeast, arI G (t_a 1) 558 t_all, arI G (t_a 16) 12 o_t_loss, arI G (t_a 17) 12 o_t_hops, arI G (t_a 18) 12 o_t_way] r := by
  intro sz
  refine Met.ofW (cc := cX8_overhears) (maxL := 5) (ret := (some .int)) (by decide) rfl ?_
  intro p e s m args below meth c s₁ B hml hv
  obtain ⟨hargs, hsz, hP, hD0, hK⟩ := hv
  subst hsz
  obtain ⟨hx, hb, hr, hw, hown, hlk⟩ := fwB B
  refine fw_enter hargs (Nat.le_of_ble_eq_true rfl) (fun ls hl => ?_)
  have hl : lv_has ls 5 [(0, .ref t_h), (1, .int v1), (2, .int v2)] := hl
  refine fw_Q (P := fun Q => ∃ A : Nat → Prop, va_D A [oX8 t_h t_a t_thrown t_taped t_at t_behind t_size t_kind t_number t_wrong t_wrongAt t_faultKind t_faultPlace t_x t_wayLong t_bothLeast, arI G (t_a 1) 558 t_all, arI G (t_a 16) 12 t_loss, arI G (t_a 17) 12 t_hops, arI G (t_a 18) 12 t_way] ∧ va_S A s.heap s.heap [] ∧ (∀ q, s.heap.size ≤ q → A q) ∧ ∀ (v : Int32) (n_t_thrown : Int32) (n_t_loss : Nat → Int32) (n_t_hops : Nat → Int32) (n_t_way : Nat → Int32) (n_t_wayLong : Int32) (H : Heap) (locs : List Loc) (pc : Nat) (ls : Array Slot), some (v, n_t_thrown, n_t_loss, n_t_hops, n_t_way, n_t_wayLong) = some (r, o_t_thrown, o_t_loss, o_t_hops, o_t_way, o_t_wayLong) → va_P G.1 vwCl [oX8 t_h t_a n_t_thrown t_taped t_at t_behind t_size t_kind t_number t_wrong t_wrongAt t_faultKind t_faultPlace t_x n_t_wayLong t_bothLeast, arI G (t_a 1) 558 t_all, arI G (t_a 16) 12 n_t_loss, arI G (t_a 17) 12 n_t_hops, arI G (t_a 18) 12 n_t_way] H → va_S A s.heap H locs → decode cX8_overhears pc = .ok (.ireturn, 1) → W p l e ({ frames := 5, cells := 0, slots := 0, locals := 121 } : Room) s m args below meth c H locs 0 0 Q (F0 m pc ls [.int v])) ⟨va_A [oX8 t_h t_a t_thrown t_taped t_at t_behind t_size t_kind t_number t_wrong t_wrongAt t_faultKind t_faultPlace t_x t_wayLong t_bothLeast, arI G (t_a 1) 558 t_all, arI G (t_a 16) 12 t_loss, arI G (t_a 17) 12 t_hops, arI G (t_a 18) 12 t_way] s.heap.size, hD0.self (sz := s.heap.size), va_S.rf, fun q h => Or.inr h, ?_⟩ ?_
  · intro v n_t_thrown n_t_loss n_t_hops n_t_way n_t_wayLong H locs pc ls h hP hS hd
    cases h
    exact retWI hx hb hr hlk hS hP rfl hd
  rintro Q ⟨A, hD, hS, hA, hRet⟩
  change W p l e ({ frames := 5, cells := 0, slots := 0, locals := 121 } : Room) s m args below meth c _ _ 0 0 Q _
  have L53 : ∀ (t_thrown : Int32) (t_loss : Nat → Int32) (t_hops : Nat → Int32) (t_way : Nat → Int32) (t_wayLong : Int32) (K : Int32 → Option (Int32 × Int32 × (Nat → Int32) × (Nat → Int32) × (Nat → Int32) × Int32)) (n : Nat) (l3 : Int32) (l4 : Int32) (H : Heap) (locs : List Loc) (ls : Array Slot), va_P G.1 vwCl [oX8 t_h t_a t_thrown t_taped t_at t_behind t_size t_kind t_number t_wrong t_wrongAt t_faultKind t_faultPlace t_x t_wayLong t_bothLeast, arI G (t_a 1) 558 t_all, arI G (t_a 16) 12 t_loss, arI G (t_a 17) 12 t_hops, arI G (t_a 18) 12 t_way] H → va_D A [oX8 t_h t_a t_thrown t_taped t_at t_behind t_size t_kind t_number t_wrong t_wrongAt t_faultKind t_faultPlace t_x t_wayLong t_bothLeast, arI G (t_a 1) 558 t_all, arI G (t_a 16) 12 t_loss, arI G (t_a 17) 12 t_hops, arI G (t_a 18) 12 t_way] → va_S A s.heap H locs → lv_has ls 5 [(0, .ref t_h), (3, .int l3), (4, .int l4)] → fX8_overhears_53 t_way t_wayLong K n l3 l4 = some (r, o_t_thrown, o_t_loss, o_t_hops, o_t_way, o_t_wayLong) → (∀ (k3 : Int32) (H : Heap) (locs : List Loc) (ls : Array Slot), va_P G.1 vwCl [oX8 t_h t_a t_thrown t_taped t_at t_behind t_size t_kind t_number t_wrong t_wrongAt t_faultKind t_faultPlace t_x t_wayLong t_bothLeast, arI G (t_a 1) 558 t_all, arI G (t_a 16) 12 t_loss, arI G (t_a 17) 12 t_hops, arI G (t_a 18) 12 t_way] H → va_D A [oX8 t_h t_a t_thrown t_taped t_at t_behind t_size t_kind t_number t_wrong t_wrongAt t_faultKind t_faultPlace t_x t_wayLong t_bothLeast, arI G (t_a 1) 558 t_all, arI G (t_a 16) 12 t_loss, arI G (t_a 17) 12 t_hops, arI G (t_a 18) 12 t_way] → va_S A s.heap H locs → lv_has ls 5 [(3, .int k3)] → K k3 = some (r, o_t_thrown, o_t_loss, o_t_hops, o_t_way, o_t_wayLong) → W p l e ({ frames := 5, cells := 0, slots := 0, locals := 121 } : Room) s m args below meth c H locs 0 0 Q (F0 m 80 ls [])) → W p l e ({ frames := 5, cells := 0, slots := 0, locals := 121 } : Room) s m args below meth c H locs 0 0 Q (F0 m 53 ls []) := by
    intro t_thrown t_loss t_hops t_way t_wayLong K n
    induction n with
    | zero => intro l3 l4 H locs ls hP hD hS hl hf; rw [fX8_overhears_53] at hf; cases hf
    | succ n ih =>
      intro l3 l4 H locs ls hP hD hS hl hf hX
      rw [fX8_overhears_53] at hf
      refine lv_iload hx hb dX8_overhears_53 (lv_at hl 2 rfl) ?_
      refine lv_aload_n hx hb dX8_overhears_55 rfl (lv_at hl 0 rfl) ?_
      refine va_get (D := G.1) (ci := 8) (v := .int t_wayLong) (C := RX8) (T := TX8) (N := 33) hx hb hw inW8 hown hK.1 hP 0 rfl rfl 19 (by decide) (hw _ kw_29_23) (fun _ h9 => h9) rfl dX8_overhears_56 ?_
      refine lv_icmp_ge (tgt := 80) hx hb dX8_overhears_59 (by decide) (fun c_15 => ?_) (fun c_15 => ?_)
      · have hf := ip c_15 hf
        exact hX _ _ _ _ hP hD hS (lv_sub hl [1] rfl) hf
      · have hf := iq c_15 hf
        refine lv_iload_n hx hb dX8_overhears_62 rfl (lv_at hl 1 rfl) ?_
        refine lv_iconst (v := 1) hx hb dX8_overhears_63 (by decide) ?_
        refine lv_aload_n hx hb dX8_overhears_64 rfl (lv_at hl 0 rfl) ?_
        refine va_get (D := G.1) (ci := 8) (v := .ref (t_a 18)) (C := RX8) (T := TX8) (N := 33) hx hb hw inW8 hown hK.1 hP 0 rfl rfl 18 (by decide) (hw _ kw_5_18) (fun _ h9 => h9) rfl dX8_overhears_65 ?_
        refine lv_iload hx hb dX8_overhears_68 (lv_at hl 2 rfl) ?_
        obtain ⟨hi_17, hf⟩ := rdI_in hf
        refine va_iald hx hb hK.1 hP 4 0 rfl rfl hi_17 dX8_overhears_70 ?_
        refine lv_topi (fun x_16 ex_16 => ?_)
        have hf := hf x_16 ex_16
        refine lv_ishl hx hb dX8_overhears_71 ?_
        refine lv_ior hx hb dX8_overhears_72 ?_
        refine lv_topi (fun y_18 ey_18 => ?_)
        have hf := bnd_all hf y_18 ey_18
        refine lv_istore_n (lv' := [(3, .int y_18), (0, .ref t_h), (4, .int l4)]) hx hb dX8_overhears_73 rfl hl (by decide) rfl (fun ls hl => ?_)
        refine lv_iinc (v := (l4 + 1)) (lv' := [(4, .int (l4 + 1)), (3, .int y_18), (0, .ref t_h)]) hx hb dX8_overhears_74 hl (k := 2) rfl (by rfl) (by decide) rfl (fun ls hl => ?_)
        refine lv_goto (tgt := 53) hx hb dX8_overhears_77 (by decide) ?_
        exact ih _ _ _ _ _ hP hD hS (lv_sub hl [2, 1, 0] rfl) hf hX
  unfold fX8_overhears at hf
  refine lv_aload_n hx hb dX8_overhears_0 rfl (lv_at hl 0 rfl) ?_
  refine lv_iconst (v := 0) hx hb dX8_overhears_1 (by decide) ?_
  refine va_put (D := G.1) (ci := 8) (v := .int 0) (ty := .int) (C := RX8) (T := TX8) (N := 33) hx hb hw inW8 tyX8 tyX8_ok nmX8 hown hK.1 hP hD hS 0 rfl rfl 0 (by decide) (hw _ kw_6_21) (fun _ h9 => h9) rfl (by decide +kernel) rfl rfl (Nat.le_of_ble_eq_true rfl) dX8_overhears_2 (fun H locs hP hD hS => ?_)
  have hP : va_P G.1 vwCl [oX8 t_h t_a 0 t_taped t_at t_behind t_size t_kind t_number t_wrong t_wrongAt t_faultKind t_faultPlace t_x t_wayLong t_bothLeast, arI G (t_a 1) 558 t_all, arI G (t_a 16) 12 t_loss, arI G (t_a 17) 12 t_hops, arI G (t_a 18) 12 t_way] H := hP
  have hD : va_D A [oX8 t_h t_a 0 t_taped t_at t_behind t_size t_kind t_number t_wrong t_wrongAt t_faultKind t_faultPlace t_x t_wayLong t_bothLeast, arI G (t_a 1) 558 t_all, arI G (t_a 16) 12 t_loss, arI G (t_a 17) 12 t_hops, arI G (t_a 18) 12 t_way] := hD
  refine lv_aload_n hx hb dX8_overhears_5 rfl (lv_at hl 0 rfl) ?_
  refine lv_iload_n hx hb dX8_overhears_6 rfl (lv_at hl 1 rfl) ?_
  refine lv_iload_n hx hb dX8_overhears_7 rfl (lv_at hl 2 rfl) ?_
  obtain ⟨r_1, hc_2, hf⟩ := bd1_in hf
  refine rcI (va_runV (As := [.int v1, .int v2]) (rest := []) ⟨hx, hb, hml, hown, hw⟩ ((ctX8_areTwo l G t_h t_a 0 t_all t_taped t_at t_behind t_size t_kind t_number t_wrong t_wrongAt t_faultKind t_faultPlace t_x t_wayLong t_bothLeast v1 v2 _ hc_2) _) (kV hw calX8_areTwo kw_30_0 rfl rfl ⟨Nat.le_of_ble_eq_true rfl, Nat.le_of_ble_eq_true rfl⟩) (rpV (hP.sub (ws' := [oX8 t_h t_a 0 t_taped t_at t_behind t_size t_kind t_number t_wrong t_wrongAt t_faultKind t_faultPlace t_x t_wayLong t_bothLeast, arI G (t_a 1) 558 t_all]) [0, 1] rfl) hK (ci := 8) (q0 := 0) rfl rfl) rfl rfl hl.1 rfl (lv_room (Nat.le_of_ble_eq_true rfl)) dX8_overhears_8 ⟨Nat.zero_le _, Nat.zero_le _⟩) hS hA hP (fun H locs hP hS => ?_)
  refine lv_if_ne (tgt := 17) hx hb dX8_overhears_11 (by decide) (fun c_3 => ?_) (fun c_3 => ?_)
  · have hf := iq c_3 hf
    refine lv_aload_n hx hb dX8_overhears_17 rfl (lv_at hl 0 rfl) ?_
    refine lv_iload_n hx hb dX8_overhears_18 rfl (lv_at hl 2 rfl) ?_
    refine lv_iconst (v := 0) hx hb dX8_overhears_19 (by decide) ?_
    refine lv_aload_n hx hb dX8_overhears_20 rfl (lv_at hl 0 rfl) ?_
    refine va_get (D := G.1) (ci := 8) (v := .ref (t_a 1)) (C := RX8) (T := TX8) (N := 33) hx hb hw inW8 hown hK.1 hP 0 rfl rfl 1 (by decide) (hw _ kw_5_11) (fun _ h9 => h9) rfl dX8_overhears_21 ?_
    refine lv_iconst (v := 1) hx hb dX8_overhears_24 (by decide) ?_
    obtain ⟨hi_5, hf⟩ := rdI_in hf
    refine va_iald hx hb hK.1 hP 1 0 rfl rfl hi_5 dX8_overhears_25 ?_
    refine lv_topi (fun x_4 ex_4 => ?_)
    have hf := hf x_4 ex_4
    obtain ⟨t_loss_6, t_hops_7, hc_8, hf⟩ := bd2_in hf
    refine wcV (w1 := [oX8 t_h t_a 0 t_taped t_at t_behind t_size t_kind t_number t_wrong t_wrongAt t_faultKind t_faultPlace t_x t_wayLong t_bothLeast, arI G (t_a 1) 558 t_all, arI G (t_a 16) 12 t_loss_6, arI G (t_a 17) 12 t_hops_7]) (va_runV (As := [.int v2, .int 0, .int x_4]) (rest := []) ⟨hx, hb, hml, hown, hw⟩ ((ctX8_laysLoss l G t_h t_a 0 t_all t_taped t_at t_behind t_size t_kind t_number t_wrong t_wrongAt t_faultKind t_faultPlace t_x t_loss t_hops t_wayLong t_bothLeast v2 0 x_4 _ _ hc_8) _) (kV hw calX8_laysLoss kw_30_4 rfl rfl ⟨Nat.le_of_ble_eq_true rfl, Nat.le_of_ble_eq_true rfl⟩) (wpV (hP.sub (ws' := [oX8 t_h t_a 0 t_taped t_at t_behind t_size t_kind t_number t_wrong t_wrongAt t_faultKind t_faultPlace t_x t_wayLong t_bothLeast, arI G (t_a 1) 558 t_all, arI G (t_a 16) 12 t_loss, arI G (t_a 17) 12 t_hops]) [0, 1, 2, 3] rfl) (hD.sub (ws' := [oX8 t_h t_a 0 t_taped t_at t_behind t_size t_kind t_number t_wrong t_wrongAt t_faultKind t_faultPlace t_x t_wayLong t_bothLeast, arI G (t_a 1) 558 t_all, arI G (t_a 16) 12 t_loss, arI G (t_a 17) 12 t_hops]) [0, 1, 2, 3] (by decide) rfl) hK (ci := 8) (q0 := 0) rfl rfl) rfl rfl hl.1 rfl (lv_room (Nat.le_of_ble_eq_true rfl)) dX8_overhears_26 ⟨Nat.zero_le _, Nat.zero_le _⟩) hS hA hP hD [0, 1, 2, 3] rfl rfl (fun H locs hP hD hS => ?_)
    have hP : va_P G.1 vwCl [oX8 t_h t_a 0 t_taped t_at t_behind t_size t_kind t_number t_wrong t_wrongAt t_faultKind t_faultPlace t_x t_wayLong t_bothLeast, arI G (t_a 1) 558 t_all, arI G (t_a 16) 12 t_loss_6, arI G (t_a 17) 12 t_hops_7, arI G (t_a 18) 12 t_way] H := hP
    have hD : va_D A [oX8 t_h t_a 0 t_taped t_at t_behind t_size t_kind t_number t_wrong t_wrongAt t_faultKind t_faultPlace t_x t_wayLong t_bothLeast, arI G (t_a 1) 558 t_all, arI G (t_a 16) 12 t_loss_6, arI G (t_a 17) 12 t_hops_7, arI G (t_a 18) 12 t_way] := hD
    refine lv_aload_n hx hb dX8_overhears_29 rfl (lv_at hl 0 rfl) ?_
    refine va_get (D := G.1) (ci := 8) (v := .ref (t_a 16)) (C := RX8) (T := TX8) (N := 33) hx hb hw inW8 hown hK.1 hP 0 rfl rfl 16 (by decide) (hw _ kw_5_16) (fun _ h9 => h9) rfl dX8_overhears_30 ?_
    refine lv_iload_n hx hb dX8_overhears_33 rfl (lv_at hl 1 rfl) ?_
    obtain ⟨hi_10, hf⟩ := rdI_in hf
    refine va_iald hx hb hK.1 hP 2 0 rfl rfl hi_10 dX8_overhears_34 ?_
    refine lv_topi (fun x_9 ex_9 => ?_)
    have hf := hf x_9 ex_9
    refine lv_ldc hx hb hown (hw _ kw_29_22) dX8_overhears_35 ?_
    refine lv_icmp_ne (tgt := 42) hx hb dX8_overhears_37 (by decide) (fun c_11 => ?_) (fun c_11 => ?_)
    · have hf := iq c_11 hf
      refine lv_aload_n hx hb dX8_overhears_42 rfl (lv_at hl 0 rfl) ?_
      refine lv_iload_n hx hb dX8_overhears_43 rfl (lv_at hl 1 rfl) ?_
      refine lv_iconst (v := 0) hx hb dX8_overhears_44 (by decide) ?_
      obtain ⟨t_way_12, t_wayLong_13, hc_14, hf⟩ := bd2_in hf
      refine wcV (w1 := [oX8 t_h t_a 0 t_taped t_at t_behind t_size t_kind t_number t_wrong t_wrongAt t_faultKind t_faultPlace t_x t_wayLong_13 t_bothLeast, arI G (t_a 1) 558 t_all, arI G (t_a 16) 12 t_loss_6, arI G (t_a 17) 12 t_hops_7, arI G (t_a 18) 12 t_way_12]) (va_runV (As := [.int v1, .int 0]) (rest := []) ⟨hx, hb, hml, hown, hw⟩ ((ctX8_walks l G t_h t_a 0 t_all t_taped t_at t_behind t_size t_kind t_number t_wrong t_wrongAt t_faultKind t_faultPlace t_x t_loss_6 t_hops_7 t_way t_wayLong t_bothLeast v1 0 _ _ hc_14) _) (kV hw calX8_walks kw_30_8 rfl rfl ⟨Nat.le_of_ble_eq_true rfl, Nat.le_of_ble_eq_true rfl⟩) (wpV (hP.sub (ws' := [oX8 t_h t_a 0 t_taped t_at t_behind t_size t_kind t_number t_wrong t_wrongAt t_faultKind t_faultPlace t_x t_wayLong t_bothLeast, arI G (t_a 1) 558 t_all, arI G (t_a 16) 12 t_loss_6, arI G (t_a 17) 12 t_hops_7, arI G (t_a 18) 12 t_way]) [0, 1, 2, 3, 4] rfl) (hD.sub (ws' := [oX8 t_h t_a 0 t_taped t_at t_behind t_size t_kind t_number t_wrong t_wrongAt t_faultKind t_faultPlace t_x t_wayLong t_bothLeast, arI G (t_a 1) 558 t_all, arI G (t_a 16) 12 t_loss_6, arI G (t_a 17) 12 t_hops_7, arI G (t_a 18) 12 t_way]) [0, 1, 2, 3, 4] (by decide) rfl) hK (ci := 8) (q0 := 0) rfl rfl) rfl rfl hl.1 rfl (lv_room (Nat.le_of_ble_eq_true rfl)) dX8_overhears_45 ⟨Nat.zero_le _, Nat.zero_le _⟩) hS hA hP hD [0, 1, 2, 3, 4] rfl rfl (fun H locs hP hD hS => ?_)
      have hP : va_P G.1 vwCl [oX8 t_h t_a 0 t_taped t_at t_behind t_size t_kind t_number t_wrong t_wrongAt t_faultKind t_faultPlace t_x t_wayLong_13 t_bothLeast, arI G (t_a 1) 558 t_all, arI G (t_a 16) 12 t_loss_6, arI G (t_a 17) 12 t_hops_7, arI G (t_a 18) 12 t_way_12] H := hP
      have hD : va_D A [oX8 t_h t_a 0 t_taped t_at t_behind t_size t_kind t_number t_wrong t_wrongAt t_faultKind t_faultPlace t_x t_wayLong_13 t_bothLeast, arI G (t_a 1) 558 t_all, arI G (t_a 16) 12 t_loss_6, arI G (t_a 17) 12 t_hops_7, arI G (t_a 18) 12 t_way_12] := hD
      refine lv_iconst (v := 0) hx hb dX8_overhears_48 (by decide) ?_
      refine lv_istore_n (lv' := [(3, .int 0), (0, .ref t_h), (1, .int v1), (2, .int v2)]) hx hb dX8_overhears_49 rfl hl (by decide) rfl (fun ls hl => ?_)
      refine lv_iconst (v := 1) hx hb dX8_overhears_50 (by decide) ?_
      refine lv_istore (lv' := [(4, .int 1), (3, .int 0), (0, .ref t_h), (1, .int v1), (2, .int v2)]) hx hb dX8_overhears_51 hl (by decide) rfl (fun ls hl => ?_)
      refine L53 _ _ _ _ _ _ _ _ _ _ _ _ hP hD hS (lv_sub hl [2, 1, 0] rfl) hf (fun w_19 H locs ls hP hD hS hl hf => ?_)
      refine lv_iload_n hx hb dX8_overhears_80 rfl (lv_at hl 0 rfl) ?_
      exact hRet _ _ _ _ _ _ _ _ _ _ hf hP hS dX8_overhears_81
    · have hf := ip c_11 hf
      refine lv_iconst (v := 0) hx hb dX8_overhears_40 (by decide) ?_
      exact hRet _ _ _ _ _ _ _ _ _ _ hf hP hS dX8_overhears_41
  · have hf := ip c_3 hf
    refine lv_bipush (v := (-2)) hx hb dX8_overhears_14 (by decide) ?_
    exact hRet _ _ _ _ _ _ _ _ _ _ hf hP hS dX8_overhears_16
theorem calX8_isHeard : CalV yX8_isHeard cX8_isHeard 5 (some .boolean) 4 := ⟨⟨kw_32_0, kw_1_5, by decide +kernel⟩, kw_31_22, kw_31_23⟩
set_option maxHeartbeats 8000000 in
set_option maxRecDepth 100000 in
theorem ctX8_isHeard (l : Launch) (G : GT) (t_h : Nat) (t_a : Nat → Nat) (t_thrown : Int32) (t_all : Nat → Int32) (t_taped : Int32) (t_at : Int32) (t_behind : Int32) (t_size : Int32) (t_kind : Int32) (t_number : Int32) (t_wrong : Int32) (t_wrongAt : Int32) (t_faultKind : Int32) (t_faultPlace : Int32) (t_x : Int32) (t_loss : Nat → Int32) (t_hops : Nat → Int32) (t_wayLong : Int32) (t_bothLeast : Int32) (v1 : Int32) (v2 : Int32) (v3 : Int32) (v4 : Int32) (r : Int32) (o_t_loss : Nat → Int32) (o_t_hops : Nat → Int32) (hf : fX8_isHeard t_all t_loss t_hops v1 v2 v3 v4 = some (r, o_t_loss, o_t_hops)) : WrI l yX8_isHeard (Cond.code yX8_isHeard cX8_isHeard 5 (some .boolean)) { frames := 5, cells := 0, slots := 0, locals := 121 } G [.ref t_h, .int v1, .int v2, .int v3, .int v4] [oX8 t_h t_a t_thrown t_taped t_at t_behind t_size t_kind t_number t_wrong t_wrongAt t_faultKind t_faultPlace t_x t_wayLong t_bothLeast, arI G (t_a 1) 558 t_all, arI G (t_a 16) 12 t_loss, arI G (t_a 17) 12 t_hops] [oX8 t_h t_a t_thrown t_taped t_at t_behind t_size t_kind t_number t_wrong t_wrongAt t_faultKind t_faultPlace t_x t_wayLong t_bothLeast, arI G (t_a 1) 558 t_all, arI G (t_a 16) 12 o_t_loss, arI G (t_a 17) 12 o_t_hops] r := by
  intro sz
  refine Met.ofW (cc := cX8_isHeard) (maxL := 5) (ret := (some .boolean)) (by decide) rfl ?_
  intro p e s m args below meth c s₁ B hml hv
  obtain ⟨hargs, hsz, hP, hD0, hK⟩ := hv
  subst hsz
  obtain ⟨hx, hb, hr, hw, hown, hlk⟩ := fwB B
  refine fw_enter hargs (Nat.le_of_ble_eq_true rfl) (fun ls hl => ?_)
  have hl : lv_has ls 5 [(0, .ref t_h), (1, .int v1), (2, .int v2), (3, .int v3), (4, .int v4)] := hl
  refine fw_Q (P := fun Q => ∃ A : Nat → Prop, va_D A [oX8 t_h t_a t_thrown t_taped t_at t_behind t_size t_kind t_number t_wrong t_wrongAt t_faultKind t_faultPlace t_x t_wayLong t_bothLeast, arI G (t_a 1) 558 t_all, arI G (t_a 16) 12 t_loss, arI G (t_a 17) 12 t_hops] ∧ va_S A s.heap s.heap [] ∧ (∀ q, s.heap.size ≤ q → A q) ∧ ∀ (v : Int32) (n_t_loss : Nat → Int32) (n_t_hops : Nat → Int32) (H : Heap) (locs : List Loc) (pc : Nat) (ls : Array Slot), some (v, n_t_loss, n_t_hops) = some (r, o_t_loss, o_t_hops) → va_P G.1 vwCl [oX8 t_h t_a t_thrown t_taped t_at t_behind t_size t_kind t_number t_wrong t_wrongAt t_faultKind t_faultPlace t_x t_wayLong t_bothLeast, arI G (t_a 1) 558 t_all, arI G (t_a 16) 12 n_t_loss, arI G (t_a 17) 12 n_t_hops] H → va_S A s.heap H locs → narrow .boolean (.int v) = .int v → decode cX8_isHeard pc = .ok (.ireturn, 1) → W p l e ({ frames := 5, cells := 0, slots := 0, locals := 121 } : Room) s m args below meth c H locs 0 0 Q (F0 m pc ls [.int v])) ⟨va_A [oX8 t_h t_a t_thrown t_taped t_at t_behind t_size t_kind t_number t_wrong t_wrongAt t_faultKind t_faultPlace t_x t_wayLong t_bothLeast, arI G (t_a 1) 558 t_all, arI G (t_a 16) 12 t_loss, arI G (t_a 17) 12 t_hops] s.heap.size, hD0.self (sz := s.heap.size), va_S.rf, fun q h => Or.inr h, ?_⟩ ?_
  · intro v n_t_loss n_t_hops H locs pc ls h hP hS hn hd
    cases h
    exact retWZ hx hb hr hlk hS hP hn rfl hd
  rintro Q ⟨A, hD, hS, hA, hRet⟩
  change W p l e ({ frames := 5, cells := 0, slots := 0, locals := 121 } : Room) s m args below meth c _ _ 0 0 Q _
  unfold fX8_isHeard at hf
  refine lv_aload_n hx hb dX8_isHeard_0 rfl (lv_at hl 0 rfl) ?_
  refine lv_iload_n hx hb dX8_isHeard_1 rfl (lv_at hl 2 rfl) ?_
  refine lv_iload_n hx hb dX8_isHeard_2 rfl (lv_at hl 3 rfl) ?_
  refine lv_iload hx hb dX8_isHeard_3 (lv_at hl 4 rfl) ?_
  obtain ⟨t_loss_1, t_hops_2, hc_3, hf⟩ := bd2_in hf
  refine wcV (w1 := [oX8 t_h t_a t_thrown t_taped t_at t_behind t_size t_kind t_number t_wrong t_wrongAt t_faultKind t_faultPlace t_x t_wayLong t_bothLeast, arI G (t_a 1) 558 t_all, arI G (t_a 16) 12 t_loss_1, arI G (t_a 17) 12 t_hops_2]) (va_runV (As := [.int v2, .int v3, .int v4]) (rest := []) ⟨hx, hb, hml, hown, hw⟩ ((ctX8_laysLoss l G t_h t_a t_thrown t_all t_taped t_at t_behind t_size t_kind t_number t_wrong t_wrongAt t_faultKind t_faultPlace t_x t_loss t_hops t_wayLong t_bothLeast v2 v3 v4 _ _ hc_3) _) (kV hw calX8_laysLoss kw_30_4 rfl rfl ⟨Nat.le_of_ble_eq_true rfl, Nat.le_of_ble_eq_true rfl⟩) (wpV (hP.sub (ws' := [oX8 t_h t_a t_thrown t_taped t_at t_behind t_size t_kind t_number t_wrong t_wrongAt t_faultKind t_faultPlace t_x t_wayLong t_bothLeast, arI G (t_a 1) 558 t_all, arI G (t_a 16) 12 t_loss, arI G (t_a 17) 12 t_hops]) [0, 1, 2, 3] rfl) (hD.sub (ws' := [oX8 t_h t_a t_thrown t_taped t_at t_behind t_size t_kind t_number t_wrong t_wrongAt t_faultKind t_faultPlace t_x t_wayLong t_bothLeast, arI G (t_a 1) 558 t_all, arI G (t_a 16) 12 t_loss, arI G (t_a 17) 12 t_hops]) [0, 1, 2, 3] (by decide) rfl) hK (ci := 8) (q0 := 0) rfl rfl) rfl rfl hl.1 rfl (lv_room (Nat.le_of_ble_eq_true rfl)) dX8_isHeard_5 ⟨Nat.zero_le _, Nat.zero_le _⟩) hS hA hP hD [0, 1, 2, 3] rfl rfl (fun H locs hP hD hS => ?_)
  have hP : va_P G.1 vwCl [oX8 t_h t_a t_thrown t_taped t_at t_behind t_size t_kind t_number t_wrong t_wrongAt t_faultKind t_faultPlace t_x t_wayLong t_bothLeast, arI G (t_a 1) 558 t_all, arI G (t_a 16) 12 t_loss_1, arI G (t_a 17) 12 t_hops_2] H := hP
  have hD : va_D A [oX8 t_h t_a t_thrown t_taped t_at t_behind t_size t_kind t_number t_wrong t_wrongAt t_faultKind t_faultPlace t_x t_wayLong t_bothLeast, arI G (t_a 1) 558 t_all, arI G (t_a 16) 12 t_loss_1, arI G (t_a 17) 12 t_hops_2] := hD
  refine lv_aload_n hx hb dX8_isHeard_8 rfl (lv_at hl 0 rfl) ?_
  refine va_get (D := G.1) (ci := 8) (v := .ref (t_a 16)) (C := RX8) (T := TX8) (N := 33) hx hb hw inW8 hown hK.1 hP 0 rfl rfl 16 (by decide) (hw _ kw_5_16) (fun _ h9 => h9) rfl dX8_isHeard_9 ?_
  refine lv_iload_n hx hb dX8_isHeard_12 rfl (lv_at hl 1 rfl) ?_
  obtain ⟨hi_5, hf⟩ := rdI_in hf
  refine va_iald hx hb hK.1 hP 2 0 rfl rfl hi_5 dX8_isHeard_13 ?_
  refine lv_topi (fun x_4 ex_4 => ?_)
  have hf := hf x_4 ex_4
  refine lv_aload_n hx hb dX8_isHeard_14 rfl (lv_at hl 0 rfl) ?_
  refine va_get (D := G.1) (ci := 8) (v := .ref (t_a 1)) (C := RX8) (T := TX8) (N := 33) hx hb hw inW8 hown hK.1 hP 0 rfl rfl 1 (by decide) (hw _ kw_5_11) (fun _ h9 => h9) rfl dX8_isHeard_15 ?_
  refine lv_iconst (v := 3) hx hb dX8_isHeard_18 (by decide) ?_
  obtain ⟨hi_7, hf⟩ := rdI_in hf
  refine va_iald hx hb hK.1 hP 1 0 rfl rfl hi_7 dX8_isHeard_19 ?_
  refine lv_topi (fun x_6 ex_6 => ?_)
  have hf := hf x_6 ex_6
  refine lv_icmp_gt (tgt := 27) hx hb dX8_isHeard_20 (by decide) (fun c_8 => ?_) (fun c_8 => ?_)
  · have hf := ip c_8 hf
    refine lv_iconst (v := 0) hx hb dX8_isHeard_27 (by decide) ?_
    exact hRet _ _ _ _ _ _ _ hf hP hS (by decide +kernel) dX8_isHeard_28
  · have hf := iq c_8 hf
    refine lv_iconst (v := 1) hx hb dX8_isHeard_23 (by decide) ?_
    refine lv_goto (tgt := 28) hx hb dX8_isHeard_24 (by decide) ?_
    exact hRet _ _ _ _ _ _ _ hf hP hS (by decide +kernel) dX8_isHeard_28
theorem calX8_needs : CalV yX8_needs cX8_needs 4 (some .int) 2 := ⟨⟨kw_31_20, kw_1_5, by decide +kernel⟩, kw_31_18, kw_31_19⟩
set_option maxHeartbeats 8000000 in
set_option maxRecDepth 100000 in
theorem ctX8_needs (l : Launch) (G : GT) (t_h : Nat) (t_a : Nat → Nat) (t_thrown : Int32) (t_all : Nat → Int32) (t_taped : Int32) (t_at : Int32) (t_behind : Int32) (t_size : Int32) (t_kind : Int32) (t_number : Int32) (t_wrong : Int32) (t_wrongAt : Int32) (t_faultKind : Int32) (t_faultPlace : Int32) (t_x : Int32) (t_loss : Nat → Int32) (t_hops : Nat → Int32) (t_wayLong : Int32) (t_bothLeast : Int32) (v1 : Int32) (v2 : Int32) (r : Int32) (o_t_thrown : Int32) (o_t_loss : Nat → Int32) (o_t_hops : Nat → Int32) (hf : fX8_needs t_thrown t_all t_loss t_hops v1 v2 = some (r, o_t_thrown, o_t_loss, o_t_hops)) : WrI l yX8_needs (Cond.code yX8_needs cX8_needs 4 (some .int)) { frames := 6, cells := 0, slots := 0, locals := 145 } G [.ref t_h, .int v1, .int v2] [oX8 t_h t_a t_thrown t_taped t_at t_behind t_size t_kind t_number t_wrong t_wrongAt t_faultKind t_faultPlace t_x t_wayLong t_bothLeast, arI G (t_a 1) 558 t_all, arI G (t_a 16) 12 t_loss, arI G (t_a 17) 12 t_hops] [oX8 t_h t_a o_t_thrown t_taped t_at t_behind t_size t_kind t_number t_wrong t_wrongAt t_faultKind t_faultPlace t_x t_wayLong t_bothLeast, arI G (t_a 1) 558 t_all, arI G (t_a 16) 12 o_t_loss, arI G (t_a 17) 12 o_t_hops] r := by
  intro sz
  refine Met.ofW (cc := cX8_needs) (maxL := 4) (ret := (some .int)) (by decide) rfl ?_
  intro p e s m args below meth c s₁ B hml hv
  obtain ⟨hargs, hsz, hP, hD0, hK⟩ := hv
  subst hsz
  obtain ⟨hx, hb, hr, hw, hown, hlk⟩ := fwB B
  refine fw_enter hargs (Nat.le_of_ble_eq_true rfl) (fun ls hl => ?_)
  have hl : lv_has ls 4 [(0, .ref t_h), (1, .int v1), (2, .int v2)] := hl
  refine fw_Q (P := fun Q => ∃ A : Nat → Prop, va_D A [oX8 t_h t_a t_thrown t_taped t_at t_behind t_size t_kind t_number t_wrong t_wrongAt t_faultKind t_faultPlace t_x t_wayLong t_bothLeast, arI G (t_a 1) 558 t_all, arI G (t_a 16) 12 t_loss, arI G (t_a 17) 12 t_hops] ∧ va_S A s.heap s.heap [] ∧ (∀ q, s.heap.size ≤ q → A q) ∧ ∀ (v : Int32) (n_t_thrown : Int32) (n_t_loss : Nat → Int32) (n_t_hops : Nat → Int32) (H : Heap) (locs : List Loc) (pc : Nat) (ls : Array Slot), some (v, n_t_thrown, n_t_loss, n_t_hops) = some (r, o_t_thrown, o_t_loss, o_t_hops) → va_P G.1 vwCl [oX8 t_h t_a n_t_thrown t_taped t_at t_behind t_size t_kind t_number t_wrong t_wrongAt t_faultKind t_faultPlace t_x t_wayLong t_bothLeast, arI G (t_a 1) 558 t_all, arI G (t_a 16) 12 n_t_loss, arI G (t_a 17) 12 n_t_hops] H → va_S A s.heap H locs → decode cX8_needs pc = .ok (.ireturn, 1) → W p l e ({ frames := 6, cells := 0, slots := 0, locals := 145 } : Room) s m args below meth c H locs 0 0 Q (F0 m pc ls [.int v])) ⟨va_A [oX8 t_h t_a t_thrown t_taped t_at t_behind t_size t_kind t_number t_wrong t_wrongAt t_faultKind t_faultPlace t_x t_wayLong t_bothLeast, arI G (t_a 1) 558 t_all, arI G (t_a 16) 12 t_loss, arI G (t_a 17) 12 t_hops] s.heap.size, hD0.self (sz := s.heap.size), va_S.rf, fun q h => Or.inr h, ?_⟩ ?_
  · intro v n_t_thrown n_t_loss n_t_hops H locs pc ls h hP hS hd
    cases h
    exact retWI hx hb hr hlk hS hP rfl hd
  rintro Q ⟨A, hD, hS, hA, hRet⟩
  change W p l e ({ frames := 6, cells := 0, slots := 0, locals := 145 } : Room) s m args below meth c _ _ 0 0 Q _
  have L37 : ∀ (t_thrown : Int32) (K : (Nat → Int32) → (Nat → Int32) → Option (Int32 × Int32 × (Nat → Int32) × (Nat → Int32))) (n : Nat) (l3 : Int32) (t_loss : Nat → Int32) (t_hops : Nat → Int32) (H : Heap) (locs : List Loc) (ls : Array Slot), va_P G.1 vwCl [oX8 t_h t_a t_thrown t_taped t_at t_behind t_size t_kind t_number t_wrong t_wrongAt t_faultKind t_faultPlace t_x t_wayLong t_bothLeast, arI G (t_a 1) 558 t_all, arI G (t_a 16) 12 t_loss, arI G (t_a 17) 12 t_hops] H → va_D A [oX8 t_h t_a t_thrown t_taped t_at t_behind t_size t_kind t_number t_wrong t_wrongAt t_faultKind t_faultPlace t_x t_wayLong t_bothLeast, arI G (t_a 1) 558 t_all, arI G (t_a 16) 12 t_loss, arI G (t_a 17) 12 t_hops] → va_S A s.heap H locs → lv_has ls 4 [(0, .ref t_h), (1, .int v1), (2, .int v2), (3, .int l3)] → fX8_needs_37 v1 v2 t_thrown t_all K n l3 t_loss t_hops = some (r, o_t_thrown, o_t_loss, o_t_hops) → (∀ (kt_loss : Nat → Int32) (kt_hops : Nat → Int32) (H : Heap) (locs : List Loc) (ls : Array Slot), va_P G.1 vwCl [oX8 t_h t_a t_thrown t_taped t_at t_behind t_size t_kind t_number t_wrong t_wrongAt t_faultKind t_faultPlace t_x t_wayLong t_bothLeast, arI G (t_a 1) 558 t_all, arI G (t_a 16) 12 kt_loss, arI G (t_a 17) 12 kt_hops] H → va_D A [oX8 t_h t_a t_thrown t_taped t_at t_behind t_size t_kind t_number t_wrong t_wrongAt t_faultKind t_faultPlace t_x t_wayLong t_bothLeast, arI G (t_a 1) 558 t_all, arI G (t_a 16) 12 kt_loss, arI G (t_a 17) 12 kt_hops] → va_S A s.heap H locs → lv_has ls 4 [] → K kt_loss kt_hops = some (r, o_t_thrown, o_t_loss, o_t_hops) → W p l e ({ frames := 6, cells := 0, slots := 0, locals := 145 } : Room) s m args below meth c H locs 0 0 Q (F0 m 83 ls [])) → W p l e ({ frames := 6, cells := 0, slots := 0, locals := 145 } : Room) s m args below meth c H locs 0 0 Q (F0 m 37 ls []) := by
    intro t_thrown K n
    induction n with
    | zero => intro l3 t_loss t_hops H locs ls hP hD hS hl hf; rw [fX8_needs_37] at hf; cases hf
    | succ n ih =>
      intro l3 t_loss t_hops H locs ls hP hD hS hl hf hX
      rw [fX8_needs_37] at hf
      refine lv_iload_n hx hb dX8_needs_37 rfl (lv_at hl 3 rfl) ?_
      refine lv_aload_n hx hb dX8_needs_38 rfl (lv_at hl 0 rfl) ?_
      refine va_get (D := G.1) (ci := 8) (v := .ref (t_a 1)) (C := RX8) (T := TX8) (N := 33) hx hb hw inW8 hown hK.1 hP 0 rfl rfl 1 (by decide) (hw _ kw_5_11) (fun _ h9 => h9) rfl dX8_needs_39 ?_
      refine lv_iconst (v := 0) hx hb dX8_needs_42 (by decide) ?_
      obtain ⟨hi_12, hf⟩ := rdI_in hf
      refine va_iald hx hb hK.1 hP 1 0 rfl rfl hi_12 dX8_needs_43 ?_
      refine lv_topi (fun x_11 ex_11 => ?_)
      have hf := hf x_11 ex_11
      refine lv_icmp_ge (tgt := 83) hx hb dX8_needs_44 (by decide) (fun c_13 => ?_) (fun c_13 => ?_)
      · have hf := ip c_13 hf
        exact hX _ _ _ _ _ hP hD hS (lv_sub hl [] rfl) hf
      · have hf := iq c_13 hf
        refine lv_iload_n hx hb dX8_needs_47 rfl (lv_at hl 3 rfl) ?_
        refine lv_iload_n hx hb dX8_needs_48 rfl (lv_at hl 1 rfl) ?_
        refine lv_icmp_eq (tgt := 77) hx hb dX8_needs_49 (by decide) (fun c_14 => ?_) (fun c_14 => ?_)
        · have hf := ip c_14 hf
          refine lv_iinc (v := (l3 + 1)) (lv' := [(3, .int (l3 + 1)), (0, .ref t_h), (1, .int v1), (2, .int v2)]) hx hb dX8_needs_77 hl (k := 3) rfl (by rfl) (by decide) rfl (fun ls hl => ?_)
          refine lv_goto (tgt := 37) hx hb dX8_needs_80 (by decide) ?_
          exact ih _ _ _ _ _ _ hP hD hS (lv_sub hl [1, 2, 3, 0] rfl) hf hX
        · have hf := iq c_14 hf
          refine lv_iload_n hx hb dX8_needs_52 rfl (lv_at hl 3 rfl) ?_
          refine lv_iload_n hx hb dX8_needs_53 rfl (lv_at hl 2 rfl) ?_
          refine lv_icmp_eq (tgt := 77) hx hb dX8_needs_54 (by decide) (fun c_15 => ?_) (fun c_15 => ?_)
          · have hf := ip c_15 hf
            refine lv_iinc (v := (l3 + 1)) (lv' := [(3, .int (l3 + 1)), (0, .ref t_h), (1, .int v1), (2, .int v2)]) hx hb dX8_needs_77 hl (k := 3) rfl (by rfl) (by decide) rfl (fun ls hl => ?_)
            refine lv_goto (tgt := 37) hx hb dX8_needs_80 (by decide) ?_
            exact ih _ _ _ _ _ _ hP hD hS (lv_sub hl [1, 2, 3, 0] rfl) hf hX
          · have hf := iq c_15 hf
            refine lv_aload_n hx hb dX8_needs_57 rfl (lv_at hl 0 rfl) ?_
            refine lv_iload_n hx hb dX8_needs_58 rfl (lv_at hl 1 rfl) ?_
            refine lv_iload_n hx hb dX8_needs_59 rfl (lv_at hl 2 rfl) ?_
            refine lv_iconst (v := 1) hx hb dX8_needs_60 (by decide) ?_
            refine lv_iload_n hx hb dX8_needs_61 rfl (lv_at hl 3 rfl) ?_
            refine lv_ishl hx hb dX8_needs_62 ?_
            refine lv_aload_n hx hb dX8_needs_63 rfl (lv_at hl 0 rfl) ?_
            refine va_get (D := G.1) (ci := 8) (v := .ref (t_a 1)) (C := RX8) (T := TX8) (N := 33) hx hb hw inW8 hown hK.1 hP 0 rfl rfl 1 (by decide) (hw _ kw_5_11) (fun _ h9 => h9) rfl dX8_needs_64 ?_
            refine lv_iconst (v := 1) hx hb dX8_needs_67 (by decide) ?_
            obtain ⟨hi_17, hf⟩ := rdI_in hf
            refine va_iald hx hb hK.1 hP 1 0 rfl rfl hi_17 dX8_needs_68 ?_
            refine lv_topi (fun x_16 ex_16 => ?_)
            have hf := hf x_16 ex_16
            obtain ⟨r_20, t_loss_18, t_hops_19, hc_21, hf⟩ := bd3_in hf
            refine wcI (w1 := [oX8 t_h t_a t_thrown t_taped t_at t_behind t_size t_kind t_number t_wrong t_wrongAt t_faultKind t_faultPlace t_x t_wayLong t_bothLeast, arI G (t_a 1) 558 t_all, arI G (t_a 16) 12 t_loss_18, arI G (t_a 17) 12 t_hops_19]) (va_runV (As := [.int v1, .int v2, .int ((1 : Int32) <<< (l3 &&& 31)), .int x_16]) (rest := []) ⟨hx, hb, hml, hown, hw⟩ ((ctX8_isHeard l G t_h t_a t_thrown t_all t_taped t_at t_behind t_size t_kind t_number t_wrong t_wrongAt t_faultKind t_faultPlace t_x t_loss t_hops t_wayLong t_bothLeast v1 v2 ((1 : Int32) <<< (l3 &&& 31)) x_16 _ _ _ hc_21) _) (kV hw calX8_isHeard kw_31_21 rfl rfl ⟨Nat.le_of_ble_eq_true rfl, Nat.le_of_ble_eq_true rfl⟩) (wpV (hP.sub (ws' := [oX8 t_h t_a t_thrown t_taped t_at t_behind t_size t_kind t_number t_wrong t_wrongAt t_faultKind t_faultPlace t_x t_wayLong t_bothLeast, arI G (t_a 1) 558 t_all, arI G (t_a 16) 12 t_loss, arI G (t_a 17) 12 t_hops]) [0, 1, 2, 3] rfl) (hD.sub (ws' := [oX8 t_h t_a t_thrown t_taped t_at t_behind t_size t_kind t_number t_wrong t_wrongAt t_faultKind t_faultPlace t_x t_wayLong t_bothLeast, arI G (t_a 1) 558 t_all, arI G (t_a 16) 12 t_loss, arI G (t_a 17) 12 t_hops]) [0, 1, 2, 3] (by decide) rfl) hK (ci := 8) (q0 := 0) rfl rfl) rfl rfl hl.1 rfl (lv_room (Nat.le_of_ble_eq_true rfl)) dX8_needs_69 ⟨Nat.zero_le _, Nat.zero_le _⟩) hS hA hP hD [0, 1, 2, 3] rfl rfl (fun H locs hP hD hS => ?_)
            have hP : va_P G.1 vwCl [oX8 t_h t_a t_thrown t_taped t_at t_behind t_size t_kind t_number t_wrong t_wrongAt t_faultKind t_faultPlace t_x t_wayLong t_bothLeast, arI G (t_a 1) 558 t_all, arI G (t_a 16) 12 t_loss_18, arI G (t_a 17) 12 t_hops_19] H := hP
            have hD : va_D A [oX8 t_h t_a t_thrown t_taped t_at t_behind t_size t_kind t_number t_wrong t_wrongAt t_faultKind t_faultPlace t_x t_wayLong t_bothLeast, arI G (t_a 1) 558 t_all, arI G (t_a 16) 12 t_loss_18, arI G (t_a 17) 12 t_hops_19] := hD
            refine lv_if_ne (tgt := 77) hx hb dX8_needs_72 (by decide) (fun c_22 => ?_) (fun c_22 => ?_)
            · have hf := iq c_22 hf
              refine lv_iinc (v := (l3 + 1)) (lv' := [(3, .int (l3 + 1)), (0, .ref t_h), (1, .int v1), (2, .int v2)]) hx hb dX8_needs_77 hl (k := 3) rfl (by rfl) (by decide) rfl (fun ls hl => ?_)
              refine lv_goto (tgt := 37) hx hb dX8_needs_80 (by decide) ?_
              exact ih _ _ _ _ _ _ hP hD hS (lv_sub hl [1, 2, 3, 0] rfl) hf hX
            · have hf := ip c_22 hf
              refine lv_iload_n hx hb dX8_needs_75 rfl (lv_at hl 3 rfl) ?_
              exact hRet _ _ _ _ _ _ _ _ hf hP hS dX8_needs_76
  unfold fX8_needs at hf
  refine lv_aload_n hx hb dX8_needs_0 rfl (lv_at hl 0 rfl) ?_
  refine lv_iconst (v := 0) hx hb dX8_needs_1 (by decide) ?_
  refine va_put (D := G.1) (ci := 8) (v := .int 0) (ty := .int) (C := RX8) (T := TX8) (N := 33) hx hb hw inW8 tyX8 tyX8_ok nmX8 hown hK.1 hP hD hS 0 rfl rfl 0 (by decide) (hw _ kw_6_21) (fun _ h9 => h9) rfl (by decide +kernel) rfl rfl (Nat.le_of_ble_eq_true rfl) dX8_needs_2 (fun H locs hP hD hS => ?_)
  have hP : va_P G.1 vwCl [oX8 t_h t_a 0 t_taped t_at t_behind t_size t_kind t_number t_wrong t_wrongAt t_faultKind t_faultPlace t_x t_wayLong t_bothLeast, arI G (t_a 1) 558 t_all, arI G (t_a 16) 12 t_loss, arI G (t_a 17) 12 t_hops] H := hP
  have hD : va_D A [oX8 t_h t_a 0 t_taped t_at t_behind t_size t_kind t_number t_wrong t_wrongAt t_faultKind t_faultPlace t_x t_wayLong t_bothLeast, arI G (t_a 1) 558 t_all, arI G (t_a 16) 12 t_loss, arI G (t_a 17) 12 t_hops] := hD
  refine lv_aload_n hx hb dX8_needs_5 rfl (lv_at hl 0 rfl) ?_
  refine lv_iload_n hx hb dX8_needs_6 rfl (lv_at hl 1 rfl) ?_
  refine lv_iload_n hx hb dX8_needs_7 rfl (lv_at hl 2 rfl) ?_
  obtain ⟨r_1, hc_2, hf⟩ := bd1_in hf
  refine rcI (va_runV (As := [.int v1, .int v2]) (rest := []) ⟨hx, hb, hml, hown, hw⟩ ((ctX8_areTwo l G t_h t_a 0 t_all t_taped t_at t_behind t_size t_kind t_number t_wrong t_wrongAt t_faultKind t_faultPlace t_x t_wayLong t_bothLeast v1 v2 _ hc_2) _) (kV hw calX8_areTwo kw_30_0 rfl rfl ⟨Nat.le_of_ble_eq_true rfl, Nat.le_of_ble_eq_true rfl⟩) (rpV (hP.sub (ws' := [oX8 t_h t_a 0 t_taped t_at t_behind t_size t_kind t_number t_wrong t_wrongAt t_faultKind t_faultPlace t_x t_wayLong t_bothLeast, arI G (t_a 1) 558 t_all]) [0, 1] rfl) hK (ci := 8) (q0 := 0) rfl rfl) rfl rfl hl.1 rfl (lv_room (Nat.le_of_ble_eq_true rfl)) dX8_needs_8 ⟨Nat.zero_le _, Nat.zero_le _⟩) hS hA hP (fun H locs hP hS => ?_)
  refine lv_if_ne (tgt := 17) hx hb dX8_needs_11 (by decide) (fun c_3 => ?_) (fun c_3 => ?_)
  · have hf := iq c_3 hf
    refine lv_aload_n hx hb dX8_needs_17 rfl (lv_at hl 0 rfl) ?_
    refine lv_iload_n hx hb dX8_needs_18 rfl (lv_at hl 1 rfl) ?_
    refine lv_iload_n hx hb dX8_needs_19 rfl (lv_at hl 2 rfl) ?_
    refine lv_iconst (v := 0) hx hb dX8_needs_20 (by decide) ?_
    refine lv_aload_n hx hb dX8_needs_21 rfl (lv_at hl 0 rfl) ?_
    refine va_get (D := G.1) (ci := 8) (v := .ref (t_a 1)) (C := RX8) (T := TX8) (N := 33) hx hb hw inW8 hown hK.1 hP 0 rfl rfl 1 (by decide) (hw _ kw_5_11) (fun _ h9 => h9) rfl dX8_needs_22 ?_
    refine lv_iconst (v := 1) hx hb dX8_needs_25 (by decide) ?_
    obtain ⟨hi_5, hf⟩ := rdI_in hf
    refine va_iald hx hb hK.1 hP 1 0 rfl rfl hi_5 dX8_needs_26 ?_
    refine lv_topi (fun x_4 ex_4 => ?_)
    have hf := hf x_4 ex_4
    obtain ⟨r_8, t_loss_6, t_hops_7, hc_9, hf⟩ := bd3_in hf
    refine wcI (w1 := [oX8 t_h t_a 0 t_taped t_at t_behind t_size t_kind t_number t_wrong t_wrongAt t_faultKind t_faultPlace t_x t_wayLong t_bothLeast, arI G (t_a 1) 558 t_all, arI G (t_a 16) 12 t_loss_6, arI G (t_a 17) 12 t_hops_7]) (va_runV (As := [.int v1, .int v2, .int 0, .int x_4]) (rest := []) ⟨hx, hb, hml, hown, hw⟩ ((ctX8_isHeard l G t_h t_a 0 t_all t_taped t_at t_behind t_size t_kind t_number t_wrong t_wrongAt t_faultKind t_faultPlace t_x t_loss t_hops t_wayLong t_bothLeast v1 v2 0 x_4 _ _ _ hc_9) _) (kV hw calX8_isHeard kw_31_21 rfl rfl ⟨Nat.le_of_ble_eq_true rfl, Nat.le_of_ble_eq_true rfl⟩) (wpV (hP.sub (ws' := [oX8 t_h t_a 0 t_taped t_at t_behind t_size t_kind t_number t_wrong t_wrongAt t_faultKind t_faultPlace t_x t_wayLong t_bothLeast, arI G (t_a 1) 558 t_all, arI G (t_a 16) 12 t_loss, arI G (t_a 17) 12 t_hops]) [0, 1, 2, 3] rfl) (hD.sub (ws' := [oX8 t_h t_a 0 t_taped t_at t_behind t_size t_kind t_number t_wrong t_wrongAt t_faultKind t_faultPlace t_x t_wayLong t_bothLeast, arI G (t_a 1) 558 t_all, arI G (t_a 16) 12 t_loss, arI G (t_a 17) 12 t_hops]) [0, 1, 2, 3] (by decide) rfl) hK (ci := 8) (q0 := 0) rfl rfl) rfl rfl hl.1 rfl (lv_room (Nat.le_of_ble_eq_true rfl)) dX8_needs_27 ⟨Nat.zero_le _, Nat.zero_le _⟩) hS hA hP hD [0, 1, 2, 3] rfl rfl (fun H locs hP hD hS => ?_)
    have hP : va_P G.1 vwCl [oX8 t_h t_a 0 t_taped t_at t_behind t_size t_kind t_number t_wrong t_wrongAt t_faultKind t_faultPlace t_x t_wayLong t_bothLeast, arI G (t_a 1) 558 t_all, arI G (t_a 16) 12 t_loss_6, arI G (t_a 17) 12 t_hops_7] H := hP
    have hD : va_D A [oX8 t_h t_a 0 t_taped t_at t_behind t_size t_kind t_number t_wrong t_wrongAt t_faultKind t_faultPlace t_x t_wayLong t_bothLeast, arI G (t_a 1) 558 t_all, arI G (t_a 16) 12 t_loss_6, arI G (t_a 17) 12 t_hops_7] := hD
    refine lv_if_ne (tgt := 35) hx hb dX8_needs_30 (by decide) (fun c_10 => ?_) (fun c_10 => ?_)
    · have hf := iq c_10 hf
      refine lv_iconst (v := 0) hx hb dX8_needs_35 (by decide) ?_
      refine lv_istore_n (lv' := [(3, .int 0), (0, .ref t_h), (1, .int v1), (2, .int v2)]) hx hb dX8_needs_36 rfl hl (by decide) rfl (fun ls hl => ?_)
      refine L37 _ _ _ _ _ _ _ _ _ hP hD hS (lv_sub hl [1, 2, 3, 0] rfl) hf (fun t_loss_23 t_hops_24 H locs ls hP hD hS hl hf => ?_)
      refine lv_iconst (v := (-1)) hx hb dX8_needs_83 (by decide) ?_
      exact hRet _ _ _ _ _ _ _ _ hf hP hS dX8_needs_84
    · have hf := ip c_10 hf
      refine lv_iconst (v := (-1)) hx hb dX8_needs_33 (by decide) ?_
      exact hRet _ _ _ _ _ _ _ _ hf hP hS dX8_needs_34
  · have hf := ip c_3 hf
    refine lv_bipush (v := (-2)) hx hb dX8_needs_14 (by decide) ?_
    exact hRet _ _ _ _ _ _ _ _ hf hP hS dX8_needs_16
theorem calX8_openHours : CalV yX8_openHours cX8_openHours 4 (some .int) 1 := ⟨⟨kw_32_8, kw_1_5, by decide +kernel⟩, kw_32_6, kw_32_7⟩
set_option maxHeartbeats 8000000 in
set_option maxRecDepth 100000 in
theorem ctX8_openHours (l : Launch) (G : GT) (t_h : Nat) (t_a : Nat → Nat) (t_thrown : Int32) (t_all : Nat → Int32) (t_taped : Int32) (t_at : Int32) (t_behind : Int32) (t_size : Int32) (t_kind : Int32) (t_number : Int32) (t_wrong : Int32) (t_wrongAt : Int32) (t_faultKind : Int32) (t_faultPlace : Int32) (t_x : Int32) (t_loss : Nat → Int32) (t_hops : Nat → Int32) (t_wayLong : Int32) (t_bothLeast : Int32) (v1 : Int32) (r : Int32) (o_t_thrown : Int32) (o_t_loss : Nat → Int32) (o_t_hops : Nat → Int32) (hf : fX8_openHours t_thrown t_all t_loss t_hops v1 = some (r, o_t_thrown, o_t_loss, o_t_hops)) : WrI l yX8_openHours (Cond.code yX8_openHours cX8_openHours 4 (some .int)) { frames := 6, cells := 0, slots := 0, locals := 145 } G [.ref t_h, .int v1] [oX8 t_h t_a t_thrown t_taped t_at t_behind t_size t_kind t_number t_wrong t_wrongAt t_faultKind t_faultPlace t_x t_wayLong t_bothLeast, arI G (t_a 1) 558 t_all, arI G (t_a 16) 12 t_loss, arI G (t_a 17) 12 t_hops] [oX8 t_h t_a o_t_thrown t_taped t_at t_behind t_size t_kind t_number t_wrong t_wrongAt t_faultKind t_faultPlace t_x t_wayLong t_bothLeast, arI G (t_a 1) 558 t_all, arI G (t_a 16) 12 o_t_loss, arI G (t_a 17) 12 o_t_hops] r := by
  intro sz
  refine Met.ofW (cc := cX8_openHours) (maxL := 4) (ret := (some .int)) (by decide) rfl ?_
  intro p e s m args below meth c s₁ B hml hv
  obtain ⟨hargs, hsz, hP, hD0, hK⟩ := hv
  subst hsz
  obtain ⟨hx, hb, hr, hw, hown, hlk⟩ := fwB B
  refine fw_enter hargs (Nat.le_of_ble_eq_true rfl) (fun ls hl => ?_)
  have hl : lv_has ls 4 [(0, .ref t_h), (1, .int v1)] := hl
  refine fw_Q (P := fun Q => ∃ A : Nat → Prop, va_D A [oX8 t_h t_a t_thrown t_taped t_at t_behind t_size t_kind t_number t_wrong t_wrongAt t_faultKind t_faultPlace t_x t_wayLong t_bothLeast, arI G (t_a 1) 558 t_all, arI G (t_a 16) 12 t_loss, arI G (t_a 17) 12 t_hops] ∧ va_S A s.heap s.heap [] ∧ (∀ q, s.heap.size ≤ q → A q) ∧ ∀ (v : Int32) (n_t_thrown : Int32) (n_t_loss : Nat → Int32) (n_t_hops : Nat → Int32) (H : Heap) (locs : List Loc) (pc : Nat) (ls : Array Slot), some (v, n_t_thrown, n_t_loss, n_t_hops) = some (r, o_t_thrown, o_t_loss, o_t_hops) → va_P G.1 vwCl [oX8 t_h t_a n_t_thrown t_taped t_at t_behind t_size t_kind t_number t_wrong t_wrongAt t_faultKind t_faultPlace t_x t_wayLong t_bothLeast, arI G (t_a 1) 558 t_all, arI G (t_a 16) 12 n_t_loss, arI G (t_a 17) 12 n_t_hops] H → va_S A s.heap H locs → decode cX8_openHours pc = .ok (.ireturn, 1) → W p l e ({ frames := 6, cells := 0, slots := 0, locals := 145 } : Room) s m args below meth c H locs 0 0 Q (F0 m pc ls [.int v])) ⟨va_A [oX8 t_h t_a t_thrown t_taped t_at t_behind t_size t_kind t_number t_wrong t_wrongAt t_faultKind t_faultPlace t_x t_wayLong t_bothLeast, arI G (t_a 1) 558 t_all, arI G (t_a 16) 12 t_loss, arI G (t_a 17) 12 t_hops] s.heap.size, hD0.self (sz := s.heap.size), va_S.rf, fun q h => Or.inr h, ?_⟩ ?_
  · intro v n_t_thrown n_t_loss n_t_hops H locs pc ls h hP hS hd
    cases h
    exact retWI hx hb hr hlk hS hP rfl hd
  rintro Q ⟨A, hD, hS, hA, hRet⟩
  change W p l e ({ frames := 6, cells := 0, slots := 0, locals := 145 } : Room) s m args below meth c _ _ 0 0 Q _
  have L21 : ∀ (t_thrown : Int32) (K : Int32 → (Nat → Int32) → (Nat → Int32) → Option (Int32 × Int32 × (Nat → Int32) × (Nat → Int32))) (n : Nat) (l2 : Int32) (l3 : Int32) (t_loss : Nat → Int32) (t_hops : Nat → Int32) (H : Heap) (locs : List Loc) (ls : Array Slot), va_P G.1 vwCl [oX8 t_h t_a t_thrown t_taped t_at t_behind t_size t_kind t_number t_wrong t_wrongAt t_faultKind t_faultPlace t_x t_wayLong t_bothLeast, arI G (t_a 1) 558 t_all, arI G (t_a 16) 12 t_loss, arI G (t_a 17) 12 t_hops] H → va_D A [oX8 t_h t_a t_thrown t_taped t_at t_behind t_size t_kind t_number t_wrong t_wrongAt t_faultKind t_faultPlace t_x t_wayLong t_bothLeast, arI G (t_a 1) 558 t_all, arI G (t_a 16) 12 t_loss, arI G (t_a 17) 12 t_hops] → va_S A s.heap H locs → lv_has ls 4 [(0, .ref t_h), (1, .int v1), (2, .int l2), (3, .int l3)] → fX8_openHours_21 v1 t_all K n l2 l3 t_loss t_hops = some (r, o_t_thrown, o_t_loss, o_t_hops) → (∀ (k2 : Int32) (kt_loss : Nat → Int32) (kt_hops : Nat → Int32) (H : Heap) (locs : List Loc) (ls : Array Slot), va_P G.1 vwCl [oX8 t_h t_a t_thrown t_taped t_at t_behind t_size t_kind t_number t_wrong t_wrongAt t_faultKind t_faultPlace t_x t_wayLong t_bothLeast, arI G (t_a 1) 558 t_all, arI G (t_a 16) 12 kt_loss, arI G (t_a 17) 12 kt_hops] H → va_D A [oX8 t_h t_a t_thrown t_taped t_at t_behind t_size t_kind t_number t_wrong t_wrongAt t_faultKind t_faultPlace t_x t_wayLong t_bothLeast, arI G (t_a 1) 558 t_all, arI G (t_a 16) 12 kt_loss, arI G (t_a 17) 12 kt_hops] → va_S A s.heap H locs → lv_has ls 4 [(2, .int k2)] → K k2 kt_loss kt_hops = some (r, o_t_thrown, o_t_loss, o_t_hops) → W p l e ({ frames := 6, cells := 0, slots := 0, locals := 145 } : Room) s m args below meth c H locs 0 0 Q (F0 m 60 ls [])) → W p l e ({ frames := 6, cells := 0, slots := 0, locals := 145 } : Room) s m args below meth c H locs 0 0 Q (F0 m 21 ls []) := by
    intro t_thrown K n
    induction n with
    | zero => intro l2 l3 t_loss t_hops H locs ls hP hD hS hl hf; rw [fX8_openHours_21] at hf; cases hf
    | succ n ih =>
      intro l2 l3 t_loss t_hops H locs ls hP hD hS hl hf hX
      rw [fX8_openHours_21] at hf
      refine lv_iload_n hx hb dX8_openHours_21 rfl (lv_at hl 3 rfl) ?_
      refine lv_bipush (v := 12) hx hb dX8_openHours_22 (by decide) ?_
      refine lv_icmp_ge (tgt := 60) hx hb dX8_openHours_24 (by decide) (fun c_4 => ?_) (fun c_4 => ?_)
      · have hf := ip c_4 hf
        exact hX _ _ _ _ _ _ hP hD hS (lv_sub hl [2] rfl) hf
      · have hf := iq c_4 hf
        refine lv_iload_n hx hb dX8_openHours_27 rfl (lv_at hl 2 rfl) ?_
        refine lv_aload_n hx hb dX8_openHours_28 rfl (lv_at hl 0 rfl) ?_
        refine lv_iload_n hx hb dX8_openHours_29 rfl (lv_at hl 1 rfl) ?_
        refine lv_bipush (v := 20) hx hb dX8_openHours_30 (by decide) ?_
        refine lv_idiv hx hb dX8_openHours_32 (by decide) ?_
        refine lv_iload_n hx hb dX8_openHours_33 rfl (lv_at hl 1 rfl) ?_
        refine lv_bipush (v := 20) hx hb dX8_openHours_34 (by decide) ?_
        refine lv_irem hx hb dX8_openHours_36 (by decide) ?_
        refine lv_iconst (v := 0) hx hb dX8_openHours_37 (by decide) ?_
        refine lv_iload_n hx hb dX8_openHours_38 rfl (lv_at hl 3 rfl) ?_
        obtain ⟨r_7, t_loss_5, t_hops_6, hc_8, hf⟩ := bd3_in hf
        refine wcI (w1 := [oX8 t_h t_a t_thrown t_taped t_at t_behind t_size t_kind t_number t_wrong t_wrongAt t_faultKind t_faultPlace t_x t_wayLong t_bothLeast, arI G (t_a 1) 558 t_all, arI G (t_a 16) 12 t_loss_5, arI G (t_a 17) 12 t_hops_6]) (va_runV (As := [.int (v1 / 20), .int (v1 - v1 / 20 * 20), .int 0, .int l3]) (rest := [.int l2]) ⟨hx, hb, hml, hown, hw⟩ ((ctX8_isHeard l G t_h t_a t_thrown t_all t_taped t_at t_behind t_size t_kind t_number t_wrong t_wrongAt t_faultKind t_faultPlace t_x t_loss t_hops t_wayLong t_bothLeast (v1 / 20) (v1 - v1 / 20 * 20) 0 l3 _ _ _ hc_8) _) (kV hw calX8_isHeard kw_31_21 rfl rfl ⟨Nat.le_of_ble_eq_true rfl, Nat.le_of_ble_eq_true rfl⟩) (wpV (hP.sub (ws' := [oX8 t_h t_a t_thrown t_taped t_at t_behind t_size t_kind t_number t_wrong t_wrongAt t_faultKind t_faultPlace t_x t_wayLong t_bothLeast, arI G (t_a 1) 558 t_all, arI G (t_a 16) 12 t_loss, arI G (t_a 17) 12 t_hops]) [0, 1, 2, 3] rfl) (hD.sub (ws' := [oX8 t_h t_a t_thrown t_taped t_at t_behind t_size t_kind t_number t_wrong t_wrongAt t_faultKind t_faultPlace t_x t_wayLong t_bothLeast, arI G (t_a 1) 558 t_all, arI G (t_a 16) 12 t_loss, arI G (t_a 17) 12 t_hops]) [0, 1, 2, 3] (by decide) rfl) hK (ci := 8) (q0 := 0) rfl rfl) rfl rfl hl.1 rfl (lv_room (Nat.le_of_ble_eq_true rfl)) dX8_openHours_39 ⟨Nat.zero_le _, Nat.zero_le _⟩) hS hA hP hD [0, 1, 2, 3] rfl rfl (fun H locs hP hD hS => ?_)
        have hP : va_P G.1 vwCl [oX8 t_h t_a t_thrown t_taped t_at t_behind t_size t_kind t_number t_wrong t_wrongAt t_faultKind t_faultPlace t_x t_wayLong t_bothLeast, arI G (t_a 1) 558 t_all, arI G (t_a 16) 12 t_loss_5, arI G (t_a 17) 12 t_hops_6] H := hP
        have hD : va_D A [oX8 t_h t_a t_thrown t_taped t_at t_behind t_size t_kind t_number t_wrong t_wrongAt t_faultKind t_faultPlace t_x t_wayLong t_bothLeast, arI G (t_a 1) 558 t_all, arI G (t_a 16) 12 t_loss_5, arI G (t_a 17) 12 t_hops_6] := hD
        refine jn_el hf (fun k_10 ek_10 hf => ?_)
        have J52 : ∀ (z_9 : Int32) (H : Heap) (locs : List Loc) (ls : Array Slot), va_P G.1 vwCl [oX8 t_h t_a t_thrown t_taped t_at t_behind t_size t_kind t_number t_wrong t_wrongAt t_faultKind t_faultPlace t_x t_wayLong t_bothLeast, arI G (t_a 1) 558 t_all, arI G (t_a 16) 12 t_loss_5, arI G (t_a 17) 12 t_hops_6] H → va_D A [oX8 t_h t_a t_thrown t_taped t_at t_behind t_size t_kind t_number t_wrong t_wrongAt t_faultKind t_faultPlace t_x t_wayLong t_bothLeast, arI G (t_a 1) 558 t_all, arI G (t_a 16) 12 t_loss_5, arI G (t_a 17) 12 t_hops_6] → va_S A s.heap H locs → lv_has ls 4 [(0, .ref t_h), (1, .int v1), (3, .int l3)] → k_10 z_9 = some (r, o_t_thrown, o_t_loss, o_t_hops) → W p l e ({ frames := 6, cells := 0, slots := 0, locals := 145 } : Room) s m args below meth c H locs 0 0 Q (F0 m 52 ls [.int z_9, .int l2]) := by
          intro z_9 H locs ls hP hD hS hl hf
          rw [ek_10] at hf
          refine lv_ior hx hb dX8_openHours_52 ?_
          refine lv_topi (fun y_11 ey_11 => ?_)
          have hf := bnd_all hf y_11 ey_11
          refine lv_istore_n (lv' := [(2, .int y_11), (0, .ref t_h), (1, .int v1), (3, .int l3)]) hx hb dX8_openHours_53 rfl hl (by decide) rfl (fun ls hl => ?_)
          refine lv_iinc (v := (l3 + 1)) (lv' := [(3, .int (l3 + 1)), (2, .int y_11), (0, .ref t_h), (1, .int v1)]) hx hb dX8_openHours_54 hl (k := 3) rfl (by rfl) (by decide) rfl (fun ls hl => ?_)
          refine lv_goto (tgt := 21) hx hb dX8_openHours_57 (by decide) ?_
          exact ih _ _ _ _ _ _ _ hP hD hS (lv_sub hl [2, 3, 1, 0] rfl) hf hX
        refine lv_if_eq (tgt := 51) hx hb dX8_openHours_42 (by decide) (fun c_12 => ?_) (fun c_12 => ?_)
        · have hf := ip c_12 hf
          refine lv_iconst (v := 0) hx hb dX8_openHours_51 (by decide) ?_
          exact J52 _ _ _ _ hP hD hS (lv_sub hl [0, 1, 3] rfl) hf
        · have hf := iq c_12 hf
          refine lv_iconst (v := 1) hx hb dX8_openHours_45 (by decide) ?_
          refine lv_iload_n hx hb dX8_openHours_46 rfl (lv_at hl 3 rfl) ?_
          refine lv_ishl hx hb dX8_openHours_47 ?_
          refine lv_goto (tgt := 52) hx hb dX8_openHours_48 (by decide) ?_
          exact J52 _ _ _ _ hP hD hS (lv_sub hl [0, 1, 3] rfl) hf
  unfold fX8_openHours at hf
  refine lv_aload_n hx hb dX8_openHours_0 rfl (lv_at hl 0 rfl) ?_
  refine lv_iconst (v := 0) hx hb dX8_openHours_1 (by decide) ?_
  refine va_put (D := G.1) (ci := 8) (v := .int 0) (ty := .int) (C := RX8) (T := TX8) (N := 33) hx hb hw inW8 tyX8 tyX8_ok nmX8 hown hK.1 hP hD hS 0 rfl rfl 0 (by decide) (hw _ kw_6_21) (fun _ h9 => h9) rfl (by decide +kernel) rfl rfl (Nat.le_of_ble_eq_true rfl) dX8_openHours_2 (fun H locs hP hD hS => ?_)
  have hP : va_P G.1 vwCl [oX8 t_h t_a 0 t_taped t_at t_behind t_size t_kind t_number t_wrong t_wrongAt t_faultKind t_faultPlace t_x t_wayLong t_bothLeast, arI G (t_a 1) 558 t_all, arI G (t_a 16) 12 t_loss, arI G (t_a 17) 12 t_hops] H := hP
  have hD : va_D A [oX8 t_h t_a 0 t_taped t_at t_behind t_size t_kind t_number t_wrong t_wrongAt t_faultKind t_faultPlace t_x t_wayLong t_bothLeast, arI G (t_a 1) 558 t_all, arI G (t_a 16) 12 t_loss, arI G (t_a 17) 12 t_hops] := hD
  refine lv_aload_n hx hb dX8_openHours_5 rfl (lv_at hl 0 rfl) ?_
  refine lv_iload_n hx hb dX8_openHours_6 rfl (lv_at hl 1 rfl) ?_
  refine lv_i2l hx hb dX8_openHours_7 rfl ?_
  obtain ⟨r_1, hc_2, hf⟩ := bd1_in hf
  refine rcI (va_runV (As := [.long (Int32.toInt64 v1)]) (rest := []) ⟨hx, hb, hml, hown, hw⟩ ((ctX8_isPair l G t_h t_a 0 t_all t_taped t_at t_behind t_size t_kind t_number t_wrong t_wrongAt t_faultKind t_faultPlace t_x t_wayLong t_bothLeast (Int32.toInt64 v1) _ hc_2) _) (kV hw calX8_isPair kw_21_13 rfl rfl ⟨Nat.le_of_ble_eq_true rfl, Nat.le_of_ble_eq_true rfl⟩) (rpV (hP.sub (ws' := [oX8 t_h t_a 0 t_taped t_at t_behind t_size t_kind t_number t_wrong t_wrongAt t_faultKind t_faultPlace t_x t_wayLong t_bothLeast, arI G (t_a 1) 558 t_all]) [0, 1] rfl) hK (ci := 8) (q0 := 0) rfl rfl) rfl rfl hl.1 rfl (lv_room (Nat.le_of_ble_eq_true rfl)) dX8_openHours_8 ⟨Nat.zero_le _, Nat.zero_le _⟩) hS hA hP (fun H locs hP hS => ?_)
  refine lv_if_ne (tgt := 17) hx hb dX8_openHours_11 (by decide) (fun c_3 => ?_) (fun c_3 => ?_)
  · have hf := iq c_3 hf
    refine lv_iconst (v := 0) hx hb dX8_openHours_17 (by decide) ?_
    refine lv_istore_n (lv' := [(2, .int 0), (0, .ref t_h), (1, .int v1)]) hx hb dX8_openHours_18 rfl hl (by decide) rfl (fun ls hl => ?_)
    refine lv_iconst (v := 0) hx hb dX8_openHours_19 (by decide) ?_
    refine lv_istore_n (lv' := [(3, .int 0), (2, .int 0), (0, .ref t_h), (1, .int v1)]) hx hb dX8_openHours_20 rfl hl (by decide) rfl (fun ls hl => ?_)
    refine L21 _ _ _ _ _ _ _ _ _ _ hP hD hS (lv_sub hl [2, 3, 1, 0] rfl) hf (fun w_13 t_loss_14 t_hops_15 H locs ls hP hD hS hl hf => ?_)
    refine lv_iload_n hx hb dX8_openHours_60 rfl (lv_at hl 0 rfl) ?_
    exact hRet _ _ _ _ _ _ _ _ hf hP hS dX8_openHours_61
  · have hf := ip c_3 hf
    refine lv_bipush (v := (-2)) hx hb dX8_openHours_14 (by decide) ?_
    exact hRet _ _ _ _ _ _ _ _ hf hP hS dX8_openHours_16
theorem calX8_partOf : CalV yX8_partOf cX8_partOf 5 (some .int) 1 := ⟨⟨kw_33_4, kw_1_5, by decide +kernel⟩, kw_33_2, kw_33_3⟩
set_option maxHeartbeats 8000000 in
set_option maxRecDepth 100000 in
theorem ctX8_partOf (l : Launch) (G : GT) (t_h : Nat) (t_a : Nat → Nat) (t_thrown : Int32) (t_all : Nat → Int32) (t_taped : Int32) (t_at : Int32) (t_behind : Int32) (t_size : Int32) (t_kind : Int32) (t_number : Int32) (t_wrong : Int32) (t_wrongAt : Int32) (t_faultKind : Int32) (t_faultPlace : Int32) (t_x : Int32) (t_wayLong : Int32) (t_bothLeast : Int32) (v1 : Int32) (r : Int32) (hf : fX8_partOf t_all v1 = some r) : RdI l yX8_partOf (Cond.code yX8_partOf cX8_partOf 5 (some .int)) { frames := 5, cells := 0, slots := 0, locals := 117 } G [.ref t_h, .int v1] [oX8 t_h t_a t_thrown t_taped t_at t_behind t_size t_kind t_number t_wrong t_wrongAt t_faultKind t_faultPlace t_x t_wayLong t_bothLeast, arI G (t_a 1) 558 t_all] r := by
  intro sz
  refine Met.ofW (cc := cX8_partOf) (maxL := 5) (ret := (some .int)) (by decide) rfl ?_
  intro p e s m args below meth c s₁ B hml hv
  obtain ⟨hargs, hsz, hP, hK⟩ := hv
  subst hsz
  obtain ⟨hx, hb, hr, hw, hown, hlk⟩ := fwB B
  refine fw_enter hargs (Nat.le_of_ble_eq_true rfl) (fun ls hl => ?_)
  have hl : lv_has ls 5 [(0, .ref t_h), (1, .int v1)] := hl
  refine fw_Q (P := fun Q => ∃ A : Nat → Prop, va_S A s.heap s.heap [] ∧ (∀ q, s.heap.size ≤ q → A q) ∧ ∀ (v : Int32) (H : Heap) (locs : List Loc) (pc : Nat) (ls : Array Slot), some v = some r → va_S A s.heap H locs → decode cX8_partOf pc = .ok (.ireturn, 1) → W p l e ({ frames := 5, cells := 0, slots := 0, locals := 117 } : Room) s m args below meth c H locs 0 0 Q (F0 m pc ls [.int v])) ⟨fun q => s.heap.size ≤ q, va_S.rf, fun q h => h, fun v H locs pc ls h hS hd => retRI hx hb hr hlk hS h hd⟩ ?_
  rintro Q ⟨A, hS, hA, hRet⟩
  change W p l e ({ frames := 5, cells := 0, slots := 0, locals := 117 } : Room) s m args below meth c _ _ 0 0 Q _
  have L16 : ∀ (l3 : Int32) (K : Int32 → Option Int32) (n : Nat) (l2 : Int32) (l4 : Int32) (H : Heap) (locs : List Loc) (ls : Array Slot), va_P G.1 vwCl [oX8 t_h t_a t_thrown t_taped t_at t_behind t_size t_kind t_number t_wrong t_wrongAt t_faultKind t_faultPlace t_x t_wayLong t_bothLeast, arI G (t_a 1) 558 t_all] H → va_S A s.heap H locs → lv_has ls 5 [(0, .ref t_h), (2, .int l2), (3, .int l3), (4, .int l4)] → fX8_partOf_16 l3 t_all K n l2 l4 = some r → (∀ (k2 : Int32) (H : Heap) (locs : List Loc) (ls : Array Slot), va_P G.1 vwCl [oX8 t_h t_a t_thrown t_taped t_at t_behind t_size t_kind t_number t_wrong t_wrongAt t_faultKind t_faultPlace t_x t_wayLong t_bothLeast, arI G (t_a 1) 558 t_all] H → va_S A s.heap H locs → lv_has ls 5 [(0, .ref t_h), (2, .int k2), (3, .int l3)] → K k2 = some r → W p l e ({ frames := 5, cells := 0, slots := 0, locals := 117 } : Room) s m args below meth c H locs 0 0 Q (F0 m 56 ls [])) → W p l e ({ frames := 5, cells := 0, slots := 0, locals := 117 } : Room) s m args below meth c H locs 0 0 Q (F0 m 16 ls []) := by
    intro l3 K n
    induction n with
    | zero => intro l2 l4 H locs ls hP hS hl hf; rw [fX8_partOf_16] at hf; cases hf
    | succ n ih =>
      intro l2 l4 H locs ls hP hS hl hf hX
      rw [fX8_partOf_16] at hf
      refine lv_iload hx hb dX8_partOf_16 (lv_at hl 3 rfl) ?_
      refine lv_aload_n hx hb dX8_partOf_18 rfl (lv_at hl 0 rfl) ?_
      refine va_get (D := G.1) (ci := 8) (v := .ref (t_a 1)) (C := RX8) (T := TX8) (N := 33) hx hb hw inW8 hown hK.1 hP 0 rfl rfl 1 (by decide) (hw _ kw_5_11) (fun _ h9 => h9) rfl dX8_partOf_19 ?_
      refine lv_iconst (v := 0) hx hb dX8_partOf_22 (by decide) ?_
      obtain ⟨hi_4, hf⟩ := rdI_in hf
      refine va_iald hx hb hK.1 hP 1 0 rfl rfl hi_4 dX8_partOf_23 ?_
      refine lv_topi (fun x_3 ex_3 => ?_)
      have hf := hf x_3 ex_3
      refine lv_icmp_ge (tgt := 56) hx hb dX8_partOf_24 (by decide) (fun c_5 => ?_) (fun c_5 => ?_)
      · have hf := ip c_5 hf
        exact hX _ _ _ _ hP hS (lv_sub hl [0, 1, 2] rfl) hf
      · have hf := iq c_5 hf
        refine lv_iload_n hx hb dX8_partOf_27 rfl (lv_at hl 1 rfl) ?_
        refine lv_iload_n hx hb dX8_partOf_28 rfl (lv_at hl 2 rfl) ?_
        refine lv_iload hx hb dX8_partOf_29 (lv_at hl 3 rfl) ?_
        refine lv_ishr hx hb dX8_partOf_31 ?_
        refine lv_iconst (v := 1) hx hb dX8_partOf_32 (by decide) ?_
        refine lv_iand hx hb dX8_partOf_33 ?_
        refine lv_iconst (v := 1) hx hb dX8_partOf_34 (by decide) ?_
        refine jn_el hf (fun k_7 ek_7 hf => ?_)
        have J48 : ∀ (z_6 : Int32) (H : Heap) (locs : List Loc) (ls : Array Slot), va_P G.1 vwCl [oX8 t_h t_a t_thrown t_taped t_at t_behind t_size t_kind t_number t_wrong t_wrongAt t_faultKind t_faultPlace t_x t_wayLong t_bothLeast, arI G (t_a 1) 558 t_all] H → va_S A s.heap H locs → lv_has ls 5 [(0, .ref t_h), (3, .int l3), (4, .int l4)] → k_7 z_6 = some r → W p l e ({ frames := 5, cells := 0, slots := 0, locals := 117 } : Room) s m args below meth c H locs 0 0 Q (F0 m 48 ls [.int z_6, .int l2]) := by
          intro z_6 H locs ls hP hS hl hf
          rw [ek_7] at hf
          refine lv_ior hx hb dX8_partOf_48 ?_
          refine lv_topi (fun y_8 ey_8 => ?_)
          have hf := bnd_all hf y_8 ey_8
          refine lv_istore_n (lv' := [(2, .int y_8), (0, .ref t_h), (3, .int l3), (4, .int l4)]) hx hb dX8_partOf_49 rfl hl (by decide) rfl (fun ls hl => ?_)
          refine lv_iinc (v := (l4 + 1)) (lv' := [(4, .int (l4 + 1)), (2, .int y_8), (0, .ref t_h), (3, .int l3)]) hx hb dX8_partOf_50 hl (k := 3) rfl (by rfl) (by decide) rfl (fun ls hl => ?_)
          refine lv_goto (tgt := 16) hx hb dX8_partOf_53 (by decide) ?_
          exact ih _ _ _ _ _ hP hS (lv_sub hl [2, 1, 3, 0] rfl) hf hX
        refine lv_icmp_ne (tgt := 47) hx hb dX8_partOf_35 (by decide) (fun c_9 => ?_) (fun c_9 => ?_)
        · have hf := iq c_9 hf
          refine lv_iconst (v := 0) hx hb dX8_partOf_47 (by decide) ?_
          exact J48 _ _ _ _ hP hS (lv_sub hl [0, 2, 3] rfl) hf
        · have hf := ip c_9 hf
          refine lv_aload_n hx hb dX8_partOf_38 rfl (lv_at hl 0 rfl) ?_
          refine lv_iload hx hb dX8_partOf_39 (lv_at hl 3 rfl) ?_
          obtain ⟨r_10, hc_11, hf⟩ := bd1_in hf
          refine rcI (va_runV (As := [.int l4]) (rest := [.int l2]) ⟨hx, hb, hml, hown, hw⟩ ((ctX8_leadsTo l G t_h t_a t_thrown t_all t_taped t_at t_behind t_size t_kind t_number t_wrong t_wrongAt t_faultKind t_faultPlace t_x t_wayLong t_bothLeast l4 _ hc_11) _) (kV hw calX8_leadsTo kw_20_8 rfl rfl ⟨Nat.le_of_ble_eq_true rfl, Nat.le_of_ble_eq_true rfl⟩) (rpV (hP.sub (ws' := [oX8 t_h t_a t_thrown t_taped t_at t_behind t_size t_kind t_number t_wrong t_wrongAt t_faultKind t_faultPlace t_x t_wayLong t_bothLeast, arI G (t_a 1) 558 t_all]) [0, 1] rfl) hK (ci := 8) (q0 := 0) rfl rfl) rfl rfl hl.1 rfl (lv_room (Nat.le_of_ble_eq_true rfl)) dX8_partOf_41 ⟨Nat.zero_le _, Nat.zero_le _⟩) hS hA hP (fun H locs hP hS => ?_)
          refine lv_goto (tgt := 48) hx hb dX8_partOf_44 (by decide) ?_
          exact J48 _ _ _ _ hP hS (lv_sub hl [0, 2, 3] rfl) hf
  have L6 : ∀  (K : Int32 → Option Int32) (n : Nat) (l2 : Int32) (l3 : Int32) (H : Heap) (locs : List Loc) (ls : Array Slot), va_P G.1 vwCl [oX8 t_h t_a t_thrown t_taped t_at t_behind t_size t_kind t_number t_wrong t_wrongAt t_faultKind t_faultPlace t_x t_wayLong t_bothLeast, arI G (t_a 1) 558 t_all] H → va_S A s.heap H locs → lv_has ls 5 [(0, .ref t_h), (2, .int l2), (3, .int l3)] → fX8_partOf_6 t_all K n l2 l3 = some r → (∀ (k2 : Int32) (H : Heap) (locs : List Loc) (ls : Array Slot), va_P G.1 vwCl [oX8 t_h t_a t_thrown t_taped t_at t_behind t_size t_kind t_number t_wrong t_wrongAt t_faultKind t_faultPlace t_x t_wayLong t_bothLeast, arI G (t_a 1) 558 t_all] H → va_S A s.heap H locs → lv_has ls 5 [(2, .int k2)] → K k2 = some r → W p l e ({ frames := 5, cells := 0, slots := 0, locals := 117 } : Room) s m args below meth c H locs 0 0 Q (F0 m 59 ls [])) → W p l e ({ frames := 5, cells := 0, slots := 0, locals := 117 } : Room) s m args below meth c H locs 0 0 Q (F0 m 6 ls []) := by
    intro  K n
    induction n with
    | zero => intro l2 l3 H locs ls hP hS hl hf; rw [fX8_partOf_6] at hf; cases hf
    | succ n ih =>
      intro l2 l3 H locs ls hP hS hl hf hX
      rw [fX8_partOf_6] at hf
      refine lv_iload_n hx hb dX8_partOf_6 rfl (lv_at hl 2 rfl) ?_
      refine lv_iload_n hx hb dX8_partOf_7 rfl (lv_at hl 1 rfl) ?_
      refine lv_icmp_eq (tgt := 59) hx hb dX8_partOf_8 (by decide) (fun c_2 => ?_) (fun c_2 => ?_)
      · have hf := ip c_2 hf
        exact hX _ _ _ _ hP hS (lv_sub hl [1] rfl) hf
      · have hf := iq c_2 hf
        refine lv_iload_n hx hb dX8_partOf_11 rfl (lv_at hl 1 rfl) ?_
        refine lv_istore_n (lv' := [(3, .int l2), (0, .ref t_h), (2, .int l2)]) hx hb dX8_partOf_12 rfl hl (by decide) rfl (fun ls hl => ?_)
        refine lv_iconst (v := 0) hx hb dX8_partOf_13 (by decide) ?_
        refine lv_istore (lv' := [(4, .int 0), (3, .int l2), (0, .ref t_h), (2, .int l2)]) hx hb dX8_partOf_14 hl (by decide) rfl (fun ls hl => ?_)
        refine L16 _ _ _ _ _ _ _ _ hP hS (lv_sub hl [2, 3, 1, 0] rfl) hf (fun w_12 H locs ls hP hS hl hf => ?_)
        refine lv_goto (tgt := 6) hx hb dX8_partOf_56 (by decide) ?_
        exact ih _ _ _ _ _ hP hS (lv_sub hl [0, 1, 2] rfl) hf hX
  unfold fX8_partOf at hf
  refine lv_iconst (v := 1) hx hb dX8_partOf_0 (by decide) ?_
  refine lv_iload_n hx hb dX8_partOf_1 rfl (lv_at hl 1 rfl) ?_
  refine lv_ishl hx hb dX8_partOf_2 ?_
  refine lv_topi (fun y_1 ey_1 => ?_)
  have hf := bnd_all hf y_1 ey_1
  refine lv_istore_n (lv' := [(2, .int y_1), (0, .ref t_h), (1, .int v1)]) hx hb dX8_partOf_3 rfl hl (by decide) rfl (fun ls hl => ?_)
  refine lv_iconst (v := 0) hx hb dX8_partOf_4 (by decide) ?_
  refine lv_istore_n (lv' := [(3, .int 0), (2, .int y_1), (0, .ref t_h), (1, .int v1)]) hx hb dX8_partOf_5 rfl hl (by decide) rfl (fun ls hl => ?_)
  refine L6  _ _ _ _ _ _ _ hP hS (lv_sub hl [2, 1, 0] rfl) hf (fun w_13 H locs ls hP hS hl hf => ?_)
  refine lv_iload_n hx hb dX8_partOf_59 rfl (lv_at hl 0 rfl) ?_
  exact hRet _ _ _ _ _ hf hS dX8_partOf_60
theorem calX8_part : CalV yX8_part cX8_part 2 (some .int) 1 := ⟨⟨kw_33_0, kw_1_5, by decide +kernel⟩, kw_32_22, kw_32_23⟩
set_option maxHeartbeats 8000000 in
set_option maxRecDepth 100000 in
theorem ctX8_part (l : Launch) (G : GT) (t_h : Nat) (t_a : Nat → Nat) (t_thrown : Int32) (t_all : Nat → Int32) (t_taped : Int32) (t_at : Int32) (t_behind : Int32) (t_size : Int32) (t_kind : Int32) (t_number : Int32) (t_wrong : Int32) (t_wrongAt : Int32) (t_faultKind : Int32) (t_faultPlace : Int32) (t_x : Int32) (t_wayLong : Int32) (t_bothLeast : Int32) (v1 : Int32) (r : Int32) (o_t_thrown : Int32) (hf : fX8_part t_thrown t_all v1 = some (r, o_t_thrown)) : WrI l yX8_part (Cond.code yX8_part cX8_part 2 (some .int)) { frames := 6, cells := 0, slots := 0, locals := 141 } G [.ref t_h, .int v1] [oX8 t_h t_a t_thrown t_taped t_at t_behind t_size t_kind t_number t_wrong t_wrongAt t_faultKind t_faultPlace t_x t_wayLong t_bothLeast, arI G (t_a 1) 558 t_all] [oX8 t_h t_a o_t_thrown t_taped t_at t_behind t_size t_kind t_number t_wrong t_wrongAt t_faultKind t_faultPlace t_x t_wayLong t_bothLeast, arI G (t_a 1) 558 t_all] r := by
  intro sz
  refine Met.ofW (cc := cX8_part) (maxL := 2) (ret := (some .int)) (by decide) rfl ?_
  intro p e s m args below meth c s₁ B hml hv
  obtain ⟨hargs, hsz, hP, hD0, hK⟩ := hv
  subst hsz
  obtain ⟨hx, hb, hr, hw, hown, hlk⟩ := fwB B
  refine fw_enter hargs (Nat.le_of_ble_eq_true rfl) (fun ls hl => ?_)
  have hl : lv_has ls 2 [(0, .ref t_h), (1, .int v1)] := hl
  refine fw_Q (P := fun Q => ∃ A : Nat → Prop, va_D A [oX8 t_h t_a t_thrown t_taped t_at t_behind t_size t_kind t_number t_wrong t_wrongAt t_faultKind t_faultPlace t_x t_wayLong t_bothLeast, arI G (t_a 1) 558 t_all] ∧ va_S A s.heap s.heap [] ∧ (∀ q, s.heap.size ≤ q → A q) ∧ ∀ (v : Int32) (n_t_thrown : Int32) (H : Heap) (locs : List Loc) (pc : Nat) (ls : Array Slot), some (v, n_t_thrown) = some (r, o_t_thrown) → va_P G.1 vwCl [oX8 t_h t_a n_t_thrown t_taped t_at t_behind t_size t_kind t_number t_wrong t_wrongAt t_faultKind t_faultPlace t_x t_wayLong t_bothLeast, arI G (t_a 1) 558 t_all] H → va_S A s.heap H locs → decode cX8_part pc = .ok (.ireturn, 1) → W p l e ({ frames := 6, cells := 0, slots := 0, locals := 141 } : Room) s m args below meth c H locs 0 0 Q (F0 m pc ls [.int v])) ⟨va_A [oX8 t_h t_a t_thrown t_taped t_at t_behind t_size t_kind t_number t_wrong t_wrongAt t_faultKind t_faultPlace t_x t_wayLong t_bothLeast, arI G (t_a 1) 558 t_all] s.heap.size, hD0.self (sz := s.heap.size), va_S.rf, fun q h => Or.inr h, ?_⟩ ?_
  · intro v n_t_thrown H locs pc ls h hP hS hd
    cases h
    exact retWI hx hb hr hlk hS hP rfl hd
  rintro Q ⟨A, hD, hS, hA, hRet⟩
  change W p l e ({ frames := 6, cells := 0, slots := 0, locals := 141 } : Room) s m args below meth c _ _ 0 0 Q _
  unfold fX8_part at hf
  refine lv_aload_n hx hb dX8_part_0 rfl (lv_at hl 0 rfl) ?_
  refine lv_iconst (v := 0) hx hb dX8_part_1 (by decide) ?_
  refine va_put (D := G.1) (ci := 8) (v := .int 0) (ty := .int) (C := RX8) (T := TX8) (N := 33) hx hb hw inW8 tyX8 tyX8_ok nmX8 hown hK.1 hP hD hS 0 rfl rfl 0 (by decide) (hw _ kw_6_21) (fun _ h9 => h9) rfl (by decide +kernel) rfl rfl (Nat.le_of_ble_eq_true rfl) dX8_part_2 (fun H locs hP hD hS => ?_)
  have hP : va_P G.1 vwCl [oX8 t_h t_a 0 t_taped t_at t_behind t_size t_kind t_number t_wrong t_wrongAt t_faultKind t_faultPlace t_x t_wayLong t_bothLeast, arI G (t_a 1) 558 t_all] H := hP
  have hD : va_D A [oX8 t_h t_a 0 t_taped t_at t_behind t_size t_kind t_number t_wrong t_wrongAt t_faultKind t_faultPlace t_x t_wayLong t_bothLeast, arI G (t_a 1) 558 t_all] := hD
  refine lv_aload_n hx hb dX8_part_5 rfl (lv_at hl 0 rfl) ?_
  refine lv_iload_n hx hb dX8_part_6 rfl (lv_at hl 1 rfl) ?_
  refine lv_i2l hx hb dX8_part_7 rfl ?_
  obtain ⟨r_1, hc_2, hf⟩ := bd1_in hf
  refine rcI (va_runV (As := [.long (Int32.toInt64 v1)]) (rest := []) ⟨hx, hb, hml, hown, hw⟩ ((ctX8_isWindow l G t_h t_a 0 t_all t_taped t_at t_behind t_size t_kind t_number t_wrong t_wrongAt t_faultKind t_faultPlace t_x t_wayLong t_bothLeast (Int32.toInt64 v1) _ hc_2) _) (kV hw calX8_isWindow kw_20_4 rfl rfl ⟨Nat.le_of_ble_eq_true rfl, Nat.le_of_ble_eq_true rfl⟩) (rpV (hP.sub (ws' := [oX8 t_h t_a 0 t_taped t_at t_behind t_size t_kind t_number t_wrong t_wrongAt t_faultKind t_faultPlace t_x t_wayLong t_bothLeast, arI G (t_a 1) 558 t_all]) [0, 1] rfl) hK (ci := 8) (q0 := 0) rfl rfl) rfl rfl hl.1 rfl (lv_room (Nat.le_of_ble_eq_true rfl)) dX8_part_8 ⟨Nat.zero_le _, Nat.zero_le _⟩) hS hA hP (fun H locs hP hS => ?_)
  refine lv_if_eq (tgt := 22) hx hb dX8_part_11 (by decide) (fun c_3 => ?_) (fun c_3 => ?_)
  · have hf := ip c_3 hf
    refine lv_bipush (v := (-2)) hx hb dX8_part_22 (by decide) ?_
    exact hRet _ _ _ _ _ _ hf hP hS dX8_part_24
  · have hf := iq c_3 hf
    refine lv_aload_n hx hb dX8_part_14 rfl (lv_at hl 0 rfl) ?_
    refine lv_iload_n hx hb dX8_part_15 rfl (lv_at hl 1 rfl) ?_
    obtain ⟨r_4, hc_5, hf⟩ := bd1_in hf
    refine rcI (va_runV (As := [.int v1]) (rest := []) ⟨hx, hb, hml, hown, hw⟩ ((ctX8_partOf l G t_h t_a 0 t_all t_taped t_at t_behind t_size t_kind t_number t_wrong t_wrongAt t_faultKind t_faultPlace t_x t_wayLong t_bothLeast v1 _ hc_5) _) (kV hw calX8_partOf kw_33_1 rfl rfl ⟨Nat.le_of_ble_eq_true rfl, Nat.le_of_ble_eq_true rfl⟩) (rpV (hP.sub (ws' := [oX8 t_h t_a 0 t_taped t_at t_behind t_size t_kind t_number t_wrong t_wrongAt t_faultKind t_faultPlace t_x t_wayLong t_bothLeast, arI G (t_a 1) 558 t_all]) [0, 1] rfl) hK (ci := 8) (q0 := 0) rfl rfl) rfl rfl hl.1 rfl (lv_room (Nat.le_of_ble_eq_true rfl)) dX8_part_16 ⟨Nat.zero_le _, Nat.zero_le _⟩) hS hA hP (fun H locs hP hS => ?_)
    refine lv_goto (tgt := 24) hx hb dX8_part_19 (by decide) ?_
    exact hRet _ _ _ _ _ _ hf hP hS dX8_part_24
theorem calX8_partMany : CalV yX8_partMany cX8_partMany 4 (some .int) 0 := ⟨⟨kw_33_16, kw_1_5, by decide +kernel⟩, kw_33_14, kw_33_15⟩
set_option maxHeartbeats 8000000 in
set_option maxRecDepth 100000 in
theorem ctX8_partMany (l : Launch) (G : GT) (t_h : Nat) (t_a : Nat → Nat) (t_thrown : Int32) (t_all : Nat → Int32) (t_taped : Int32) (t_at : Int32) (t_behind : Int32) (t_size : Int32) (t_kind : Int32) (t_number : Int32) (t_wrong : Int32) (t_wrongAt : Int32) (t_faultKind : Int32) (t_faultPlace : Int32) (t_x : Int32) (t_wayLong : Int32) (t_bothLeast : Int32) (r : Int32) (hf : fX8_partMany t_all = some r) : RdI l yX8_partMany (Cond.code yX8_partMany cX8_partMany 4 (some .int)) { frames := 6, cells := 0, slots := 0, locals := 141 } G [.ref t_h] [oX8 t_h t_a t_thrown t_taped t_at t_behind t_size t_kind t_number t_wrong t_wrongAt t_faultKind t_faultPlace t_x t_wayLong t_bothLeast, arI G (t_a 1) 558 t_all] r := by
  intro sz
  refine Met.ofW (cc := cX8_partMany) (maxL := 4) (ret := (some .int)) (by decide) rfl ?_
  intro p e s m args below meth c s₁ B hml hv
  obtain ⟨hargs, hsz, hP, hK⟩ := hv
  subst hsz
  obtain ⟨hx, hb, hr, hw, hown, hlk⟩ := fwB B
  refine fw_enter hargs (Nat.le_of_ble_eq_true rfl) (fun ls hl => ?_)
  have hl : lv_has ls 4 [(0, .ref t_h)] := hl
  refine fw_Q (P := fun Q => ∃ A : Nat → Prop, va_S A s.heap s.heap [] ∧ (∀ q, s.heap.size ≤ q → A q) ∧ ∀ (v : Int32) (H : Heap) (locs : List Loc) (pc : Nat) (ls : Array Slot), some v = some r → va_S A s.heap H locs → decode cX8_partMany pc = .ok (.ireturn, 1) → W p l e ({ frames := 6, cells := 0, slots := 0, locals := 141 } : Room) s m args below meth c H locs 0 0 Q (F0 m pc ls [.int v])) ⟨fun q => s.heap.size ≤ q, va_S.rf, fun q h => h, fun v H locs pc ls h hS hd => retRI hx hb hr hlk hS h hd⟩ ?_
  rintro Q ⟨A, hS, hA, hRet⟩
  change W p l e ({ frames := 6, cells := 0, slots := 0, locals := 141 } : Room) s m args below meth c _ _ 0 0 Q _
  have L6 : ∀  (K : Int32 → Option Int32) (n : Nat) (l1 : Int32) (l2 : Int32) (l3 : Int32) (H : Heap) (locs : List Loc) (ls : Array Slot), va_P G.1 vwCl [oX8 t_h t_a t_thrown t_taped t_at t_behind t_size t_kind t_number t_wrong t_wrongAt t_faultKind t_faultPlace t_x t_wayLong t_bothLeast, arI G (t_a 1) 558 t_all] H → va_S A s.heap H locs → lv_has ls 4 [(0, .ref t_h), (1, .int l1), (2, .int l2), (3, .int l3)] → fX8_partMany_6 t_all K n l1 l2 l3 = some r → (∀ (k1 : Int32) (H : Heap) (locs : List Loc) (ls : Array Slot), va_P G.1 vwCl [oX8 t_h t_a t_thrown t_taped t_at t_behind t_size t_kind t_number t_wrong t_wrongAt t_faultKind t_faultPlace t_x t_wayLong t_bothLeast, arI G (t_a 1) 558 t_all] H → va_S A s.heap H locs → lv_has ls 4 [(1, .int k1)] → K k1 = some r → W p l e ({ frames := 6, cells := 0, slots := 0, locals := 141 } : Room) s m args below meth c H locs 0 0 Q (F0 m 45 ls [])) → W p l e ({ frames := 6, cells := 0, slots := 0, locals := 141 } : Room) s m args below meth c H locs 0 0 Q (F0 m 6 ls []) := by
    intro  K n
    induction n with
    | zero => intro l1 l2 l3 H locs ls hP hS hl hf; rw [fX8_partMany_6] at hf; cases hf
    | succ n ih =>
      intro l1 l2 l3 H locs ls hP hS hl hf hX
      rw [fX8_partMany_6] at hf
      refine lv_iload_n hx hb dX8_partMany_6 rfl (lv_at hl 3 rfl) ?_
      refine lv_aload_n hx hb dX8_partMany_7 rfl (lv_at hl 0 rfl) ?_
      refine va_get (D := G.1) (ci := 8) (v := .ref (t_a 1)) (C := RX8) (T := TX8) (N := 33) hx hb hw inW8 hown hK.1 hP 0 rfl rfl 1 (by decide) (hw _ kw_5_11) (fun _ h9 => h9) rfl dX8_partMany_8 ?_
      refine lv_iconst (v := 0) hx hb dX8_partMany_11 (by decide) ?_
      obtain ⟨hi_2, hf⟩ := rdI_in hf
      refine va_iald hx hb hK.1 hP 1 0 rfl rfl hi_2 dX8_partMany_12 ?_
      refine lv_topi (fun x_1 ex_1 => ?_)
      have hf := hf x_1 ex_1
      refine lv_icmp_ge (tgt := 45) hx hb dX8_partMany_13 (by decide) (fun c_3 => ?_) (fun c_3 => ?_)
      · have hf := ip c_3 hf
        exact hX _ _ _ _ hP hS (lv_sub hl [1] rfl) hf
      · have hf := iq c_3 hf
        refine lv_iload_n hx hb dX8_partMany_16 rfl (lv_at hl 2 rfl) ?_
        refine lv_iload_n hx hb dX8_partMany_17 rfl (lv_at hl 3 rfl) ?_
        refine lv_ishr hx hb dX8_partMany_18 ?_
        refine lv_iconst (v := 1) hx hb dX8_partMany_19 (by decide) ?_
        refine lv_iand hx hb dX8_partMany_20 ?_
        refine lv_iconst (v := 1) hx hb dX8_partMany_21 (by decide) ?_
        refine lv_icmp_ne (tgt := 28) hx hb dX8_partMany_22 (by decide) (fun c_4 => ?_) (fun c_4 => ?_)
        · have hf := iq c_4 hf
          refine lv_iload_n hx hb dX8_partMany_28 rfl (lv_at hl 2 rfl) ?_
          refine lv_aload_n hx hb dX8_partMany_29 rfl (lv_at hl 0 rfl) ?_
          refine lv_iload_n hx hb dX8_partMany_30 rfl (lv_at hl 3 rfl) ?_
          obtain ⟨r_5, hc_6, hf⟩ := bd1_in hf
          refine rcI (va_runV (As := [.int l3]) (rest := [.int l2]) ⟨hx, hb, hml, hown, hw⟩ ((ctX8_partOf l G t_h t_a t_thrown t_all t_taped t_at t_behind t_size t_kind t_number t_wrong t_wrongAt t_faultKind t_faultPlace t_x t_wayLong t_bothLeast l3 _ hc_6) _) (kV hw calX8_partOf kw_33_1 rfl rfl ⟨Nat.le_of_ble_eq_true rfl, Nat.le_of_ble_eq_true rfl⟩) (rpV (hP.sub (ws' := [oX8 t_h t_a t_thrown t_taped t_at t_behind t_size t_kind t_number t_wrong t_wrongAt t_faultKind t_faultPlace t_x t_wayLong t_bothLeast, arI G (t_a 1) 558 t_all]) [0, 1] rfl) hK (ci := 8) (q0 := 0) rfl rfl) rfl rfl hl.1 rfl (lv_room (Nat.le_of_ble_eq_true rfl)) dX8_partMany_31 ⟨Nat.zero_le _, Nat.zero_le _⟩) hS hA hP (fun H locs hP hS => ?_)
          refine lv_ior hx hb dX8_partMany_34 ?_
          refine lv_topi (fun y_7 ey_7 => ?_)
          have hf := bnd_all hf y_7 ey_7
          refine lv_istore_n (lv' := [(2, .int y_7), (0, .ref t_h), (1, .int l1), (3, .int l3)]) hx hb dX8_partMany_35 rfl hl (by decide) rfl (fun ls hl => ?_)
          refine lv_iinc (v := (l1 + 1)) (lv' := [(1, .int (l1 + 1)), (2, .int y_7), (0, .ref t_h), (3, .int l3)]) hx hb dX8_partMany_36 hl (k := 2) rfl (by rfl) (by decide) rfl (fun ls hl => ?_)
          refine lv_iinc (v := (l3 + 1)) (lv' := [(3, .int (l3 + 1)), (1, .int (l1 + 1)), (2, .int y_7), (0, .ref t_h)]) hx hb dX8_partMany_39 hl (k := 3) rfl (by rfl) (by decide) rfl (fun ls hl => ?_)
          refine lv_goto (tgt := 6) hx hb dX8_partMany_42 (by decide) ?_
          exact ih _ _ _ _ _ _ hP hS (lv_sub hl [3, 1, 2, 0] rfl) hf hX
        · have hf := ip c_4 hf
          refine lv_goto (tgt := 39) hx hb dX8_partMany_25 (by decide) ?_
          refine lv_iinc (v := (l3 + 1)) (lv' := [(3, .int (l3 + 1)), (0, .ref t_h), (1, .int l1), (2, .int l2)]) hx hb dX8_partMany_39 hl (k := 3) rfl (by rfl) (by decide) rfl (fun ls hl => ?_)
          refine lv_goto (tgt := 6) hx hb dX8_partMany_42 (by decide) ?_
          exact ih _ _ _ _ _ _ hP hS (lv_sub hl [1, 2, 3, 0] rfl) hf hX
  unfold fX8_partMany at hf
  refine lv_iconst (v := 0) hx hb dX8_partMany_0 (by decide) ?_
  refine lv_istore_n (lv' := [(1, .int 0), (0, .ref t_h)]) hx hb dX8_partMany_1 rfl hl (by decide) rfl (fun ls hl => ?_)
  refine lv_iconst (v := 0) hx hb dX8_partMany_2 (by decide) ?_
  refine lv_istore_n (lv' := [(2, .int 0), (1, .int 0), (0, .ref t_h)]) hx hb dX8_partMany_3 rfl hl (by decide) rfl (fun ls hl => ?_)
  refine lv_iconst (v := 0) hx hb dX8_partMany_4 (by decide) ?_
  refine lv_istore_n (lv' := [(3, .int 0), (2, .int 0), (1, .int 0), (0, .ref t_h)]) hx hb dX8_partMany_5 rfl hl (by decide) rfl (fun ls hl => ?_)
  refine L6  _ _ _ _ _ _ _ _ hP hS (lv_sub hl [3, 2, 1, 0] rfl) hf (fun w_8 H locs ls hP hS hl hf => ?_)
  refine lv_iload_n hx hb dX8_partMany_45 rfl (lv_at hl 0 rfl) ?_
  exact hRet _ _ _ _ _ hf hS dX8_partMany_46
theorem calX8_parts : CalV yX8_parts cX8_parts 1 (some .int) 0 := ⟨⟨kw_33_12, kw_1_5, by decide +kernel⟩, kw_33_10, kw_33_11⟩
set_option maxHeartbeats 8000000 in
set_option maxRecDepth 100000 in
theorem ctX8_parts (l : Launch) (G : GT) (t_h : Nat) (t_a : Nat → Nat) (t_thrown : Int32) (t_all : Nat → Int32) (t_taped : Int32) (t_at : Int32) (t_behind : Int32) (t_size : Int32) (t_kind : Int32) (t_number : Int32) (t_wrong : Int32) (t_wrongAt : Int32) (t_faultKind : Int32) (t_faultPlace : Int32) (t_x : Int32) (t_wayLong : Int32) (t_bothLeast : Int32) (r : Int32) (o_t_thrown : Int32) (hf : fX8_parts t_thrown t_all = some (r, o_t_thrown)) : WrI l yX8_parts (Cond.code yX8_parts cX8_parts 1 (some .int)) { frames := 7, cells := 0, slots := 0, locals := 164 } G [.ref t_h] [oX8 t_h t_a t_thrown t_taped t_at t_behind t_size t_kind t_number t_wrong t_wrongAt t_faultKind t_faultPlace t_x t_wayLong t_bothLeast, arI G (t_a 1) 558 t_all] [oX8 t_h t_a o_t_thrown t_taped t_at t_behind t_size t_kind t_number t_wrong t_wrongAt t_faultKind t_faultPlace t_x t_wayLong t_bothLeast, arI G (t_a 1) 558 t_all] r := by
  intro sz
  refine Met.ofW (cc := cX8_parts) (maxL := 1) (ret := (some .int)) (by decide) rfl ?_
  intro p e s m args below meth c s₁ B hml hv
  obtain ⟨hargs, hsz, hP, hD0, hK⟩ := hv
  subst hsz
  obtain ⟨hx, hb, hr, hw, hown, hlk⟩ := fwB B
  refine fw_enter hargs (Nat.le_of_ble_eq_true rfl) (fun ls hl => ?_)
  have hl : lv_has ls 1 [(0, .ref t_h)] := hl
  refine fw_Q (P := fun Q => ∃ A : Nat → Prop, va_D A [oX8 t_h t_a t_thrown t_taped t_at t_behind t_size t_kind t_number t_wrong t_wrongAt t_faultKind t_faultPlace t_x t_wayLong t_bothLeast, arI G (t_a 1) 558 t_all] ∧ va_S A s.heap s.heap [] ∧ (∀ q, s.heap.size ≤ q → A q) ∧ ∀ (v : Int32) (n_t_thrown : Int32) (H : Heap) (locs : List Loc) (pc : Nat) (ls : Array Slot), some (v, n_t_thrown) = some (r, o_t_thrown) → va_P G.1 vwCl [oX8 t_h t_a n_t_thrown t_taped t_at t_behind t_size t_kind t_number t_wrong t_wrongAt t_faultKind t_faultPlace t_x t_wayLong t_bothLeast, arI G (t_a 1) 558 t_all] H → va_S A s.heap H locs → decode cX8_parts pc = .ok (.ireturn, 1) → W p l e ({ frames := 7, cells := 0, slots := 0, locals := 164 } : Room) s m args below meth c H locs 0 0 Q (F0 m pc ls [.int v])) ⟨va_A [oX8 t_h t_a t_thrown t_taped t_at t_behind t_size t_kind t_number t_wrong t_wrongAt t_faultKind t_faultPlace t_x t_wayLong t_bothLeast, arI G (t_a 1) 558 t_all] s.heap.size, hD0.self (sz := s.heap.size), va_S.rf, fun q h => Or.inr h, ?_⟩ ?_
  · intro v n_t_thrown H locs pc ls h hP hS hd
    cases h
    exact retWI hx hb hr hlk hS hP rfl hd
  rintro Q ⟨A, hD, hS, hA, hRet⟩
  change W p l e ({ frames := 7, cells := 0, slots := 0, locals := 164 } : Room) s m args below meth c _ _ 0 0 Q _
  unfold fX8_parts at hf
  refine lv_aload_n hx hb dX8_parts_0 rfl (lv_at hl 0 rfl) ?_
  refine lv_iconst (v := 0) hx hb dX8_parts_1 (by decide) ?_
  refine va_put (D := G.1) (ci := 8) (v := .int 0) (ty := .int) (C := RX8) (T := TX8) (N := 33) hx hb hw inW8 tyX8 tyX8_ok nmX8 hown hK.1 hP hD hS 0 rfl rfl 0 (by decide) (hw _ kw_6_21) (fun _ h9 => h9) rfl (by decide +kernel) rfl rfl (Nat.le_of_ble_eq_true rfl) dX8_parts_2 (fun H locs hP hD hS => ?_)
  have hP : va_P G.1 vwCl [oX8 t_h t_a 0 t_taped t_at t_behind t_size t_kind t_number t_wrong t_wrongAt t_faultKind t_faultPlace t_x t_wayLong t_bothLeast, arI G (t_a 1) 558 t_all] H := hP
  have hD : va_D A [oX8 t_h t_a 0 t_taped t_at t_behind t_size t_kind t_number t_wrong t_wrongAt t_faultKind t_faultPlace t_x t_wayLong t_bothLeast, arI G (t_a 1) 558 t_all] := hD
  refine lv_aload_n hx hb dX8_parts_5 rfl (lv_at hl 0 rfl) ?_
  obtain ⟨r_1, hc_2, hf⟩ := bd1_in hf
  refine rcI (va_runV (As := []) (rest := []) ⟨hx, hb, hml, hown, hw⟩ ((ctX8_partMany l G t_h t_a 0 t_all t_taped t_at t_behind t_size t_kind t_number t_wrong t_wrongAt t_faultKind t_faultPlace t_x t_wayLong t_bothLeast _ hc_2) _) (kV hw calX8_partMany kw_33_13 rfl rfl ⟨Nat.le_of_ble_eq_true rfl, Nat.le_of_ble_eq_true rfl⟩) (rpV (hP.sub (ws' := [oX8 t_h t_a 0 t_taped t_at t_behind t_size t_kind t_number t_wrong t_wrongAt t_faultKind t_faultPlace t_x t_wayLong t_bothLeast, arI G (t_a 1) 558 t_all]) [0, 1] rfl) hK (ci := 8) (q0 := 0) rfl rfl) rfl rfl hl.1 rfl (lv_room (Nat.le_of_ble_eq_true rfl)) dX8_parts_6 ⟨Nat.zero_le _, Nat.zero_le _⟩) hS hA hP (fun H locs hP hS => ?_)
  exact hRet _ _ _ _ _ _ hf hP hS dX8_parts_9
theorem calX8_isStay : CalV yX8_isStay cX8_isStay 5 (some .boolean) 2 := ⟨⟨kw_34_21, kw_1_5, by decide +kernel⟩, kw_34_19, kw_34_20⟩
set_option maxHeartbeats 8000000 in
set_option maxRecDepth 100000 in
theorem ctX8_isStay (l : Launch) (G : GT) (t_h : Nat) (t_a : Nat → Nat) (t_thrown : Int32) (t_all : Nat → Int32) (t_taped : Int32) (t_at : Int32) (t_behind : Int32) (t_size : Int32) (t_kind : Int32) (t_number : Int32) (t_wrong : Int32) (t_wrongAt : Int32) (t_faultKind : Int32) (t_faultPlace : Int32) (t_x : Int32) (t_wayLong : Int32) (t_bothLeast : Int32) (v1 : Int32) (v2 : Int32) (r : Int32) (o_t_all : Nat → Int32) (hf : fX8_isStay t_all v1 v2 = some (r, o_t_all)) : WrI l yX8_isStay (Cond.code yX8_isStay cX8_isStay 5 (some .boolean)) { frames := 6, cells := 0, slots := 0, locals := 141 } G [.ref t_h, .int v1, .int v2] [oX8 t_h t_a t_thrown t_taped t_at t_behind t_size t_kind t_number t_wrong t_wrongAt t_faultKind t_faultPlace t_x t_wayLong t_bothLeast, arI G (t_a 1) 558 t_all] [oX8 t_h t_a t_thrown t_taped t_at t_behind t_size t_kind t_number t_wrong t_wrongAt t_faultKind t_faultPlace t_x t_wayLong t_bothLeast, arI G (t_a 1) 558 o_t_all] r := by
  intro sz
  refine Met.ofW (cc := cX8_isStay) (maxL := 5) (ret := (some .boolean)) (by decide) rfl ?_
  intro p e s m args below meth c s₁ B hml hv
  obtain ⟨hargs, hsz, hP, hD0, hK⟩ := hv
  subst hsz
  obtain ⟨hx, hb, hr, hw, hown, hlk⟩ := fwB B
  refine fw_enter hargs (Nat.le_of_ble_eq_true rfl) (fun ls hl => ?_)
  have hl : lv_has ls 5 [(0, .ref t_h), (1, .int v1), (2, .int v2)] := hl
  refine fw_Q (P := fun Q => ∃ A : Nat → Prop, va_D A [oX8 t_h t_a t_thrown t_taped t_at t_behind t_size t_kind t_number t_wrong t_wrongAt t_faultKind t_faultPlace t_x t_wayLong t_bothLeast, arI G (t_a 1) 558 t_all] ∧ va_S A s.heap s.heap [] ∧ (∀ q, s.heap.size ≤ q → A q) ∧ ∀ (v : Int32) (n_t_all : Nat → Int32) (H : Heap) (locs : List Loc) (pc : Nat) (ls : Array Slot), some (v, n_t_all) = some (r, o_t_all) → va_P G.1 vwCl [oX8 t_h t_a t_thrown t_taped t_at t_behind t_size t_kind t_number t_wrong t_wrongAt t_faultKind t_faultPlace t_x t_wayLong t_bothLeast, arI G (t_a 1) 558 n_t_all] H → va_S A s.heap H locs → narrow .boolean (.int v) = .int v → decode cX8_isStay pc = .ok (.ireturn, 1) → W p l e ({ frames := 6, cells := 0, slots := 0, locals := 141 } : Room) s m args below meth c H locs 0 0 Q (F0 m pc ls [.int v])) ⟨va_A [oX8 t_h t_a t_thrown t_taped t_at t_behind t_size t_kind t_number t_wrong t_wrongAt t_faultKind t_faultPlace t_x t_wayLong t_bothLeast, arI G (t_a 1) 558 t_all] s.heap.size, hD0.self (sz := s.heap.size), va_S.rf, fun q h => Or.inr h, ?_⟩ ?_
  · intro v n_t_all H locs pc ls h hP hS hn hd
    cases h
    exact retWZ hx hb hr hlk hS hP hn rfl hd
  rintro Q ⟨A, hD, hS, hA, hRet⟩
  change W p l e ({ frames := 6, cells := 0, slots := 0, locals := 141 } : Room) s m args below meth c _ _ 0 0 Q _
  unfold fX8_isStay at hf
  refine lv_aload_n hx hb dX8_isStay_0 rfl (lv_at hl 0 rfl) ?_
  refine lv_iload_n hx hb dX8_isStay_1 rfl (lv_at hl 1 rfl) ?_
  refine lv_iload_n hx hb dX8_isStay_2 rfl (lv_at hl 2 rfl) ?_
  refine lv_aload_n hx hb dX8_isStay_3 rfl (lv_at hl 0 rfl) ?_
  refine va_get (D := G.1) (ci := 8) (v := .ref (t_a 1)) (C := RX8) (T := TX8) (N := 33) hx hb hw inW8 hown hK.1 hP 0 rfl rfl 1 (by decide) (hw _ kw_5_11) (fun _ h9 => h9) rfl dX8_isStay_4 ?_
  refine lv_iconst (v := 1) hx hb dX8_isStay_7 (by decide) ?_
  obtain ⟨hi_2, hf⟩ := rdI_in hf
  refine va_iald hx hb hK.1 hP 1 0 rfl rfl hi_2 dX8_isStay_8 ?_
  refine lv_topi (fun x_1 ex_1 => ?_)
  have hf := hf x_1 ex_1
  obtain ⟨r_3, hc_4, hf⟩ := bd1_in hf
  refine rcI (va_runV (As := [.int v1, .int v2, .int x_1]) (rest := []) ⟨hx, hb, hml, hown, hw⟩ ((ctX8_talks l G t_h t_a t_thrown t_all t_taped t_at t_behind t_size t_kind t_number t_wrong t_wrongAt t_faultKind t_faultPlace t_x t_wayLong t_bothLeast v1 v2 x_1 _ hc_4) _) (kV hw calX8_talks kw_20_12 rfl rfl ⟨Nat.le_of_ble_eq_true rfl, Nat.le_of_ble_eq_true rfl⟩) (rpV (hP.sub (ws' := [oX8 t_h t_a t_thrown t_taped t_at t_behind t_size t_kind t_number t_wrong t_wrongAt t_faultKind t_faultPlace t_x t_wayLong t_bothLeast, arI G (t_a 1) 558 t_all]) [0, 1] rfl) hK (ci := 8) (q0 := 0) rfl rfl) rfl rfl hl.1 rfl (lv_room (Nat.le_of_ble_eq_true rfl)) dX8_isStay_9 ⟨Nat.zero_le _, Nat.zero_le _⟩) hS hA hP (fun H locs hP hS => ?_)
  refine lv_if_ne (tgt := 17) hx hb dX8_isStay_12 (by decide) (fun c_5 => ?_) (fun c_5 => ?_)
  · have hf := iq c_5 hf
    refine lv_aload_n hx hb dX8_isStay_17 rfl (lv_at hl 0 rfl) ?_
    refine va_get (D := G.1) (ci := 8) (v := .ref (t_a 1)) (C := RX8) (T := TX8) (N := 33) hx hb hw inW8 hown hK.1 hP 0 rfl rfl 1 (by decide) (hw _ kw_5_11) (fun _ h9 => h9) rfl dX8_isStay_18 ?_
    refine lv_bipush (v := 42) hx hb dX8_isStay_21 (by decide) ?_
    refine lv_bipush (v := 12) hx hb dX8_isStay_23 (by decide) ?_
    refine lv_iload_n hx hb dX8_isStay_25 rfl (lv_at hl 1 rfl) ?_
    refine lv_imul hx hb dX8_isStay_26 ?_
    refine lv_iadd hx hb dX8_isStay_27 ?_
    refine lv_iload_n hx hb dX8_isStay_28 rfl (lv_at hl 2 rfl) ?_
    refine lv_iadd hx hb dX8_isStay_29 ?_
    obtain ⟨hi_7, hf⟩ := rdI_in hf
    refine va_iald hx hb hK.1 hP 1 0 rfl rfl hi_7 dX8_isStay_30 ?_
    refine lv_topi (fun x_6 ex_6 => ?_)
    have hf := hf x_6 ex_6
    refine lv_istore_n (lv' := [(3, .int x_6), (0, .ref t_h), (1, .int v1), (2, .int v2)]) hx hb dX8_isStay_31 rfl hl (by decide) rfl (fun ls hl => ?_)
    refine lv_aload_n hx hb dX8_isStay_32 rfl (lv_at hl 1 rfl) ?_
    refine va_get (D := G.1) (ci := 8) (v := .ref (t_a 1)) (C := RX8) (T := TX8) (N := 33) hx hb hw inW8 hown hK.1 hP 0 rfl rfl 1 (by decide) (hw _ kw_5_11) (fun _ h9 => h9) rfl dX8_isStay_33 ?_
    refine lv_iload_n hx hb dX8_isStay_36 rfl (lv_at hl 2 rfl) ?_
    refine lv_iload_n hx hb dX8_isStay_37 rfl (lv_at hl 3 rfl) ?_
    refine lv_iconst (v := 0) hx hb dX8_isStay_38 (by decide) ?_
    obtain ⟨t_all_8, hc_9, hf⟩ := bd1_in hf
    refine wcV (w1 := [arI G (t_a 1) 558 t_all_8]) (va_runS (As := [.ref (t_a 1), .int v1, .int v2, .int 0]) (rest := []) ⟨hx, hb, hml, hown, hw⟩ ((ctX8_sets l G 558 (t_a 1) t_all v1 v2 0 _ hc_9) _) (kS hw calX8_sets kw_17_10 rfl rfl ⟨Nat.le_of_ble_eq_true rfl, Nat.le_of_ble_eq_true rfl⟩) (wpS (hP.sub (ws' := [arI G (t_a 1) 558 t_all]) [1] rfl) (hD.sub (ws' := [arI G (t_a 1) 558 t_all]) [1] (by decide) rfl) hK) rfl rfl hl.1 rfl (lv_room (Nat.le_of_ble_eq_true rfl)) dX8_isStay_39 ⟨Nat.zero_le _, Nat.zero_le _⟩) hS hA hP hD [1] rfl rfl (fun H locs hP hD hS => ?_)
    have hP : va_P G.1 vwCl [oX8 t_h t_a t_thrown t_taped t_at t_behind t_size t_kind t_number t_wrong t_wrongAt t_faultKind t_faultPlace t_x t_wayLong t_bothLeast, arI G (t_a 1) 558 t_all_8] H := hP
    have hD : va_D A [oX8 t_h t_a t_thrown t_taped t_at t_behind t_size t_kind t_number t_wrong t_wrongAt t_faultKind t_faultPlace t_x t_wayLong t_bothLeast, arI G (t_a 1) 558 t_all_8] := hD
    refine lv_aload_n hx hb dX8_isStay_42 rfl (lv_at hl 1 rfl) ?_
    refine lv_iload_n hx hb dX8_isStay_43 rfl (lv_at hl 2 rfl) ?_
    obtain ⟨r_10, hc_11, hf⟩ := bd1_in hf
    refine rcI (va_runV (As := [.int v1]) (rest := []) ⟨hx, hb, hml, hown, hw⟩ ((ctX8_partOf l G t_h t_a t_thrown t_all_8 t_taped t_at t_behind t_size t_kind t_number t_wrong t_wrongAt t_faultKind t_faultPlace t_x t_wayLong t_bothLeast v1 _ hc_11) _) (kV hw calX8_partOf kw_33_1 rfl rfl ⟨Nat.le_of_ble_eq_true rfl, Nat.le_of_ble_eq_true rfl⟩) (rpV (hP.sub (ws' := [oX8 t_h t_a t_thrown t_taped t_at t_behind t_size t_kind t_number t_wrong t_wrongAt t_faultKind t_faultPlace t_x t_wayLong t_bothLeast, arI G (t_a 1) 558 t_all_8]) [0, 1] rfl) hK (ci := 8) (q0 := 0) rfl rfl) rfl rfl hl.1 rfl (lv_room (Nat.le_of_ble_eq_true rfl)) dX8_isStay_44 ⟨Nat.zero_le _, Nat.zero_le _⟩) hS hA hP (fun H locs hP hS => ?_)
    refine lv_iload_n hx hb dX8_isStay_47 rfl (lv_at hl 3 rfl) ?_
    refine lv_ishr hx hb dX8_isStay_48 ?_
    refine lv_iconst (v := 1) hx hb dX8_isStay_49 (by decide) ?_
    refine lv_iand hx hb dX8_isStay_50 ?_
    refine jn_el hf (fun k_13 ek_13 hf => ?_)
    have J59 : ∀ (z_12 : Int32) (H : Heap) (locs : List Loc) (ls : Array Slot), va_P G.1 vwCl [oX8 t_h t_a t_thrown t_taped t_at t_behind t_size t_kind t_number t_wrong t_wrongAt t_faultKind t_faultPlace t_x t_wayLong t_bothLeast, arI G (t_a 1) 558 t_all_8] H → va_D A [oX8 t_h t_a t_thrown t_taped t_at t_behind t_size t_kind t_number t_wrong t_wrongAt t_faultKind t_faultPlace t_x t_wayLong t_bothLeast, arI G (t_a 1) 558 t_all_8] → va_S A s.heap H locs → lv_has ls 5 [(0, .ref t_h), (1, .int v1), (2, .int v2), (3, .int x_6)] → k_13 z_12 = some (r, o_t_all) → W p l e ({ frames := 6, cells := 0, slots := 0, locals := 141 } : Room) s m args below meth c H locs 0 0 Q (F0 m 59 ls [.int z_12]) := by
      intro z_12 H locs ls hP hD hS hl hf
      rw [ek_13] at hf
      refine lv_istore (lv' := [(4, .int z_12), (0, .ref t_h), (1, .int v1), (2, .int v2), (3, .int x_6)]) hx hb dX8_isStay_59 hl (by decide) rfl (fun ls hl => ?_)
      refine lv_aload_n hx hb dX8_isStay_61 rfl (lv_at hl 1 rfl) ?_
      refine va_get (D := G.1) (ci := 8) (v := .ref (t_a 1)) (C := RX8) (T := TX8) (N := 33) hx hb hw inW8 hown hK.1 hP 0 rfl rfl 1 (by decide) (hw _ kw_5_11) (fun _ h9 => h9) rfl dX8_isStay_62 ?_
      refine lv_iload_n hx hb dX8_isStay_65 rfl (lv_at hl 2 rfl) ?_
      refine lv_iload_n hx hb dX8_isStay_66 rfl (lv_at hl 3 rfl) ?_
      refine lv_iload_n hx hb dX8_isStay_67 rfl (lv_at hl 4 rfl) ?_
      obtain ⟨t_all_14, hc_15, hf⟩ := bd1_in hf
      refine wcV (w1 := [arI G (t_a 1) 558 t_all_14]) (va_runS (As := [.ref (t_a 1), .int v1, .int v2, .int x_6]) (rest := []) ⟨hx, hb, hml, hown, hw⟩ ((ctX8_sets l G 558 (t_a 1) t_all_8 v1 v2 x_6 _ hc_15) _) (kS hw calX8_sets kw_17_10 rfl rfl ⟨Nat.le_of_ble_eq_true rfl, Nat.le_of_ble_eq_true rfl⟩) (wpS (hP.sub (ws' := [arI G (t_a 1) 558 t_all_8]) [1] rfl) (hD.sub (ws' := [arI G (t_a 1) 558 t_all_8]) [1] (by decide) rfl) hK) rfl rfl hl.1 rfl (lv_room (Nat.le_of_ble_eq_true rfl)) dX8_isStay_68 ⟨Nat.zero_le _, Nat.zero_le _⟩) hS hA hP hD [1] rfl rfl (fun H locs hP hD hS => ?_)
      have hP : va_P G.1 vwCl [oX8 t_h t_a t_thrown t_taped t_at t_behind t_size t_kind t_number t_wrong t_wrongAt t_faultKind t_faultPlace t_x t_wayLong t_bothLeast, arI G (t_a 1) 558 t_all_14] H := hP
      have hD : va_D A [oX8 t_h t_a t_thrown t_taped t_at t_behind t_size t_kind t_number t_wrong t_wrongAt t_faultKind t_faultPlace t_x t_wayLong t_bothLeast, arI G (t_a 1) 558 t_all_14] := hD
      refine lv_iload hx hb dX8_isStay_71 (lv_at hl 0 rfl) ?_
      obtain ⟨hzn, hf⟩ := bzI_in hf
      exact hRet _ _ _ _ _ _ hf hP hS hzn dX8_isStay_73
    refine lv_if_ne (tgt := 58) hx hb dX8_isStay_51 (by decide) (fun c_16 => ?_) (fun c_16 => ?_)
    · have hf := iq c_16 hf
      refine lv_iconst (v := 0) hx hb dX8_isStay_58 (by decide) ?_
      exact J59 _ _ _ _ hP hD hS (lv_sub hl [1, 2, 3, 0] rfl) hf
    · have hf := ip c_16 hf
      refine lv_iconst (v := 1) hx hb dX8_isStay_54 (by decide) ?_
      refine lv_goto (tgt := 59) hx hb dX8_isStay_55 (by decide) ?_
      exact J59 _ _ _ _ hP hD hS (lv_sub hl [1, 2, 3, 0] rfl) hf
  · have hf := ip c_5 hf
    refine lv_iconst (v := 0) hx hb dX8_isStay_15 (by decide) ?_
    exact hRet _ _ _ _ _ _ hf hP hS (by decide +kernel) dX8_isStay_16
theorem calX8_stays : CalV yX8_stays cX8_stays 4 (some .int) 0 := ⟨⟨kw_35_21, kw_1_5, by decide +kernel⟩, kw_35_19, kw_35_20⟩
set_option maxHeartbeats 8000000 in
set_option maxRecDepth 100000 in
theorem ctX8_stays (l : Launch) (G : GT) (t_h : Nat) (t_a : Nat → Nat) (t_thrown : Int32) (t_all : Nat → Int32) (t_taped : Int32) (t_at : Int32) (t_behind : Int32) (t_size : Int32) (t_kind : Int32) (t_number : Int32) (t_wrong : Int32) (t_wrongAt : Int32) (t_faultKind : Int32) (t_faultPlace : Int32) (t_x : Int32) (t_wayLong : Int32) (t_bothLeast : Int32) (r : Int32) (o_t_all : Nat → Int32) (hf : fX8_stays t_all = some (r, o_t_all)) : WrI l yX8_stays (Cond.code yX8_stays cX8_stays 4 (some .int)) { frames := 7, cells := 0, slots := 0, locals := 165 } G [.ref t_h] [oX8 t_h t_a t_thrown t_taped t_at t_behind t_size t_kind t_number t_wrong t_wrongAt t_faultKind t_faultPlace t_x t_wayLong t_bothLeast, arI G (t_a 1) 558 t_all] [oX8 t_h t_a t_thrown t_taped t_at t_behind t_size t_kind t_number t_wrong t_wrongAt t_faultKind t_faultPlace t_x t_wayLong t_bothLeast, arI G (t_a 1) 558 o_t_all] r := by
  intro sz
  refine Met.ofW (cc := cX8_stays) (maxL := 4) (ret := (some .int)) (by decide) rfl ?_
  intro p e s m args below meth c s₁ B hml hv
  obtain ⟨hargs, hsz, hP, hD0, hK⟩ := hv
  subst hsz
  obtain ⟨hx, hb, hr, hw, hown, hlk⟩ := fwB B
  refine fw_enter hargs (Nat.le_of_ble_eq_true rfl) (fun ls hl => ?_)
  have hl : lv_has ls 4 [(0, .ref t_h)] := hl
  refine fw_Q (P := fun Q => ∃ A : Nat → Prop, va_D A [oX8 t_h t_a t_thrown t_taped t_at t_behind t_size t_kind t_number t_wrong t_wrongAt t_faultKind t_faultPlace t_x t_wayLong t_bothLeast, arI G (t_a 1) 558 t_all] ∧ va_S A s.heap s.heap [] ∧ (∀ q, s.heap.size ≤ q → A q) ∧ ∀ (v : Int32) (n_t_all : Nat → Int32) (H : Heap) (locs : List Loc) (pc : Nat) (ls : Array Slot), some (v, n_t_all) = some (r, o_t_all) → va_P G.1 vwCl [oX8 t_h t_a t_thrown t_taped t_at t_behind t_size t_kind t_number t_wrong t_wrongAt t_faultKind t_faultPlace t_x t_wayLong t_bothLeast, arI G (t_a 1) 558 n_t_all] H → va_S A s.heap H locs → decode cX8_stays pc = .ok (.ireturn, 1) → W p l e ({ frames := 7, cells := 0, slots := 0, locals := 165 } : Room) s m args below meth c H locs 0 0 Q (F0 m pc ls [.int v])) ⟨va_A [oX8 t_h t_a t_thrown t_taped t_at t_behind t_size t_kind t_number t_wrong t_wrongAt t_faultKind t_faultPlace t_x t_wayLong t_bothLeast, arI G (t_a 1) 558 t_all] s.heap.size, hD0.self (sz := s.heap.size), va_S.rf, fun q h => Or.inr h, ?_⟩ ?_
  · intro v n_t_all H locs pc ls h hP hS hd
    cases h
    exact retWI hx hb hr hlk hS hP rfl hd
  rintro Q ⟨A, hD, hS, hA, hRet⟩
  change W p l e ({ frames := 7, cells := 0, slots := 0, locals := 165 } : Room) s m args below meth c _ _ 0 0 Q _
  have L18 : ∀ (l2 : Int32) (K : Int32 → (Nat → Int32) → Option (Int32 × (Nat → Int32))) (n : Nat) (l1 : Int32) (l3 : Int32) (t_all : Nat → Int32) (H : Heap) (locs : List Loc) (ls : Array Slot), va_P G.1 vwCl [oX8 t_h t_a t_thrown t_taped t_at t_behind t_size t_kind t_number t_wrong t_wrongAt t_faultKind t_faultPlace t_x t_wayLong t_bothLeast, arI G (t_a 1) 558 t_all] H → va_D A [oX8 t_h t_a t_thrown t_taped t_at t_behind t_size t_kind t_number t_wrong t_wrongAt t_faultKind t_faultPlace t_x t_wayLong t_bothLeast, arI G (t_a 1) 558 t_all] → va_S A s.heap H locs → lv_has ls 4 [(0, .ref t_h), (1, .int l1), (2, .int l2), (3, .int l3)] → fX8_stays_18 l2 K n l1 l3 t_all = some (r, o_t_all) → (∀ (k1 : Int32) (kt_all : Nat → Int32) (H : Heap) (locs : List Loc) (ls : Array Slot), va_P G.1 vwCl [oX8 t_h t_a t_thrown t_taped t_at t_behind t_size t_kind t_number t_wrong t_wrongAt t_faultKind t_faultPlace t_x t_wayLong t_bothLeast, arI G (t_a 1) 558 kt_all] H → va_D A [oX8 t_h t_a t_thrown t_taped t_at t_behind t_size t_kind t_number t_wrong t_wrongAt t_faultKind t_faultPlace t_x t_wayLong t_bothLeast, arI G (t_a 1) 558 kt_all] → va_S A s.heap H locs → lv_has ls 4 [(0, .ref t_h), (1, .int k1), (2, .int l2)] → K k1 kt_all = some (r, o_t_all) → W p l e ({ frames := 7, cells := 0, slots := 0, locals := 165 } : Room) s m args below meth c H locs 0 0 Q (F0 m 51 ls [])) → W p l e ({ frames := 7, cells := 0, slots := 0, locals := 165 } : Room) s m args below meth c H locs 0 0 Q (F0 m 18 ls []) := by
    intro l2 K n
    induction n with
    | zero => intro l1 l3 t_all H locs ls hP hD hS hl hf; rw [fX8_stays_18] at hf; cases hf
    | succ n ih =>
      intro l1 l3 t_all H locs ls hP hD hS hl hf hX
      rw [fX8_stays_18] at hf
      refine lv_iload_n hx hb dX8_stays_18 rfl (lv_at hl 3 rfl) ?_
      refine lv_aload_n hx hb dX8_stays_19 rfl (lv_at hl 0 rfl) ?_
      refine va_get (D := G.1) (ci := 8) (v := .ref (t_a 1)) (C := RX8) (T := TX8) (N := 33) hx hb hw inW8 hown hK.1 hP 0 rfl rfl 1 (by decide) (hw _ kw_5_11) (fun _ h9 => h9) rfl dX8_stays_20 ?_
      refine lv_iconst (v := 0) hx hb dX8_stays_23 (by decide) ?_
      obtain ⟨hi_6, hf⟩ := rdI_in hf
      refine va_iald hx hb hK.1 hP 1 0 rfl rfl hi_6 dX8_stays_24 ?_
      refine lv_topi (fun x_5 ex_5 => ?_)
      have hf := hf x_5 ex_5
      refine lv_icmp_ge (tgt := 51) hx hb dX8_stays_25 (by decide) (fun c_7 => ?_) (fun c_7 => ?_)
      · have hf := ip c_7 hf
        exact hX _ _ _ _ _ hP hD hS (lv_sub hl [0, 1, 2] rfl) hf
      · have hf := iq c_7 hf
        refine lv_iload_n hx hb dX8_stays_28 rfl (lv_at hl 1 rfl) ?_
        refine lv_aload_n hx hb dX8_stays_29 rfl (lv_at hl 0 rfl) ?_
        refine lv_iload_n hx hb dX8_stays_30 rfl (lv_at hl 2 rfl) ?_
        refine lv_iload_n hx hb dX8_stays_31 rfl (lv_at hl 3 rfl) ?_
        obtain ⟨r_9, t_all_8, hc_10, hf⟩ := bd2_in hf
        refine wcI (w1 := [oX8 t_h t_a t_thrown t_taped t_at t_behind t_size t_kind t_number t_wrong t_wrongAt t_faultKind t_faultPlace t_x t_wayLong t_bothLeast, arI G (t_a 1) 558 t_all_8]) (va_runV (As := [.int l2, .int l3]) (rest := [.int l1]) ⟨hx, hb, hml, hown, hw⟩ ((ctX8_isStay l G t_h t_a t_thrown t_all t_taped t_at t_behind t_size t_kind t_number t_wrong t_wrongAt t_faultKind t_faultPlace t_x t_wayLong t_bothLeast l2 l3 _ _ hc_10) _) (kV hw calX8_isStay kw_34_18 rfl rfl ⟨Nat.le_of_ble_eq_true rfl, Nat.le_of_ble_eq_true rfl⟩) (wpV (hP.sub (ws' := [oX8 t_h t_a t_thrown t_taped t_at t_behind t_size t_kind t_number t_wrong t_wrongAt t_faultKind t_faultPlace t_x t_wayLong t_bothLeast, arI G (t_a 1) 558 t_all]) [0, 1] rfl) (hD.sub (ws' := [oX8 t_h t_a t_thrown t_taped t_at t_behind t_size t_kind t_number t_wrong t_wrongAt t_faultKind t_faultPlace t_x t_wayLong t_bothLeast, arI G (t_a 1) 558 t_all]) [0, 1] (by decide) rfl) hK (ci := 8) (q0 := 0) rfl rfl) rfl rfl hl.1 rfl (lv_room (Nat.le_of_ble_eq_true rfl)) dX8_stays_32 ⟨Nat.zero_le _, Nat.zero_le _⟩) hS hA hP hD [0, 1] rfl rfl (fun H locs hP hD hS => ?_)
        have hP : va_P G.1 vwCl [oX8 t_h t_a t_thrown t_taped t_at t_behind t_size t_kind t_number t_wrong t_wrongAt t_faultKind t_faultPlace t_x t_wayLong t_bothLeast, arI G (t_a 1) 558 t_all_8] H := hP
        have hD : va_D A [oX8 t_h t_a t_thrown t_taped t_at t_behind t_size t_kind t_number t_wrong t_wrongAt t_faultKind t_faultPlace t_x t_wayLong t_bothLeast, arI G (t_a 1) 558 t_all_8] := hD
        refine lv_if_eq (tgt := 42) hx hb dX8_stays_35 (by decide) (fun c_11 => ?_) (fun c_11 => ?_)
        · have hf := ip c_11 hf
          refine lv_iconst (v := 0) hx hb dX8_stays_42 (by decide) ?_
          refine lv_iadd hx hb dX8_stays_43 ?_
          refine lv_topi (fun y_12 ey_12 => ?_)
          have hf := bnd_all hf y_12 ey_12
          refine lv_istore_n (lv' := [(1, .int y_12), (0, .ref t_h), (2, .int l2), (3, .int l3)]) hx hb dX8_stays_44 rfl hl (by decide) rfl (fun ls hl => ?_)
          refine lv_iinc (v := (l3 + 1)) (lv' := [(3, .int (l3 + 1)), (1, .int y_12), (0, .ref t_h), (2, .int l2)]) hx hb dX8_stays_45 hl (k := 3) rfl (by rfl) (by decide) rfl (fun ls hl => ?_)
          refine lv_goto (tgt := 18) hx hb dX8_stays_48 (by decide) ?_
          exact ih _ _ _ _ _ _ hP hD hS (lv_sub hl [2, 1, 3, 0] rfl) hf hX
        · have hf := iq c_11 hf
          refine lv_iconst (v := 1) hx hb dX8_stays_38 (by decide) ?_
          refine lv_goto (tgt := 43) hx hb dX8_stays_39 (by decide) ?_
          refine lv_iadd hx hb dX8_stays_43 ?_
          refine lv_topi (fun y_13 ey_13 => ?_)
          have hf := bnd_all hf y_13 ey_13
          refine lv_istore_n (lv' := [(1, .int y_13), (0, .ref t_h), (2, .int l2), (3, .int l3)]) hx hb dX8_stays_44 rfl hl (by decide) rfl (fun ls hl => ?_)
          refine lv_iinc (v := (l3 + 1)) (lv' := [(3, .int (l3 + 1)), (1, .int y_13), (0, .ref t_h), (2, .int l2)]) hx hb dX8_stays_45 hl (k := 3) rfl (by rfl) (by decide) rfl (fun ls hl => ?_)
          refine lv_goto (tgt := 18) hx hb dX8_stays_48 (by decide) ?_
          exact ih _ _ _ _ _ _ hP hD hS (lv_sub hl [2, 1, 3, 0] rfl) hf hX
  have L4 : ∀  (K : Int32 → (Nat → Int32) → Option (Int32 × (Nat → Int32))) (n : Nat) (l1 : Int32) (l2 : Int32) (t_all : Nat → Int32) (H : Heap) (locs : List Loc) (ls : Array Slot), va_P G.1 vwCl [oX8 t_h t_a t_thrown t_taped t_at t_behind t_size t_kind t_number t_wrong t_wrongAt t_faultKind t_faultPlace t_x t_wayLong t_bothLeast, arI G (t_a 1) 558 t_all] H → va_D A [oX8 t_h t_a t_thrown t_taped t_at t_behind t_size t_kind t_number t_wrong t_wrongAt t_faultKind t_faultPlace t_x t_wayLong t_bothLeast, arI G (t_a 1) 558 t_all] → va_S A s.heap H locs → lv_has ls 4 [(0, .ref t_h), (1, .int l1), (2, .int l2)] → fX8_stays_4  K n l1 l2 t_all = some (r, o_t_all) → (∀ (k1 : Int32) (kt_all : Nat → Int32) (H : Heap) (locs : List Loc) (ls : Array Slot), va_P G.1 vwCl [oX8 t_h t_a t_thrown t_taped t_at t_behind t_size t_kind t_number t_wrong t_wrongAt t_faultKind t_faultPlace t_x t_wayLong t_bothLeast, arI G (t_a 1) 558 kt_all] H → va_D A [oX8 t_h t_a t_thrown t_taped t_at t_behind t_size t_kind t_number t_wrong t_wrongAt t_faultKind t_faultPlace t_x t_wayLong t_bothLeast, arI G (t_a 1) 558 kt_all] → va_S A s.heap H locs → lv_has ls 4 [(1, .int k1)] → K k1 kt_all = some (r, o_t_all) → W p l e ({ frames := 7, cells := 0, slots := 0, locals := 165 } : Room) s m args below meth c H locs 0 0 Q (F0 m 57 ls [])) → W p l e ({ frames := 7, cells := 0, slots := 0, locals := 165 } : Room) s m args below meth c H locs 0 0 Q (F0 m 4 ls []) := by
    intro  K n
    induction n with
    | zero => intro l1 l2 t_all H locs ls hP hD hS hl hf; rw [fX8_stays_4] at hf; cases hf
    | succ n ih =>
      intro l1 l2 t_all H locs ls hP hD hS hl hf hX
      rw [fX8_stays_4] at hf
      refine lv_iload_n hx hb dX8_stays_4 rfl (lv_at hl 2 rfl) ?_
      refine lv_aload_n hx hb dX8_stays_5 rfl (lv_at hl 0 rfl) ?_
      refine va_get (D := G.1) (ci := 8) (v := .ref (t_a 1)) (C := RX8) (T := TX8) (N := 33) hx hb hw inW8 hown hK.1 hP 0 rfl rfl 1 (by decide) (hw _ kw_5_11) (fun _ h9 => h9) rfl dX8_stays_6 ?_
      refine lv_iconst (v := 0) hx hb dX8_stays_9 (by decide) ?_
      obtain ⟨hi_2, hf⟩ := rdI_in hf
      refine va_iald hx hb hK.1 hP 1 0 rfl rfl hi_2 dX8_stays_10 ?_
      refine lv_topi (fun x_1 ex_1 => ?_)
      have hf := hf x_1 ex_1
      refine lv_icmp_ge (tgt := 57) hx hb dX8_stays_11 (by decide) (fun c_3 => ?_) (fun c_3 => ?_)
      · have hf := ip c_3 hf
        exact hX _ _ _ _ _ hP hD hS (lv_sub hl [1] rfl) hf
      · have hf := iq c_3 hf
        refine lv_iload_n hx hb dX8_stays_14 rfl (lv_at hl 2 rfl) ?_
        refine lv_iconst (v := 1) hx hb dX8_stays_15 (by decide) ?_
        refine lv_iadd hx hb dX8_stays_16 ?_
        refine lv_topi (fun y_4 ey_4 => ?_)
        have hf := bnd_all hf y_4 ey_4
        refine lv_istore_n (lv' := [(3, .int y_4), (0, .ref t_h), (1, .int l1), (2, .int l2)]) hx hb dX8_stays_17 rfl hl (by decide) rfl (fun ls hl => ?_)
        refine L18 _ _ _ _ _ _ _ _ _ hP hD hS (lv_sub hl [1, 2, 3, 0] rfl) hf (fun w_14 t_all_15 H locs ls hP hD hS hl hf => ?_)
        refine lv_iinc (v := (l2 + 1)) (lv' := [(2, .int (l2 + 1)), (0, .ref t_h), (1, .int w_14)]) hx hb dX8_stays_51 hl (k := 2) rfl (by rfl) (by decide) rfl (fun ls hl => ?_)
        refine lv_goto (tgt := 4) hx hb dX8_stays_54 (by decide) ?_
        exact ih _ _ _ _ _ _ hP hD hS (lv_sub hl [1, 2, 0] rfl) hf hX
  unfold fX8_stays at hf
  refine lv_iconst (v := 0) hx hb dX8_stays_0 (by decide) ?_
  refine lv_istore_n (lv' := [(1, .int 0), (0, .ref t_h)]) hx hb dX8_stays_1 rfl hl (by decide) rfl (fun ls hl => ?_)
  refine lv_iconst (v := 0) hx hb dX8_stays_2 (by decide) ?_
  refine lv_istore_n (lv' := [(2, .int 0), (1, .int 0), (0, .ref t_h)]) hx hb dX8_stays_3 rfl hl (by decide) rfl (fun ls hl => ?_)
  refine L4  _ _ _ _ _ _ _ _ hP hD hS (lv_sub hl [2, 1, 0] rfl) hf (fun w_16 t_all_17 H locs ls hP hD hS hl hf => ?_)
  refine lv_iload_n hx hb dX8_stays_57 rfl (lv_at hl 0 rfl) ?_
  exact hRet _ _ _ _ _ _ hf hP hS dX8_stays_58
theorem calX8_stay : CalV yX8_stay cX8_stay 5 (some .int) 1 := ⟨⟨kw_34_17, kw_1_5, by decide +kernel⟩, kw_34_15, kw_34_16⟩
set_option maxHeartbeats 8000000 in
set_option maxRecDepth 100000 in
theorem ctX8_stay (l : Launch) (G : GT) (t_h : Nat) (t_a : Nat → Nat) (t_thrown : Int32) (t_all : Nat → Int32) (t_taped : Int32) (t_at : Int32) (t_behind : Int32) (t_size : Int32) (t_kind : Int32) (t_number : Int32) (t_wrong : Int32) (t_wrongAt : Int32) (t_faultKind : Int32) (t_faultPlace : Int32) (t_x : Int32) (t_wayLong : Int32) (t_bothLeast : Int32) (v1 : Int32) (r : Int32) (o_t_thrown : Int32) (o_t_all : Nat → Int32) (hf : fX8_stay t_thrown t_all v1 = some (r, o_t_thrown, o_t_all)) : WrI l yX8_stay (Cond.code yX8_stay cX8_stay 5 (some .int)) { frames := 7, cells := 0, slots := 0, locals := 165 } G [.ref t_h, .int v1] [oX8 t_h t_a t_thrown t_taped t_at t_behind t_size t_kind t_number t_wrong t_wrongAt t_faultKind t_faultPlace t_x t_wayLong t_bothLeast, arI G (t_a 1) 558 t_all] [oX8 t_h t_a o_t_thrown t_taped t_at t_behind t_size t_kind t_number t_wrong t_wrongAt t_faultKind t_faultPlace t_x t_wayLong t_bothLeast, arI G (t_a 1) 558 o_t_all] r := by
  intro sz
  refine Met.ofW (cc := cX8_stay) (maxL := 5) (ret := (some .int)) (by decide) rfl ?_
  intro p e s m args below meth c s₁ B hml hv
  obtain ⟨hargs, hsz, hP, hD0, hK⟩ := hv
  subst hsz
  obtain ⟨hx, hb, hr, hw, hown, hlk⟩ := fwB B
  refine fw_enter hargs (Nat.le_of_ble_eq_true rfl) (fun ls hl => ?_)
  have hl : lv_has ls 5 [(0, .ref t_h), (1, .int v1)] := hl
  refine fw_Q (P := fun Q => ∃ A : Nat → Prop, va_D A [oX8 t_h t_a t_thrown t_taped t_at t_behind t_size t_kind t_number t_wrong t_wrongAt t_faultKind t_faultPlace t_x t_wayLong t_bothLeast, arI G (t_a 1) 558 t_all] ∧ va_S A s.heap s.heap [] ∧ (∀ q, s.heap.size ≤ q → A q) ∧ ∀ (v : Int32) (n_t_thrown : Int32) (n_t_all : Nat → Int32) (H : Heap) (locs : List Loc) (pc : Nat) (ls : Array Slot), some (v, n_t_thrown, n_t_all) = some (r, o_t_thrown, o_t_all) → va_P G.1 vwCl [oX8 t_h t_a n_t_thrown t_taped t_at t_behind t_size t_kind t_number t_wrong t_wrongAt t_faultKind t_faultPlace t_x t_wayLong t_bothLeast, arI G (t_a 1) 558 n_t_all] H → va_S A s.heap H locs → decode cX8_stay pc = .ok (.ireturn, 1) → W p l e ({ frames := 7, cells := 0, slots := 0, locals := 165 } : Room) s m args below meth c H locs 0 0 Q (F0 m pc ls [.int v])) ⟨va_A [oX8 t_h t_a t_thrown t_taped t_at t_behind t_size t_kind t_number t_wrong t_wrongAt t_faultKind t_faultPlace t_x t_wayLong t_bothLeast, arI G (t_a 1) 558 t_all] s.heap.size, hD0.self (sz := s.heap.size), va_S.rf, fun q h => Or.inr h, ?_⟩ ?_
  · intro v n_t_thrown n_t_all H locs pc ls h hP hS hd
    cases h
    exact retWI hx hb hr hlk hS hP rfl hd
  rintro Q ⟨A, hD, hS, hA, hRet⟩
  change W p l e ({ frames := 7, cells := 0, slots := 0, locals := 165 } : Room) s m args below meth c _ _ 0 0 Q _
  have L24 : ∀ (l3 : Int32) (t_thrown : Int32) (K : Int32 → (Nat → Int32) → Option (Int32 × Int32 × (Nat → Int32))) (n : Nat) (l2 : Int32) (l4 : Int32) (t_all : Nat → Int32) (H : Heap) (locs : List Loc) (ls : Array Slot), va_P G.1 vwCl [oX8 t_h t_a t_thrown t_taped t_at t_behind t_size t_kind t_number t_wrong t_wrongAt t_faultKind t_faultPlace t_x t_wayLong t_bothLeast, arI G (t_a 1) 558 t_all] H → va_D A [oX8 t_h t_a t_thrown t_taped t_at t_behind t_size t_kind t_number t_wrong t_wrongAt t_faultKind t_faultPlace t_x t_wayLong t_bothLeast, arI G (t_a 1) 558 t_all] → va_S A s.heap H locs → lv_has ls 5 [(0, .ref t_h), (1, .int v1), (2, .int l2), (3, .int l3), (4, .int l4)] → fX8_stay_24 v1 l3 t_thrown K n l2 l4 t_all = some (r, o_t_thrown, o_t_all) → (∀ (k2 : Int32) (kt_all : Nat → Int32) (H : Heap) (locs : List Loc) (ls : Array Slot), va_P G.1 vwCl [oX8 t_h t_a t_thrown t_taped t_at t_behind t_size t_kind t_number t_wrong t_wrongAt t_faultKind t_faultPlace t_x t_wayLong t_bothLeast, arI G (t_a 1) 558 kt_all] H → va_D A [oX8 t_h t_a t_thrown t_taped t_at t_behind t_size t_kind t_number t_wrong t_wrongAt t_faultKind t_faultPlace t_x t_wayLong t_bothLeast, arI G (t_a 1) 558 kt_all] → va_S A s.heap H locs → lv_has ls 5 [(0, .ref t_h), (1, .int v1), (2, .int k2), (3, .int l3)] → K k2 kt_all = some (r, o_t_thrown, o_t_all) → W p l e ({ frames := 7, cells := 0, slots := 0, locals := 165 } : Room) s m args below meth c H locs 0 0 Q (F0 m 70 ls [])) → W p l e ({ frames := 7, cells := 0, slots := 0, locals := 165 } : Room) s m args below meth c H locs 0 0 Q (F0 m 24 ls []) := by
    intro l3 t_thrown K n
    induction n with
    | zero => intro l2 l4 t_all H locs ls hP hD hS hl hf; rw [fX8_stay_24] at hf; cases hf
    | succ n ih =>
      intro l2 l4 t_all H locs ls hP hD hS hl hf hX
      rw [fX8_stay_24] at hf
      refine lv_iload hx hb dX8_stay_24 (lv_at hl 4 rfl) ?_
      refine lv_aload_n hx hb dX8_stay_26 rfl (lv_at hl 0 rfl) ?_
      refine va_get (D := G.1) (ci := 8) (v := .ref (t_a 1)) (C := RX8) (T := TX8) (N := 33) hx hb hw inW8 hown hK.1 hP 0 rfl rfl 1 (by decide) (hw _ kw_5_11) (fun _ h9 => h9) rfl dX8_stay_27 ?_
      refine lv_iconst (v := 0) hx hb dX8_stay_30 (by decide) ?_
      obtain ⟨hi_6, hf⟩ := rdI_in hf
      refine va_iald hx hb hK.1 hP 1 0 rfl rfl hi_6 dX8_stay_31 ?_
      refine lv_topi (fun x_5 ex_5 => ?_)
      have hf := hf x_5 ex_5
      refine lv_icmp_ge (tgt := 70) hx hb dX8_stay_32 (by decide) (fun c_7 => ?_) (fun c_7 => ?_)
      · have hf := ip c_7 hf
        exact hX _ _ _ _ _ hP hD hS (lv_sub hl [0, 1, 2, 3] rfl) hf
      · have hf := iq c_7 hf
        refine lv_aload_n hx hb dX8_stay_35 rfl (lv_at hl 0 rfl) ?_
        refine lv_iload_n hx hb dX8_stay_36 rfl (lv_at hl 3 rfl) ?_
        refine lv_iload hx hb dX8_stay_37 (lv_at hl 4 rfl) ?_
        obtain ⟨r_9, t_all_8, hc_10, hf⟩ := bd2_in hf
        refine wcI (w1 := [oX8 t_h t_a t_thrown t_taped t_at t_behind t_size t_kind t_number t_wrong t_wrongAt t_faultKind t_faultPlace t_x t_wayLong t_bothLeast, arI G (t_a 1) 558 t_all_8]) (va_runV (As := [.int l3, .int l4]) (rest := []) ⟨hx, hb, hml, hown, hw⟩ ((ctX8_isStay l G t_h t_a t_thrown t_all t_taped t_at t_behind t_size t_kind t_number t_wrong t_wrongAt t_faultKind t_faultPlace t_x t_wayLong t_bothLeast l3 l4 _ _ hc_10) _) (kV hw calX8_isStay kw_34_18 rfl rfl ⟨Nat.le_of_ble_eq_true rfl, Nat.le_of_ble_eq_true rfl⟩) (wpV (hP.sub (ws' := [oX8 t_h t_a t_thrown t_taped t_at t_behind t_size t_kind t_number t_wrong t_wrongAt t_faultKind t_faultPlace t_x t_wayLong t_bothLeast, arI G (t_a 1) 558 t_all]) [0, 1] rfl) (hD.sub (ws' := [oX8 t_h t_a t_thrown t_taped t_at t_behind t_size t_kind t_number t_wrong t_wrongAt t_faultKind t_faultPlace t_x t_wayLong t_bothLeast, arI G (t_a 1) 558 t_all]) [0, 1] (by decide) rfl) hK (ci := 8) (q0 := 0) rfl rfl) rfl rfl hl.1 rfl (lv_room (Nat.le_of_ble_eq_true rfl)) dX8_stay_39 ⟨Nat.zero_le _, Nat.zero_le _⟩) hS hA hP hD [0, 1] rfl rfl (fun H locs hP hD hS => ?_)
        have hP : va_P G.1 vwCl [oX8 t_h t_a t_thrown t_taped t_at t_behind t_size t_kind t_number t_wrong t_wrongAt t_faultKind t_faultPlace t_x t_wayLong t_bothLeast, arI G (t_a 1) 558 t_all_8] H := hP
        have hD : va_D A [oX8 t_h t_a t_thrown t_taped t_at t_behind t_size t_kind t_number t_wrong t_wrongAt t_faultKind t_faultPlace t_x t_wayLong t_bothLeast, arI G (t_a 1) 558 t_all_8] := hD
        refine lv_if_ne (tgt := 48) hx hb dX8_stay_42 (by decide) (fun c_11 => ?_) (fun c_11 => ?_)
        · have hf := iq c_11 hf
          refine lv_iload_n hx hb dX8_stay_48 rfl (lv_at hl 2 rfl) ?_
          refine lv_iload_n hx hb dX8_stay_49 rfl (lv_at hl 1 rfl) ?_
          refine lv_icmp_ne (tgt := 61) hx hb dX8_stay_50 (by decide) (fun c_12 => ?_) (fun c_12 => ?_)
          · have hf := iq c_12 hf
            refine lv_iinc (v := (l2 + 1)) (lv' := [(2, .int (l2 + 1)), (0, .ref t_h), (1, .int v1), (3, .int l3), (4, .int l4)]) hx hb dX8_stay_61 hl (k := 2) rfl (by rfl) (by decide) rfl (fun ls hl => ?_)
            refine lv_iinc (v := (l4 + 1)) (lv' := [(4, .int (l4 + 1)), (2, .int (l2 + 1)), (0, .ref t_h), (1, .int v1), (3, .int l3)]) hx hb dX8_stay_64 hl (k := 4) rfl (by rfl) (by decide) rfl (fun ls hl => ?_)
            refine lv_goto (tgt := 24) hx hb dX8_stay_67 (by decide) ?_
            exact ih _ _ _ _ _ _ hP hD hS (lv_sub hl [2, 3, 1, 4, 0] rfl) hf hX
          · have hf := ip c_12 hf
            refine lv_bipush (v := 20) hx hb dX8_stay_53 (by decide) ?_
            refine lv_iload_n hx hb dX8_stay_55 rfl (lv_at hl 3 rfl) ?_
            refine lv_imul hx hb dX8_stay_56 ?_
            refine lv_iload hx hb dX8_stay_57 (lv_at hl 4 rfl) ?_
            refine lv_iadd hx hb dX8_stay_59 ?_
            exact hRet _ _ _ _ _ _ _ hf hP hS dX8_stay_60
        · have hf := ip c_11 hf
          refine lv_goto (tgt := 64) hx hb dX8_stay_45 (by decide) ?_
          refine lv_iinc (v := (l4 + 1)) (lv' := [(4, .int (l4 + 1)), (0, .ref t_h), (1, .int v1), (2, .int l2), (3, .int l3)]) hx hb dX8_stay_64 hl (k := 4) rfl (by rfl) (by decide) rfl (fun ls hl => ?_)
          refine lv_goto (tgt := 24) hx hb dX8_stay_67 (by decide) ?_
          exact ih _ _ _ _ _ _ hP hD hS (lv_sub hl [1, 2, 3, 4, 0] rfl) hf hX
  have L9 : ∀ (t_thrown : Int32) (K : Int32 → (Nat → Int32) → Option (Int32 × Int32 × (Nat → Int32))) (n : Nat) (l2 : Int32) (l3 : Int32) (t_all : Nat → Int32) (H : Heap) (locs : List Loc) (ls : Array Slot), va_P G.1 vwCl [oX8 t_h t_a t_thrown t_taped t_at t_behind t_size t_kind t_number t_wrong t_wrongAt t_faultKind t_faultPlace t_x t_wayLong t_bothLeast, arI G (t_a 1) 558 t_all] H → va_D A [oX8 t_h t_a t_thrown t_taped t_at t_behind t_size t_kind t_number t_wrong t_wrongAt t_faultKind t_faultPlace t_x t_wayLong t_bothLeast, arI G (t_a 1) 558 t_all] → va_S A s.heap H locs → lv_has ls 5 [(0, .ref t_h), (1, .int v1), (2, .int l2), (3, .int l3)] → fX8_stay_9 v1 t_thrown K n l2 l3 t_all = some (r, o_t_thrown, o_t_all) → (∀ (k2 : Int32) (kt_all : Nat → Int32) (H : Heap) (locs : List Loc) (ls : Array Slot), va_P G.1 vwCl [oX8 t_h t_a t_thrown t_taped t_at t_behind t_size t_kind t_number t_wrong t_wrongAt t_faultKind t_faultPlace t_x t_wayLong t_bothLeast, arI G (t_a 1) 558 kt_all] H → va_D A [oX8 t_h t_a t_thrown t_taped t_at t_behind t_size t_kind t_number t_wrong t_wrongAt t_faultKind t_faultPlace t_x t_wayLong t_bothLeast, arI G (t_a 1) 558 kt_all] → va_S A s.heap H locs → lv_has ls 5 [(1, .int v1), (2, .int k2)] → K k2 kt_all = some (r, o_t_thrown, o_t_all) → W p l e ({ frames := 7, cells := 0, slots := 0, locals := 165 } : Room) s m args below meth c H locs 0 0 Q (F0 m 76 ls [])) → W p l e ({ frames := 7, cells := 0, slots := 0, locals := 165 } : Room) s m args below meth c H locs 0 0 Q (F0 m 9 ls []) := by
    intro t_thrown K n
    induction n with
    | zero => intro l2 l3 t_all H locs ls hP hD hS hl hf; rw [fX8_stay_9] at hf; cases hf
    | succ n ih =>
      intro l2 l3 t_all H locs ls hP hD hS hl hf hX
      rw [fX8_stay_9] at hf
      refine lv_iload_n hx hb dX8_stay_9 rfl (lv_at hl 3 rfl) ?_
      refine lv_aload_n hx hb dX8_stay_10 rfl (lv_at hl 0 rfl) ?_
      refine va_get (D := G.1) (ci := 8) (v := .ref (t_a 1)) (C := RX8) (T := TX8) (N := 33) hx hb hw inW8 hown hK.1 hP 0 rfl rfl 1 (by decide) (hw _ kw_5_11) (fun _ h9 => h9) rfl dX8_stay_11 ?_
      refine lv_iconst (v := 0) hx hb dX8_stay_14 (by decide) ?_
      obtain ⟨hi_2, hf⟩ := rdI_in hf
      refine va_iald hx hb hK.1 hP 1 0 rfl rfl hi_2 dX8_stay_15 ?_
      refine lv_topi (fun x_1 ex_1 => ?_)
      have hf := hf x_1 ex_1
      refine lv_icmp_ge (tgt := 76) hx hb dX8_stay_16 (by decide) (fun c_3 => ?_) (fun c_3 => ?_)
      · have hf := ip c_3 hf
        exact hX _ _ _ _ _ hP hD hS (lv_sub hl [1, 2] rfl) hf
      · have hf := iq c_3 hf
        refine lv_iload_n hx hb dX8_stay_19 rfl (lv_at hl 3 rfl) ?_
        refine lv_iconst (v := 1) hx hb dX8_stay_20 (by decide) ?_
        refine lv_iadd hx hb dX8_stay_21 ?_
        refine lv_topi (fun y_4 ey_4 => ?_)
        have hf := bnd_all hf y_4 ey_4
        refine lv_istore (lv' := [(4, .int y_4), (0, .ref t_h), (1, .int v1), (2, .int l2), (3, .int l3)]) hx hb dX8_stay_22 hl (by decide) rfl (fun ls hl => ?_)
        refine L24 _ _ _ _ _ _ _ _ _ _ hP hD hS (lv_sub hl [1, 2, 3, 4, 0] rfl) hf (fun w_13 t_all_14 H locs ls hP hD hS hl hf => ?_)
        refine lv_iinc (v := (l3 + 1)) (lv' := [(3, .int (l3 + 1)), (0, .ref t_h), (1, .int v1), (2, .int w_13)]) hx hb dX8_stay_70 hl (k := 3) rfl (by rfl) (by decide) rfl (fun ls hl => ?_)
        refine lv_goto (tgt := 9) hx hb dX8_stay_73 (by decide) ?_
        exact ih _ _ _ _ _ _ hP hD hS (lv_sub hl [1, 2, 3, 0] rfl) hf hX
  unfold fX8_stay at hf
  refine lv_aload_n hx hb dX8_stay_0 rfl (lv_at hl 0 rfl) ?_
  refine lv_iconst (v := 0) hx hb dX8_stay_1 (by decide) ?_
  refine va_put (D := G.1) (ci := 8) (v := .int 0) (ty := .int) (C := RX8) (T := TX8) (N := 33) hx hb hw inW8 tyX8 tyX8_ok nmX8 hown hK.1 hP hD hS 0 rfl rfl 0 (by decide) (hw _ kw_6_21) (fun _ h9 => h9) rfl (by decide +kernel) rfl rfl (Nat.le_of_ble_eq_true rfl) dX8_stay_2 (fun H locs hP hD hS => ?_)
  have hP : va_P G.1 vwCl [oX8 t_h t_a 0 t_taped t_at t_behind t_size t_kind t_number t_wrong t_wrongAt t_faultKind t_faultPlace t_x t_wayLong t_bothLeast, arI G (t_a 1) 558 t_all] H := hP
  have hD : va_D A [oX8 t_h t_a 0 t_taped t_at t_behind t_size t_kind t_number t_wrong t_wrongAt t_faultKind t_faultPlace t_x t_wayLong t_bothLeast, arI G (t_a 1) 558 t_all] := hD
  refine lv_iconst (v := 0) hx hb dX8_stay_5 (by decide) ?_
  refine lv_istore_n (lv' := [(2, .int 0), (0, .ref t_h), (1, .int v1)]) hx hb dX8_stay_6 rfl hl (by decide) rfl (fun ls hl => ?_)
  refine lv_iconst (v := 0) hx hb dX8_stay_7 (by decide) ?_
  refine lv_istore_n (lv' := [(3, .int 0), (2, .int 0), (0, .ref t_h), (1, .int v1)]) hx hb dX8_stay_8 rfl hl (by decide) rfl (fun ls hl => ?_)
  refine L9 _ _ _ _ _ _ _ _ _ hP hD hS (lv_sub hl [2, 3, 1, 0] rfl) hf (fun w_15 t_all_16 H locs ls hP hD hS hl hf => ?_)
  refine lv_iload_n hx hb dX8_stay_76 rfl (lv_at hl 0 rfl) ?_
  refine lv_iconst (v := (-1)) hx hb dX8_stay_77 (by decide) ?_
  refine lv_icmp_ne (tgt := 85) hx hb dX8_stay_78 (by decide) (fun c_17 => ?_) (fun c_17 => ?_)
  · have hf := iq c_17 hf
    refine lv_iconst (v := (-1)) hx hb dX8_stay_85 (by decide) ?_
    exact hRet _ _ _ _ _ _ _ hf hP hS dX8_stay_86
  · have hf := ip c_17 hf
    refine lv_iload_n hx hb dX8_stay_81 rfl (lv_at hl 1 rfl) ?_
    refine lv_goto (tgt := 86) hx hb dX8_stay_82 (by decide) ?_
    exact hRet _ _ _ _ _ _ _ hf hP hS dX8_stay_86
theorem calX8_brace : CalV yX8_brace cX8_brace 8 (some .int) 0 := ⟨⟨kw_35_17, kw_1_5, by decide +kernel⟩, kw_35_15, kw_35_16⟩
set_option maxHeartbeats 8000000 in
set_option maxRecDepth 100000 in
theorem ctX8_brace (l : Launch) (G : GT) (t_h : Nat) (t_a : Nat → Nat) (t_thrown : Int32) (t_all : Nat → Int32) (t_taped : Int32) (t_at : Int32) (t_behind : Int32) (t_size : Int32) (t_kind : Int32) (t_number : Int32) (t_wrong : Int32) (t_wrongAt : Int32) (t_faultKind : Int32) (t_faultPlace : Int32) (t_x : Int32) (t_wayLong : Int32) (t_bothLeast : Int32) (r : Int32) (o_t_thrown : Int32) (o_t_all : Nat → Int32) (hf : fX8_brace t_thrown t_all = some (r, o_t_thrown, o_t_all)) : WrI l yX8_brace (Cond.code yX8_brace cX8_brace 8 (some .int)) { frames := 8, cells := 0, slots := 0, locals := 188 } G [.ref t_h] [oX8 t_h t_a t_thrown t_taped t_at t_behind t_size t_kind t_number t_wrong t_wrongAt t_faultKind t_faultPlace t_x t_wayLong t_bothLeast, arI G (t_a 1) 558 t_all] [oX8 t_h t_a o_t_thrown t_taped t_at t_behind t_size t_kind t_number t_wrong t_wrongAt t_faultKind t_faultPlace t_x t_wayLong t_bothLeast, arI G (t_a 1) 558 o_t_all] r := by
  intro sz
  refine Met.ofW (cc := cX8_brace) (maxL := 8) (ret := (some .int)) (by decide) rfl ?_
  intro p e s m args below meth c s₁ B hml hv
  obtain ⟨hargs, hsz, hP, hD0, hK⟩ := hv
  subst hsz
  obtain ⟨hx, hb, hr, hw, hown, hlk⟩ := fwB B
  refine fw_enter hargs (Nat.le_of_ble_eq_true rfl) (fun ls hl => ?_)
  have hl : lv_has ls 8 [(0, .ref t_h)] := hl
  refine fw_Q (P := fun Q => ∃ A : Nat → Prop, va_D A [oX8 t_h t_a t_thrown t_taped t_at t_behind t_size t_kind t_number t_wrong t_wrongAt t_faultKind t_faultPlace t_x t_wayLong t_bothLeast, arI G (t_a 1) 558 t_all] ∧ va_S A s.heap s.heap [] ∧ (∀ q, s.heap.size ≤ q → A q) ∧ ∀ (v : Int32) (n_t_thrown : Int32) (n_t_all : Nat → Int32) (H : Heap) (locs : List Loc) (pc : Nat) (ls : Array Slot), some (v, n_t_thrown, n_t_all) = some (r, o_t_thrown, o_t_all) → va_P G.1 vwCl [oX8 t_h t_a n_t_thrown t_taped t_at t_behind t_size t_kind t_number t_wrong t_wrongAt t_faultKind t_faultPlace t_x t_wayLong t_bothLeast, arI G (t_a 1) 558 n_t_all] H → va_S A s.heap H locs → decode cX8_brace pc = .ok (.ireturn, 1) → W p l e ({ frames := 8, cells := 0, slots := 0, locals := 188 } : Room) s m args below meth c H locs 0 0 Q (F0 m pc ls [.int v])) ⟨va_A [oX8 t_h t_a t_thrown t_taped t_at t_behind t_size t_kind t_number t_wrong t_wrongAt t_faultKind t_faultPlace t_x t_wayLong t_bothLeast, arI G (t_a 1) 558 t_all] s.heap.size, hD0.self (sz := s.heap.size), va_S.rf, fun q h => Or.inr h, ?_⟩ ?_
  · intro v n_t_thrown n_t_all H locs pc ls h hP hS hd
    cases h
    exact retWI hx hb hr hlk hS hP rfl hd
  rintro Q ⟨A, hD, hS, hA, hRet⟩
  change W p l e ({ frames := 8, cells := 0, slots := 0, locals := 188 } : Room) s m args below meth c _ _ 0 0 Q _
  have L31 : ∀ (l4 : Int32) (t_thrown : Int32) (K : Int32 → Int32 → Int32 → (Nat → Int32) → Option (Int32 × Int32 × (Nat → Int32))) (n : Nat) (l1 : Int32) (l2 : Int32) (l3 : Int32) (l5 : Int32) (t_all : Nat → Int32) (H : Heap) (locs : List Loc) (ls : Array Slot), va_P G.1 vwCl [oX8 t_h t_a t_thrown t_taped t_at t_behind t_size t_kind t_number t_wrong t_wrongAt t_faultKind t_faultPlace t_x t_wayLong t_bothLeast, arI G (t_a 1) 558 t_all] H → va_D A [oX8 t_h t_a t_thrown t_taped t_at t_behind t_size t_kind t_number t_wrong t_wrongAt t_faultKind t_faultPlace t_x t_wayLong t_bothLeast, arI G (t_a 1) 558 t_all] → va_S A s.heap H locs → lv_has ls 8 [(0, .ref t_h), (1, .int l1), (2, .int l2), (3, .int l3), (4, .int l4), (5, .int l5)] → fX8_brace_31 l4 K n l1 l2 l3 l5 t_all = some (r, o_t_thrown, o_t_all) → (∀ (k1 : Int32) (k2 : Int32) (k3 : Int32) (kt_all : Nat → Int32) (H : Heap) (locs : List Loc) (ls : Array Slot), va_P G.1 vwCl [oX8 t_h t_a t_thrown t_taped t_at t_behind t_size t_kind t_number t_wrong t_wrongAt t_faultKind t_faultPlace t_x t_wayLong t_bothLeast, arI G (t_a 1) 558 kt_all] H → va_D A [oX8 t_h t_a t_thrown t_taped t_at t_behind t_size t_kind t_number t_wrong t_wrongAt t_faultKind t_faultPlace t_x t_wayLong t_bothLeast, arI G (t_a 1) 558 kt_all] → va_S A s.heap H locs → lv_has ls 8 [(0, .ref t_h), (1, .int k1), (2, .int k2), (3, .int k3), (4, .int l4)] → K k1 k2 k3 kt_all = some (r, o_t_thrown, o_t_all) → W p l e ({ frames := 8, cells := 0, slots := 0, locals := 188 } : Room) s m args below meth c H locs 0 0 Q (F0 m 157 ls [])) → W p l e ({ frames := 8, cells := 0, slots := 0, locals := 188 } : Room) s m args below meth c H locs 0 0 Q (F0 m 31 ls []) := by
    intro l4 t_thrown K n
    induction n with
    | zero => intro l1 l2 l3 l5 t_all H locs ls hP hD hS hl hf; rw [fX8_brace_31] at hf; cases hf
    | succ n ih =>
      intro l1 l2 l3 l5 t_all H locs ls hP hD hS hl hf hX
      rw [fX8_brace_31] at hf
      refine lv_iload hx hb dX8_brace_31 (lv_at hl 5 rfl) ?_
      refine lv_aload_n hx hb dX8_brace_33 rfl (lv_at hl 0 rfl) ?_
      refine va_get (D := G.1) (ci := 8) (v := .ref (t_a 1)) (C := RX8) (T := TX8) (N := 33) hx hb hw inW8 hown hK.1 hP 0 rfl rfl 1 (by decide) (hw _ kw_5_11) (fun _ h9 => h9) rfl dX8_brace_34 ?_
      refine lv_iconst (v := 0) hx hb dX8_brace_37 (by decide) ?_
      obtain ⟨hi_6, hf⟩ := rdI_in hf
      refine va_iald hx hb hK.1 hP 1 0 rfl rfl hi_6 dX8_brace_38 ?_
      refine lv_topi (fun x_5 ex_5 => ?_)
      have hf := hf x_5 ex_5
      refine lv_icmp_ge (tgt := 157) hx hb dX8_brace_39 (by decide) (fun c_7 => ?_) (fun c_7 => ?_)
      · have hf := ip c_7 hf
        exact hX _ _ _ _ _ _ _ hP hD hS (lv_sub hl [0, 1, 2, 3, 4] rfl) hf
      · have hf := iq c_7 hf
        refine lv_aload_n hx hb dX8_brace_42 rfl (lv_at hl 0 rfl) ?_
        refine va_get (D := G.1) (ci := 8) (v := .ref (t_a 1)) (C := RX8) (T := TX8) (N := 33) hx hb hw inW8 hown hK.1 hP 0 rfl rfl 1 (by decide) (hw _ kw_5_11) (fun _ h9 => h9) rfl dX8_brace_43 ?_
        refine lv_iload hx hb dX8_brace_46 (lv_at hl 4 rfl) ?_
        refine lv_iload hx hb dX8_brace_48 (lv_at hl 5 rfl) ?_
        obtain ⟨r_8, hc_9, hf⟩ := bd1_in hf
        refine rcI (va_runS (As := [.ref (t_a 1), .int l4, .int l5]) (rest := []) ⟨hx, hb, hml, hown, hw⟩ ((ctX8_refusesIn l G 558 (t_a 1) t_all l4 l5 _ hc_9) _) (kS hw calX8_refusesIn kw_16_22 rfl rfl ⟨Nat.le_of_ble_eq_true rfl, Nat.le_of_ble_eq_true rfl⟩) (rpS (hP.sub (ws' := [arI G (t_a 1) 558 t_all]) [1] rfl) hK) rfl rfl hl.1 rfl (lv_room (Nat.le_of_ble_eq_true rfl)) dX8_brace_50 ⟨Nat.zero_le _, Nat.zero_le _⟩) hS hA hP (fun H locs hP hS => ?_)
        refine lv_if_ne (tgt := 151) hx hb dX8_brace_53 (by decide) (fun c_10 => ?_) (fun c_10 => ?_)
        · have hf := iq c_10 hf
          refine lv_iinc (v := (l5 + 1)) (lv' := [(5, .int (l5 + 1)), (0, .ref t_h), (1, .int l1), (2, .int l2), (3, .int l3), (4, .int l4)]) hx hb dX8_brace_151 hl (k := 5) rfl (by rfl) (by decide) rfl (fun ls hl => ?_)
          refine lv_goto (tgt := 31) hx hb dX8_brace_154 (by decide) ?_
          exact ih _ _ _ _ _ _ _ _ hP hD hS (lv_sub hl [1, 2, 3, 4, 5, 0] rfl) hf hX
        · have hf := ip c_10 hf
          refine lv_aload_n hx hb dX8_brace_56 rfl (lv_at hl 0 rfl) ?_
          refine lv_iload hx hb dX8_brace_57 (lv_at hl 4 rfl) ?_
          refine lv_iload hx hb dX8_brace_59 (lv_at hl 5 rfl) ?_
          obtain ⟨r_11, hc_12, hf⟩ := bd1_in hf
          refine rcI (va_runV (As := [.int l4, .int l5]) (rest := []) ⟨hx, hb, hml, hown, hw⟩ ((ctX8_isSlack l G t_h t_a t_thrown t_all t_taped t_at t_behind t_size t_kind t_number t_wrong t_wrongAt t_faultKind t_faultPlace t_x t_wayLong t_bothLeast l4 l5 _ hc_12) _) (kV hw calX8_isSlack kw_22_19 rfl rfl ⟨Nat.le_of_ble_eq_true rfl, Nat.le_of_ble_eq_true rfl⟩) (rpV (hP.sub (ws' := [oX8 t_h t_a t_thrown t_taped t_at t_behind t_size t_kind t_number t_wrong t_wrongAt t_faultKind t_faultPlace t_x t_wayLong t_bothLeast, arI G (t_a 1) 558 t_all]) [0, 1] rfl) hK (ci := 8) (q0 := 0) rfl rfl) rfl rfl hl.1 rfl (lv_room (Nat.le_of_ble_eq_true rfl)) dX8_brace_61 ⟨Nat.zero_le _, Nat.zero_le _⟩) hS hA hP (fun H locs hP hS => ?_)
          refine lv_if_eq (tgt := 70) hx hb dX8_brace_64 (by decide) (fun c_13 => ?_) (fun c_13 => ?_)
          · have hf := ip c_13 hf
            refine lv_aload_n hx hb dX8_brace_70 rfl (lv_at hl 0 rfl) ?_
            refine va_get (D := G.1) (ci := 8) (v := .ref (t_a 1)) (C := RX8) (T := TX8) (N := 33) hx hb hw inW8 hown hK.1 hP 0 rfl rfl 1 (by decide) (hw _ kw_5_11) (fun _ h9 => h9) rfl dX8_brace_71 ?_
            refine lv_iload hx hb dX8_brace_74 (lv_at hl 4 rfl) ?_
            refine lv_iload hx hb dX8_brace_76 (lv_at hl 5 rfl) ?_
            refine lv_iconst (v := 1) hx hb dX8_brace_78 (by decide) ?_
            obtain ⟨t_all_14, hc_15, hf⟩ := bd1_in hf
            refine wcV (w1 := [arI G (t_a 1) 558 t_all_14]) (va_runS (As := [.ref (t_a 1), .int l4, .int l5, .int 1]) (rest := []) ⟨hx, hb, hml, hown, hw⟩ ((ctX8_sets l G 558 (t_a 1) t_all l4 l5 1 _ hc_15) _) (kS hw calX8_sets kw_17_10 rfl rfl ⟨Nat.le_of_ble_eq_true rfl, Nat.le_of_ble_eq_true rfl⟩) (wpS (hP.sub (ws' := [arI G (t_a 1) 558 t_all]) [1] rfl) (hD.sub (ws' := [arI G (t_a 1) 558 t_all]) [1] (by decide) rfl) hK) rfl rfl hl.1 rfl (lv_room (Nat.le_of_ble_eq_true rfl)) dX8_brace_79 ⟨Nat.zero_le _, Nat.zero_le _⟩) hS hA hP hD [1] rfl rfl (fun H locs hP hD hS => ?_)
            have hP : va_P G.1 vwCl [oX8 t_h t_a t_thrown t_taped t_at t_behind t_size t_kind t_number t_wrong t_wrongAt t_faultKind t_faultPlace t_x t_wayLong t_bothLeast, arI G (t_a 1) 558 t_all_14] H := hP
            have hD : va_D A [oX8 t_h t_a t_thrown t_taped t_at t_behind t_size t_kind t_number t_wrong t_wrongAt t_faultKind t_faultPlace t_x t_wayLong t_bothLeast, arI G (t_a 1) 558 t_all_14] := hD
            refine lv_aload_n hx hb dX8_brace_82 rfl (lv_at hl 0 rfl) ?_
            obtain ⟨r_17, t_all_16, hc_18, hf⟩ := bd2_in hf
            refine wcI (w1 := [oX8 t_h t_a t_thrown t_taped t_at t_behind t_size t_kind t_number t_wrong t_wrongAt t_faultKind t_faultPlace t_x t_wayLong t_bothLeast, arI G (t_a 1) 558 t_all_16]) (va_runV (As := []) (rest := []) ⟨hx, hb, hml, hown, hw⟩ ((ctX8_stays l G t_h t_a t_thrown t_all_14 t_taped t_at t_behind t_size t_kind t_number t_wrong t_wrongAt t_faultKind t_faultPlace t_x t_wayLong t_bothLeast _ _ hc_18) _) (kV hw calX8_stays kw_35_18 rfl rfl ⟨Nat.le_of_ble_eq_true rfl, Nat.le_of_ble_eq_true rfl⟩) (wpV (hP.sub (ws' := [oX8 t_h t_a t_thrown t_taped t_at t_behind t_size t_kind t_number t_wrong t_wrongAt t_faultKind t_faultPlace t_x t_wayLong t_bothLeast, arI G (t_a 1) 558 t_all_14]) [0, 1] rfl) (hD.sub (ws' := [oX8 t_h t_a t_thrown t_taped t_at t_behind t_size t_kind t_number t_wrong t_wrongAt t_faultKind t_faultPlace t_x t_wayLong t_bothLeast, arI G (t_a 1) 558 t_all_14]) [0, 1] (by decide) rfl) hK (ci := 8) (q0 := 0) rfl rfl) rfl rfl hl.1 rfl (lv_room (Nat.le_of_ble_eq_true rfl)) dX8_brace_83 ⟨Nat.zero_le _, Nat.zero_le _⟩) hS hA hP hD [0, 1] rfl rfl (fun H locs hP hD hS => ?_)
            have hP : va_P G.1 vwCl [oX8 t_h t_a t_thrown t_taped t_at t_behind t_size t_kind t_number t_wrong t_wrongAt t_faultKind t_faultPlace t_x t_wayLong t_bothLeast, arI G (t_a 1) 558 t_all_16] H := hP
            have hD : va_D A [oX8 t_h t_a t_thrown t_taped t_at t_behind t_size t_kind t_number t_wrong t_wrongAt t_faultKind t_faultPlace t_x t_wayLong t_bothLeast, arI G (t_a 1) 558 t_all_16] := hD
            refine lv_istore (lv' := [(6, .int r_17), (0, .ref t_h), (1, .int l1), (2, .int l2), (3, .int l3), (4, .int l4), (5, .int l5)]) hx hb dX8_brace_86 hl (by decide) rfl (fun ls hl => ?_)
            refine lv_aload_n hx hb dX8_brace_88 rfl (lv_at hl 1 rfl) ?_
            refine va_get (D := G.1) (ci := 8) (v := .ref (t_a 1)) (C := RX8) (T := TX8) (N := 33) hx hb hw inW8 hown hK.1 hP 0 rfl rfl 1 (by decide) (hw _ kw_5_11) (fun _ h9 => h9) rfl dX8_brace_89 ?_
            refine lv_iload hx hb dX8_brace_92 (lv_at hl 5 rfl) ?_
            refine lv_iload hx hb dX8_brace_94 (lv_at hl 6 rfl) ?_
            refine lv_iconst (v := 0) hx hb dX8_brace_96 (by decide) ?_
            obtain ⟨t_all_19, hc_20, hf⟩ := bd1_in hf
            refine wcV (w1 := [arI G (t_a 1) 558 t_all_19]) (va_runS (As := [.ref (t_a 1), .int l4, .int l5, .int 0]) (rest := []) ⟨hx, hb, hml, hown, hw⟩ ((ctX8_sets l G 558 (t_a 1) t_all_16 l4 l5 0 _ hc_20) _) (kS hw calX8_sets kw_17_10 rfl rfl ⟨Nat.le_of_ble_eq_true rfl, Nat.le_of_ble_eq_true rfl⟩) (wpS (hP.sub (ws' := [arI G (t_a 1) 558 t_all_16]) [1] rfl) (hD.sub (ws' := [arI G (t_a 1) 558 t_all_16]) [1] (by decide) rfl) hK) rfl rfl hl.1 rfl (lv_room (Nat.le_of_ble_eq_true rfl)) dX8_brace_97 ⟨Nat.zero_le _, Nat.zero_le _⟩) hS hA hP hD [1] rfl rfl (fun H locs hP hD hS => ?_)
            have hP : va_P G.1 vwCl [oX8 t_h t_a t_thrown t_taped t_at t_behind t_size t_kind t_number t_wrong t_wrongAt t_faultKind t_faultPlace t_x t_wayLong t_bothLeast, arI G (t_a 1) 558 t_all_19] H := hP
            have hD : va_D A [oX8 t_h t_a t_thrown t_taped t_at t_behind t_size t_kind t_number t_wrong t_wrongAt t_faultKind t_faultPlace t_x t_wayLong t_bothLeast, arI G (t_a 1) 558 t_all_19] := hD
            refine lv_aload_n hx hb dX8_brace_100 rfl (lv_at hl 1 rfl) ?_
            refine lv_iload hx hb dX8_brace_101 (lv_at hl 5 rfl) ?_
            refine lv_iload hx hb dX8_brace_103 (lv_at hl 6 rfl) ?_
            obtain ⟨r_21, hc_22, hf⟩ := bd1_in hf
            refine rcI (va_runV (As := [.int l4, .int l5]) (rest := []) ⟨hx, hb, hml, hown, hw⟩ ((ctX8_lengthOf l G t_h t_a t_thrown t_all_19 t_taped t_at t_behind t_size t_kind t_number t_wrong t_wrongAt t_faultKind t_faultPlace t_x t_wayLong t_bothLeast l4 l5 _ hc_22) _) (kV hw calX8_lengthOf kw_22_7 rfl rfl ⟨Nat.le_of_ble_eq_true rfl, Nat.le_of_ble_eq_true rfl⟩) (rpV (hP.sub (ws' := [oX8 t_h t_a t_thrown t_taped t_at t_behind t_size t_kind t_number t_wrong t_wrongAt t_faultKind t_faultPlace t_x t_wayLong t_bothLeast, arI G (t_a 1) 558 t_all_19]) [0, 1] rfl) hK (ci := 8) (q0 := 0) rfl rfl) rfl rfl hl.1 rfl (lv_room (Nat.le_of_ble_eq_true rfl)) dX8_brace_105 ⟨Nat.zero_le _, Nat.zero_le _⟩) hS hA hP (fun H locs hP hS => ?_)
            refine lv_istore (lv' := [(7, .int r_21), (6, .int r_17), (0, .ref t_h), (1, .int l1), (2, .int l2), (3, .int l3), (4, .int l4), (5, .int l5)]) hx hb dX8_brace_108 hl (by decide) rfl (fun ls hl => ?_)
            refine lv_iload_n hx hb dX8_brace_110 rfl (lv_at hl 3 rfl) ?_
            refine lv_iconst (v := (-1)) hx hb dX8_brace_111 (by decide) ?_
            refine jn_el hf (fun k_23 ek_23 hf => ?_)
            have J136 : ∀  (H : Heap) (locs : List Loc) (ls : Array Slot), va_P G.1 vwCl [oX8 t_h t_a t_thrown t_taped t_at t_behind t_size t_kind t_number t_wrong t_wrongAt t_faultKind t_faultPlace t_x t_wayLong t_bothLeast, arI G (t_a 1) 558 t_all_19] H → va_D A [oX8 t_h t_a t_thrown t_taped t_at t_behind t_size t_kind t_number t_wrong t_wrongAt t_faultKind t_faultPlace t_x t_wayLong t_bothLeast, arI G (t_a 1) 558 t_all_19] → va_S A s.heap H locs → lv_has ls 8 [(0, .ref t_h), (4, .int l4), (5, .int l5), (6, .int r_17), (7, .int r_21)] → k_23 = some (r, o_t_thrown, o_t_all) → W p l e ({ frames := 8, cells := 0, slots := 0, locals := 188 } : Room) s m args below meth c H locs 0 0 Q (F0 m 136 ls []) := by
              intro  H locs ls hP hD hS hl hf
              rw [ek_23] at hf
              refine lv_bipush (v := 20) hx hb dX8_brace_136 (by decide) ?_
              refine lv_iload hx hb dX8_brace_138 (lv_at hl 1 rfl) ?_
              refine lv_imul hx hb dX8_brace_140 ?_
              refine lv_iload hx hb dX8_brace_141 (lv_at hl 2 rfl) ?_
              refine lv_iadd hx hb dX8_brace_143 ?_
              refine lv_topi (fun y_24 ey_24 => ?_)
              have hf := bnd_all hf y_24 ey_24
              refine lv_istore_n (lv' := [(1, .int y_24), (0, .ref t_h), (4, .int l4), (5, .int l5), (6, .int r_17), (7, .int r_21)]) hx hb dX8_brace_144 rfl hl (by decide) rfl (fun ls hl => ?_)
              refine lv_iload hx hb dX8_brace_145 (lv_at hl 4 rfl) ?_
              refine lv_istore_n (lv' := [(2, .int r_17), (1, .int y_24), (0, .ref t_h), (4, .int l4), (5, .int l5), (6, .int r_17), (7, .int r_21)]) hx hb dX8_brace_147 rfl hl (by decide) rfl (fun ls hl => ?_)
              refine lv_iload hx hb dX8_brace_148 (lv_at hl 6 rfl) ?_
              refine lv_istore_n (lv' := [(3, .int r_21), (2, .int r_17), (1, .int y_24), (0, .ref t_h), (4, .int l4), (5, .int l5), (6, .int r_17), (7, .int r_21)]) hx hb dX8_brace_150 rfl hl (by decide) rfl (fun ls hl => ?_)
              refine lv_iinc (v := (l5 + 1)) (lv' := [(5, .int (l5 + 1)), (3, .int r_21), (2, .int r_17), (1, .int y_24), (0, .ref t_h), (4, .int l4), (6, .int r_17), (7, .int r_21)]) hx hb dX8_brace_151 hl (k := 5) rfl (by rfl) (by decide) rfl (fun ls hl => ?_)
              refine lv_goto (tgt := 31) hx hb dX8_brace_154 (by decide) ?_
              exact ih _ _ _ _ _ _ _ _ hP hD hS (lv_sub hl [4, 3, 2, 1, 5, 0] rfl) hf hX
            refine lv_icmp_eq (tgt := 136) hx hb dX8_brace_112 (by decide) (fun c_25 => ?_) (fun c_25 => ?_)
            · have hf := ip c_25 hf
              exact J136  _ _ _ hP hD hS (lv_sub hl [2, 6, 7, 1, 0] rfl) hf
            · have hf := iq c_25 hf
              refine lv_iload hx hb dX8_brace_115 (lv_at hl 1 rfl) ?_
              refine lv_iload_n hx hb dX8_brace_117 rfl (lv_at hl 4 rfl) ?_
              refine lv_icmp_gt (tgt := 151) hx hb dX8_brace_118 (by decide) (fun c_26 => ?_) (fun c_26 => ?_)
              · have hf := ip c_26 hf
                refine lv_iinc (v := (l5 + 1)) (lv' := [(5, .int (l5 + 1)), (7, .int r_21), (6, .int r_17), (0, .ref t_h), (1, .int l1), (2, .int l2), (3, .int l3), (4, .int l4)]) hx hb dX8_brace_151 hl (k := 7) rfl (by rfl) (by decide) rfl (fun ls hl => ?_)
                refine lv_goto (tgt := 31) hx hb dX8_brace_154 (by decide) ?_
                exact ih _ _ _ _ _ _ _ _ hP hD hS (lv_sub hl [3, 4, 5, 6, 7, 0] rfl) hf hX
              · have hf := iq c_26 hf
                refine lv_iload hx hb dX8_brace_121 (lv_at hl 1 rfl) ?_
                refine lv_iload_n hx hb dX8_brace_123 rfl (lv_at hl 4 rfl) ?_
                refine lv_icmp_ne (tgt := 136) hx hb dX8_brace_124 (by decide) (fun c_27 => ?_) (fun c_27 => ?_)
                · have hf := iq c_27 hf
                  exact J136  _ _ _ hP hD hS (lv_sub hl [2, 6, 7, 1, 0] rfl) hf
                · have hf := ip c_27 hf
                  refine lv_iload hx hb dX8_brace_127 (lv_at hl 0 rfl) ?_
                  refine lv_iload_n hx hb dX8_brace_129 rfl (lv_at hl 5 rfl) ?_
                  refine lv_icmp_lt (tgt := 136) hx hb dX8_brace_130 (by decide) (fun c_28 => ?_) (fun c_28 => ?_)
                  · have hf := ip c_28 hf
                    exact J136  _ _ _ hP hD hS (lv_sub hl [2, 6, 7, 1, 0] rfl) hf
                  · have hf := iq c_28 hf
                    refine lv_goto (tgt := 151) hx hb dX8_brace_133 (by decide) ?_
                    refine lv_iinc (v := (l5 + 1)) (lv' := [(5, .int (l5 + 1)), (7, .int r_21), (6, .int r_17), (0, .ref t_h), (1, .int l1), (2, .int l2), (3, .int l3), (4, .int l4)]) hx hb dX8_brace_151 hl (k := 7) rfl (by rfl) (by decide) rfl (fun ls hl => ?_)
                    refine lv_goto (tgt := 31) hx hb dX8_brace_154 (by decide) ?_
                    exact ih _ _ _ _ _ _ _ _ hP hD hS (lv_sub hl [3, 4, 5, 6, 7, 0] rfl) hf hX
          · have hf := iq c_13 hf
            refine lv_goto (tgt := 151) hx hb dX8_brace_67 (by decide) ?_
            refine lv_iinc (v := (l5 + 1)) (lv' := [(5, .int (l5 + 1)), (0, .ref t_h), (1, .int l1), (2, .int l2), (3, .int l3), (4, .int l4)]) hx hb dX8_brace_151 hl (k := 5) rfl (by rfl) (by decide) rfl (fun ls hl => ?_)
            refine lv_goto (tgt := 31) hx hb dX8_brace_154 (by decide) ?_
            exact ih _ _ _ _ _ _ _ _ hP hD hS (lv_sub hl [1, 2, 3, 4, 5, 0] rfl) hf hX
  have L14 : ∀ (t_thrown : Int32) (K : Int32 → (Nat → Int32) → Option (Int32 × Int32 × (Nat → Int32))) (n : Nat) (l1 : Int32) (l2 : Int32) (l3 : Int32) (l4 : Int32) (t_all : Nat → Int32) (H : Heap) (locs : List Loc) (ls : Array Slot), va_P G.1 vwCl [oX8 t_h t_a t_thrown t_taped t_at t_behind t_size t_kind t_number t_wrong t_wrongAt t_faultKind t_faultPlace t_x t_wayLong t_bothLeast, arI G (t_a 1) 558 t_all] H → va_D A [oX8 t_h t_a t_thrown t_taped t_at t_behind t_size t_kind t_number t_wrong t_wrongAt t_faultKind t_faultPlace t_x t_wayLong t_bothLeast, arI G (t_a 1) 558 t_all] → va_S A s.heap H locs → lv_has ls 8 [(0, .ref t_h), (1, .int l1), (2, .int l2), (3, .int l3), (4, .int l4)] → fX8_brace_14  K n l1 l2 l3 l4 t_all = some (r, o_t_thrown, o_t_all) → (∀ (k1 : Int32) (kt_all : Nat → Int32) (H : Heap) (locs : List Loc) (ls : Array Slot), va_P G.1 vwCl [oX8 t_h t_a t_thrown t_taped t_at t_behind t_size t_kind t_number t_wrong t_wrongAt t_faultKind t_faultPlace t_x t_wayLong t_bothLeast, arI G (t_a 1) 558 kt_all] H → va_D A [oX8 t_h t_a t_thrown t_taped t_at t_behind t_size t_kind t_number t_wrong t_wrongAt t_faultKind t_faultPlace t_x t_wayLong t_bothLeast, arI G (t_a 1) 558 kt_all] → va_S A s.heap H locs → lv_has ls 8 [(1, .int k1)] → K k1 kt_all = some (r, o_t_thrown, o_t_all) → W p l e ({ frames := 8, cells := 0, slots := 0, locals := 188 } : Room) s m args below meth c H locs 0 0 Q (F0 m 163 ls [])) → W p l e ({ frames := 8, cells := 0, slots := 0, locals := 188 } : Room) s m args below meth c H locs 0 0 Q (F0 m 14 ls []) := by
    intro t_thrown K n
    induction n with
    | zero => intro l1 l2 l3 l4 t_all H locs ls hP hD hS hl hf; rw [fX8_brace_14] at hf; cases hf
    | succ n ih =>
      intro l1 l2 l3 l4 t_all H locs ls hP hD hS hl hf hX
      rw [fX8_brace_14] at hf
      refine lv_iload hx hb dX8_brace_14 (lv_at hl 4 rfl) ?_
      refine lv_aload_n hx hb dX8_brace_16 rfl (lv_at hl 0 rfl) ?_
      refine va_get (D := G.1) (ci := 8) (v := .ref (t_a 1)) (C := RX8) (T := TX8) (N := 33) hx hb hw inW8 hown hK.1 hP 0 rfl rfl 1 (by decide) (hw _ kw_5_11) (fun _ h9 => h9) rfl dX8_brace_17 ?_
      refine lv_iconst (v := 0) hx hb dX8_brace_20 (by decide) ?_
      obtain ⟨hi_2, hf⟩ := rdI_in hf
      refine va_iald hx hb hK.1 hP 1 0 rfl rfl hi_2 dX8_brace_21 ?_
      refine lv_topi (fun x_1 ex_1 => ?_)
      have hf := hf x_1 ex_1
      refine lv_icmp_ge (tgt := 163) hx hb dX8_brace_22 (by decide) (fun c_3 => ?_) (fun c_3 => ?_)
      · have hf := ip c_3 hf
        exact hX _ _ _ _ _ hP hD hS (lv_sub hl [1] rfl) hf
      · have hf := iq c_3 hf
        refine lv_iload hx hb dX8_brace_25 (lv_at hl 4 rfl) ?_
        refine lv_iconst (v := 1) hx hb dX8_brace_27 (by decide) ?_
        refine lv_iadd hx hb dX8_brace_28 ?_
        refine lv_topi (fun y_4 ey_4 => ?_)
        have hf := bnd_all hf y_4 ey_4
        refine lv_istore (lv' := [(5, .int y_4), (0, .ref t_h), (1, .int l1), (2, .int l2), (3, .int l3), (4, .int l4)]) hx hb dX8_brace_29 hl (by decide) rfl (fun ls hl => ?_)
        refine L31 _ _ _ _ _ _ _ _ _ _ _ _ hP hD hS (lv_sub hl [1, 2, 3, 4, 5, 0] rfl) hf (fun w_29 w_30 w_31 t_all_32 H locs ls hP hD hS hl hf => ?_)
        refine lv_iinc (v := (l4 + 1)) (lv' := [(4, .int (l4 + 1)), (0, .ref t_h), (1, .int w_29), (2, .int w_30), (3, .int w_31)]) hx hb dX8_brace_157 hl (k := 4) rfl (by rfl) (by decide) rfl (fun ls hl => ?_)
        refine lv_goto (tgt := 14) hx hb dX8_brace_160 (by decide) ?_
        exact ih _ _ _ _ _ _ _ _ hP hD hS (lv_sub hl [1, 2, 3, 4, 0] rfl) hf hX
  unfold fX8_brace at hf
  refine lv_aload_n hx hb dX8_brace_0 rfl (lv_at hl 0 rfl) ?_
  refine lv_iconst (v := 0) hx hb dX8_brace_1 (by decide) ?_
  refine va_put (D := G.1) (ci := 8) (v := .int 0) (ty := .int) (C := RX8) (T := TX8) (N := 33) hx hb hw inW8 tyX8 tyX8_ok nmX8 hown hK.1 hP hD hS 0 rfl rfl 0 (by decide) (hw _ kw_6_21) (fun _ h9 => h9) rfl (by decide +kernel) rfl rfl (Nat.le_of_ble_eq_true rfl) dX8_brace_2 (fun H locs hP hD hS => ?_)
  have hP : va_P G.1 vwCl [oX8 t_h t_a 0 t_taped t_at t_behind t_size t_kind t_number t_wrong t_wrongAt t_faultKind t_faultPlace t_x t_wayLong t_bothLeast, arI G (t_a 1) 558 t_all] H := hP
  have hD : va_D A [oX8 t_h t_a 0 t_taped t_at t_behind t_size t_kind t_number t_wrong t_wrongAt t_faultKind t_faultPlace t_x t_wayLong t_bothLeast, arI G (t_a 1) 558 t_all] := hD
  refine lv_iconst (v := (-1)) hx hb dX8_brace_5 (by decide) ?_
  refine lv_istore_n (lv' := [(1, .int (-1)), (0, .ref t_h)]) hx hb dX8_brace_6 rfl hl (by decide) rfl (fun ls hl => ?_)
  refine lv_iconst (v := 0) hx hb dX8_brace_7 (by decide) ?_
  refine lv_istore_n (lv' := [(2, .int 0), (1, .int (-1)), (0, .ref t_h)]) hx hb dX8_brace_8 rfl hl (by decide) rfl (fun ls hl => ?_)
  refine lv_iconst (v := 0) hx hb dX8_brace_9 (by decide) ?_
  refine lv_istore_n (lv' := [(3, .int 0), (2, .int 0), (1, .int (-1)), (0, .ref t_h)]) hx hb dX8_brace_10 rfl hl (by decide) rfl (fun ls hl => ?_)
  refine lv_iconst (v := 0) hx hb dX8_brace_11 (by decide) ?_
  refine lv_istore (lv' := [(4, .int 0), (3, .int 0), (2, .int 0), (1, .int (-1)), (0, .ref t_h)]) hx hb dX8_brace_12 hl (by decide) rfl (fun ls hl => ?_)
  refine L14 _ _ _ _ _ _ _ _ _ _ _ hP hD hS (lv_sub hl [4, 3, 2, 1, 0] rfl) hf (fun w_33 t_all_34 H locs ls hP hD hS hl hf => ?_)
  refine lv_iload_n hx hb dX8_brace_163 rfl (lv_at hl 0 rfl) ?_
  exact hRet _ _ _ _ _ _ _ hf hP hS dX8_brace_164
theorem calX8_renewed : CalV yX8_renewed cX8_renewed 11 (some .int) 2 := ⟨⟨kw_37_15, kw_1_5, by decide +kernel⟩, kw_37_13, kw_37_14⟩
set_option maxHeartbeats 8000000 in
set_option maxRecDepth 100000 in
theorem ctX8_renewed (l : Launch) (G : GT) (t_h : Nat) (t_a : Nat → Nat) (t_thrown : Int32) (t_all : Nat → Int32) (t_taped : Int32) (t_at : Int32) (t_behind : Int32) (t_size : Int32) (t_kind : Int32) (t_number : Int32) (t_wrong : Int32) (t_wrongAt : Int32) (t_faultKind : Int32) (t_faultPlace : Int32) (t_x : Int32) (t_loss : Nat → Int32) (t_hops : Nat → Int32) (t_wayLong : Int32) (t_bothLeast : Int32) (v1 : Int32) (v2 : Int32) (r : Int32) (o_t_thrown : Int32) (o_t_all : Nat → Int32) (o_t_loss : Nat → Int32) (o_t_hops : Nat → Int32) (hf : fX8_renewed t_thrown t_all t_loss t_hops v1 v2 = some (r, o_t_thrown, o_t_all, o_t_loss, o_t_hops)) : WrI l yX8_renewed (Cond.code yX8_renewed cX8_renewed 11 (some .int)) { frames := 5, cells := 0, slots := 0, locals := 121 } G [.ref t_h, .int v1, .int v2] [oX8 t_h t_a t_thrown t_taped t_at t_behind t_size t_kind t_number t_wrong t_wrongAt t_faultKind t_faultPlace t_x t_wayLong t_bothLeast, arI G (t_a 1) 558 t_all, arI G (t_a 16) 12 t_loss, arI G (t_a 17) 12 t_hops] [oX8 t_h t_a o_t_thrown t_taped t_at t_behind t_size t_kind t_number t_wrong t_wrongAt t_faultKind t_faultPlace t_x t_wayLong t_bothLeast, arI G (t_a 1) 558 o_t_all, arI G (t_a 16) 12 o_t_loss, arI G (t_a 17) 12 o_t_hops] r := by
  intro sz
  refine Met.ofW (cc := cX8_renewed) (maxL := 11) (ret := (some .int)) (by decide) rfl ?_
  intro p e s m args below meth c s₁ B hml hv
  obtain ⟨hargs, hsz, hP, hD0, hK⟩ := hv
  subst hsz
  obtain ⟨hx, hb, hr, hw, hown, hlk⟩ := fwB B
  refine fw_enter hargs (Nat.le_of_ble_eq_true rfl) (fun ls hl => ?_)
  have hl : lv_has ls 11 [(0, .ref t_h), (1, .int v1), (2, .int v2)] := hl
  refine fw_Q (P := fun Q => ∃ A : Nat → Prop, va_D A [oX8 t_h t_a t_thrown t_taped t_at t_behind t_size t_kind t_number t_wrong t_wrongAt t_faultKind t_faultPlace t_x t_wayLong t_bothLeast, arI G (t_a 1) 558 t_all, arI G (t_a 16) 12 t_loss, arI G (t_a 17) 12 t_hops] ∧ va_S A s.heap s.heap [] ∧ (∀ q, s.heap.size ≤ q → A q) ∧ ∀ (v : Int32) (n_t_thrown : Int32) (n_t_all : Nat → Int32) (n_t_loss : Nat → Int32) (n_t_hops : Nat → Int32) (H : Heap) (locs : List Loc) (pc : Nat) (ls : Array Slot), some (v, n_t_thrown, n_t_all, n_t_loss, n_t_hops) = some (r, o_t_thrown, o_t_all, o_t_loss, o_t_hops) → va_P G.1 vwCl [oX8 t_h t_a n_t_thrown t_taped t_at t_behind t_size t_kind t_number t_wrong t_wrongAt t_faultKind t_faultPlace t_x t_wayLong t_bothLeast, arI G (t_a 1) 558 n_t_all, arI G (t_a 16) 12 n_t_loss, arI G (t_a 17) 12 n_t_hops] H → va_S A s.heap H locs → decode cX8_renewed pc = .ok (.ireturn, 1) → W p l e ({ frames := 5, cells := 0, slots := 0, locals := 121 } : Room) s m args below meth c H locs 0 0 Q (F0 m pc ls [.int v])) ⟨va_A [oX8 t_h t_a t_thrown t_taped t_at t_behind t_size t_kind t_number t_wrong t_wrongAt t_faultKind t_faultPlace t_x t_wayLong t_bothLeast, arI G (t_a 1) 558 t_all, arI G (t_a 16) 12 t_loss, arI G (t_a 17) 12 t_hops] s.heap.size, hD0.self (sz := s.heap.size), va_S.rf, fun q h => Or.inr h, ?_⟩ ?_
  · intro v n_t_thrown n_t_all n_t_loss n_t_hops H locs pc ls h hP hS hd
    cases h
    exact retWI hx hb hr hlk hS hP rfl hd
  rintro Q ⟨A, hD, hS, hA, hRet⟩
  change W p l e ({ frames := 5, cells := 0, slots := 0, locals := 121 } : Room) s m args below meth c _ _ 0 0 Q _
  have L95 : ∀ (l3 : Int32) (l4 : Int32) (l5 : Int32) (l8 : Int32) (t_thrown : Int32) (K : Int32 → Int32 → (Nat → Int32) → (Nat → Int32) → (Nat → Int32) → Option (Int32 × Int32 × (Nat → Int32) × (Nat → Int32) × (Nat → Int32))) (n : Nat) (l6 : Int32) (l7 : Int32) (l9 : Int32) (t_all : Nat → Int32) (t_loss : Nat → Int32) (t_hops : Nat → Int32) (H : Heap) (locs : List Loc) (ls : Array Slot), va_P G.1 vwCl [oX8 t_h t_a t_thrown t_taped t_at t_behind t_size t_kind t_number t_wrong t_wrongAt t_faultKind t_faultPlace t_x t_wayLong t_bothLeast, arI G (t_a 1) 558 t_all, arI G (t_a 16) 12 t_loss, arI G (t_a 17) 12 t_hops] H → va_D A [oX8 t_h t_a t_thrown t_taped t_at t_behind t_size t_kind t_number t_wrong t_wrongAt t_faultKind t_faultPlace t_x t_wayLong t_bothLeast, arI G (t_a 1) 558 t_all, arI G (t_a 16) 12 t_loss, arI G (t_a 17) 12 t_hops] → va_S A s.heap H locs → lv_has ls 11 [(0, .ref t_h), (2, .int v2), (3, .int l3), (4, .int l4), (5, .int l5), (6, .int l6), (7, .int l7), (8, .int l8), (9, .int l9)] → fX8_renewed_95 l3 l4 l5 l8 K n l6 l7 l9 t_all t_loss t_hops = some (r, o_t_thrown, o_t_all, o_t_loss, o_t_hops) → (∀ (k6 : Int32) (k7 : Int32) (kt_all : Nat → Int32) (kt_loss : Nat → Int32) (kt_hops : Nat → Int32) (H : Heap) (locs : List Loc) (ls : Array Slot), va_P G.1 vwCl [oX8 t_h t_a t_thrown t_taped t_at t_behind t_size t_kind t_number t_wrong t_wrongAt t_faultKind t_faultPlace t_x t_wayLong t_bothLeast, arI G (t_a 1) 558 kt_all, arI G (t_a 16) 12 kt_loss, arI G (t_a 17) 12 kt_hops] H → va_D A [oX8 t_h t_a t_thrown t_taped t_at t_behind t_size t_kind t_number t_wrong t_wrongAt t_faultKind t_faultPlace t_x t_wayLong t_bothLeast, arI G (t_a 1) 558 kt_all, arI G (t_a 16) 12 kt_loss, arI G (t_a 17) 12 kt_hops] → va_S A s.heap H locs → lv_has ls 11 [(0, .ref t_h), (2, .int v2), (3, .int l3), (4, .int l4), (5, .int l5), (6, .int k6), (7, .int k7), (8, .int l8)] → K k6 k7 kt_all kt_loss kt_hops = some (r, o_t_thrown, o_t_all, o_t_loss, o_t_hops) → W p l e ({ frames := 5, cells := 0, slots := 0, locals := 121 } : Room) s m args below meth c H locs 0 0 Q (F0 m 226 ls [])) → W p l e ({ frames := 5, cells := 0, slots := 0, locals := 121 } : Room) s m args below meth c H locs 0 0 Q (F0 m 95 ls []) := by
    intro l3 l4 l5 l8 t_thrown K n
    induction n with
    | zero => intro l6 l7 l9 t_all t_loss t_hops H locs ls hP hD hS hl hf; rw [fX8_renewed_95] at hf; cases hf
    | succ n ih =>
      intro l6 l7 l9 t_all t_loss t_hops H locs ls hP hD hS hl hf hX
      rw [fX8_renewed_95] at hf
      refine lv_iload hx hb dX8_renewed_95 (lv_at hl 8 rfl) ?_
      refine lv_aload_n hx hb dX8_renewed_97 rfl (lv_at hl 0 rfl) ?_
      refine va_get (D := G.1) (ci := 8) (v := .ref (t_a 1)) (C := RX8) (T := TX8) (N := 33) hx hb hw inW8 hown hK.1 hP 0 rfl rfl 1 (by decide) (hw _ kw_5_11) (fun _ h9 => h9) rfl dX8_renewed_98 ?_
      refine lv_iconst (v := 0) hx hb dX8_renewed_101 (by decide) ?_
      obtain ⟨hi_22, hf⟩ := rdI_in hf
      refine va_iald hx hb hK.1 hP 1 0 rfl rfl hi_22 dX8_renewed_102 ?_
      refine lv_topi (fun x_21 ex_21 => ?_)
      have hf := hf x_21 ex_21
      refine lv_icmp_ge (tgt := 226) hx hb dX8_renewed_103 (by decide) (fun c_23 => ?_) (fun c_23 => ?_)
      · have hf := ip c_23 hf
        exact hX _ _ _ _ _ _ _ _ hP hD hS (lv_sub hl [0, 1, 2, 3, 4, 5, 6, 7] rfl) hf
      · have hf := iq c_23 hf
        refine lv_aload_n hx hb dX8_renewed_106 rfl (lv_at hl 0 rfl) ?_
        refine lv_iload hx hb dX8_renewed_107 (lv_at hl 7 rfl) ?_
        refine lv_iload hx hb dX8_renewed_109 (lv_at hl 8 rfl) ?_
        refine lv_aload_n hx hb dX8_renewed_111 rfl (lv_at hl 0 rfl) ?_
        refine va_get (D := G.1) (ci := 8) (v := .ref (t_a 1)) (C := RX8) (T := TX8) (N := 33) hx hb hw inW8 hown hK.1 hP 0 rfl rfl 1 (by decide) (hw _ kw_5_11) (fun _ h9 => h9) rfl dX8_renewed_112 ?_
        refine lv_iconst (v := 1) hx hb dX8_renewed_115 (by decide) ?_
        obtain ⟨hi_25, hf⟩ := rdI_in hf
        refine va_iald hx hb hK.1 hP 1 0 rfl rfl hi_25 dX8_renewed_116 ?_
        refine lv_topi (fun x_24 ex_24 => ?_)
        have hf := hf x_24 ex_24
        obtain ⟨r_26, hc_27, hf⟩ := bd1_in hf
        refine rcI (va_runV (As := [.int l8, .int l9, .int x_24]) (rest := []) ⟨hx, hb, hml, hown, hw⟩ ((ctX8_talks l G t_h t_a t_thrown t_all t_taped t_at t_behind t_size t_kind t_number t_wrong t_wrongAt t_faultKind t_faultPlace t_x t_wayLong t_bothLeast l8 l9 x_24 _ hc_27) _) (kV hw calX8_talks kw_20_12 rfl rfl ⟨Nat.le_of_ble_eq_true rfl, Nat.le_of_ble_eq_true rfl⟩) (rpV (hP.sub (ws' := [oX8 t_h t_a t_thrown t_taped t_at t_behind t_size t_kind t_number t_wrong t_wrongAt t_faultKind t_faultPlace t_x t_wayLong t_bothLeast, arI G (t_a 1) 558 t_all]) [0, 1] rfl) hK (ci := 8) (q0 := 0) rfl rfl) rfl rfl hl.1 rfl (lv_room (Nat.le_of_ble_eq_true rfl)) dX8_renewed_117 ⟨Nat.zero_le _, Nat.zero_le _⟩) hS hA hP (fun H locs hP hS => ?_)
        refine lv_if_ne (tgt := 126) hx hb dX8_renewed_120 (by decide) (fun c_28 => ?_) (fun c_28 => ?_)
        · have hf := iq c_28 hf
          refine lv_aload_n hx hb dX8_renewed_126 rfl (lv_at hl 0 rfl) ?_
          refine va_get (D := G.1) (ci := 8) (v := .ref (t_a 1)) (C := RX8) (T := TX8) (N := 33) hx hb hw inW8 hown hK.1 hP 0 rfl rfl 1 (by decide) (hw _ kw_5_11) (fun _ h9 => h9) rfl dX8_renewed_127 ?_
          refine lv_bipush (v := 42) hx hb dX8_renewed_130 (by decide) ?_
          refine lv_bipush (v := 12) hx hb dX8_renewed_132 (by decide) ?_
          refine lv_iload hx hb dX8_renewed_134 (lv_at hl 7 rfl) ?_
          refine lv_imul hx hb dX8_renewed_136 ?_
          refine lv_iadd hx hb dX8_renewed_137 ?_
          refine lv_iload hx hb dX8_renewed_138 (lv_at hl 8 rfl) ?_
          refine lv_iadd hx hb dX8_renewed_140 ?_
          obtain ⟨hi_30, hf⟩ := rdI_in hf
          refine va_iald hx hb hK.1 hP 1 0 rfl rfl hi_30 dX8_renewed_141 ?_
          refine lv_topi (fun x_29 ex_29 => ?_)
          have hf := hf x_29 ex_29
          refine lv_istore (lv' := [(10, .int x_29), (0, .ref t_h), (2, .int v2), (3, .int l3), (4, .int l4), (5, .int l5), (6, .int l6), (7, .int l7), (8, .int l8), (9, .int l9)]) hx hb dX8_renewed_142 hl (by decide) rfl (fun ls hl => ?_)
          refine lv_aload_n hx hb dX8_renewed_144 rfl (lv_at hl 1 rfl) ?_
          refine va_get (D := G.1) (ci := 8) (v := .ref (t_a 1)) (C := RX8) (T := TX8) (N := 33) hx hb hw inW8 hown hK.1 hP 0 rfl rfl 1 (by decide) (hw _ kw_5_11) (fun _ h9 => h9) rfl dX8_renewed_145 ?_
          refine lv_iload hx hb dX8_renewed_148 (lv_at hl 8 rfl) ?_
          refine lv_iload hx hb dX8_renewed_150 (lv_at hl 9 rfl) ?_
          refine lv_iconst (v := 1) hx hb dX8_renewed_152 (by decide) ?_
          obtain ⟨t_all_31, hc_32, hf⟩ := bd1_in hf
          refine wcV (w1 := [arI G (t_a 1) 558 t_all_31]) (va_runS (As := [.ref (t_a 1), .int l8, .int l9, .int 1]) (rest := []) ⟨hx, hb, hml, hown, hw⟩ ((ctX8_sets l G 558 (t_a 1) t_all l8 l9 1 _ hc_32) _) (kS hw calX8_sets kw_17_10 rfl rfl ⟨Nat.le_of_ble_eq_true rfl, Nat.le_of_ble_eq_true rfl⟩) (wpS (hP.sub (ws' := [arI G (t_a 1) 558 t_all]) [1] rfl) (hD.sub (ws' := [arI G (t_a 1) 558 t_all]) [1] (by decide) rfl) hK) rfl rfl hl.1 rfl (lv_room (Nat.le_of_ble_eq_true rfl)) dX8_renewed_153 ⟨Nat.zero_le _, Nat.zero_le _⟩) hS hA hP hD [1] rfl rfl (fun H locs hP hD hS => ?_)
          have hP : va_P G.1 vwCl [oX8 t_h t_a t_thrown t_taped t_at t_behind t_size t_kind t_number t_wrong t_wrongAt t_faultKind t_faultPlace t_x t_wayLong t_bothLeast, arI G (t_a 1) 558 t_all_31, arI G (t_a 16) 12 t_loss, arI G (t_a 17) 12 t_hops] H := hP
          have hD : va_D A [oX8 t_h t_a t_thrown t_taped t_at t_behind t_size t_kind t_number t_wrong t_wrongAt t_faultKind t_faultPlace t_x t_wayLong t_bothLeast, arI G (t_a 1) 558 t_all_31, arI G (t_a 16) 12 t_loss, arI G (t_a 17) 12 t_hops] := hD
          refine lv_aload_n hx hb dX8_renewed_156 rfl (lv_at hl 1 rfl) ?_
          refine lv_iload hx hb dX8_renewed_157 (lv_at hl 4 rfl) ?_
          refine lv_iconst (v := 0) hx hb dX8_renewed_159 (by decide) ?_
          refine lv_aload_n hx hb dX8_renewed_160 rfl (lv_at hl 1 rfl) ?_
          refine va_get (D := G.1) (ci := 8) (v := .ref (t_a 1)) (C := RX8) (T := TX8) (N := 33) hx hb hw inW8 hown hK.1 hP 0 rfl rfl 1 (by decide) (hw _ kw_5_11) (fun _ h9 => h9) rfl dX8_renewed_161 ?_
          refine lv_iconst (v := 1) hx hb dX8_renewed_164 (by decide) ?_
          obtain ⟨hi_34, hf⟩ := rdI_in hf
          refine va_iald hx hb hK.1 hP 1 0 rfl rfl hi_34 dX8_renewed_165 ?_
          refine lv_topi (fun x_33 ex_33 => ?_)
          have hf := hf x_33 ex_33
          obtain ⟨t_loss_35, t_hops_36, hc_37, hf⟩ := bd2_in hf
          refine wcV (w1 := [oX8 t_h t_a t_thrown t_taped t_at t_behind t_size t_kind t_number t_wrong t_wrongAt t_faultKind t_faultPlace t_x t_wayLong t_bothLeast, arI G (t_a 1) 558 t_all_31, arI G (t_a 16) 12 t_loss_35, arI G (t_a 17) 12 t_hops_36]) (va_runV (As := [.int l4, .int 0, .int x_33]) (rest := []) ⟨hx, hb, hml, hown, hw⟩ ((ctX8_laysLoss l G t_h t_a t_thrown t_all_31 t_taped t_at t_behind t_size t_kind t_number t_wrong t_wrongAt t_faultKind t_faultPlace t_x t_loss t_hops t_wayLong t_bothLeast l4 0 x_33 _ _ hc_37) _) (kV hw calX8_laysLoss kw_30_4 rfl rfl ⟨Nat.le_of_ble_eq_true rfl, Nat.le_of_ble_eq_true rfl⟩) (wpV (hP.sub (ws' := [oX8 t_h t_a t_thrown t_taped t_at t_behind t_size t_kind t_number t_wrong t_wrongAt t_faultKind t_faultPlace t_x t_wayLong t_bothLeast, arI G (t_a 1) 558 t_all_31, arI G (t_a 16) 12 t_loss, arI G (t_a 17) 12 t_hops]) [0, 1, 2, 3] rfl) (hD.sub (ws' := [oX8 t_h t_a t_thrown t_taped t_at t_behind t_size t_kind t_number t_wrong t_wrongAt t_faultKind t_faultPlace t_x t_wayLong t_bothLeast, arI G (t_a 1) 558 t_all_31, arI G (t_a 16) 12 t_loss, arI G (t_a 17) 12 t_hops]) [0, 1, 2, 3] (by decide) rfl) hK (ci := 8) (q0 := 0) rfl rfl) rfl rfl hl.1 rfl (lv_room (Nat.le_of_ble_eq_true rfl)) dX8_renewed_166 ⟨Nat.zero_le _, Nat.zero_le _⟩) hS hA hP hD [0, 1, 2, 3] rfl rfl (fun H locs hP hD hS => ?_)
          have hP : va_P G.1 vwCl [oX8 t_h t_a t_thrown t_taped t_at t_behind t_size t_kind t_number t_wrong t_wrongAt t_faultKind t_faultPlace t_x t_wayLong t_bothLeast, arI G (t_a 1) 558 t_all_31, arI G (t_a 16) 12 t_loss_35, arI G (t_a 17) 12 t_hops_36] H := hP
          have hD : va_D A [oX8 t_h t_a t_thrown t_taped t_at t_behind t_size t_kind t_number t_wrong t_wrongAt t_faultKind t_faultPlace t_x t_wayLong t_bothLeast, arI G (t_a 1) 558 t_all_31, arI G (t_a 16) 12 t_loss_35, arI G (t_a 17) 12 t_hops_36] := hD
          refine lv_aload_n hx hb dX8_renewed_169 rfl (lv_at hl 1 rfl) ?_
          refine va_get (D := G.1) (ci := 8) (v := .ref (t_a 1)) (C := RX8) (T := TX8) (N := 33) hx hb hw inW8 hown hK.1 hP 0 rfl rfl 1 (by decide) (hw _ kw_5_11) (fun _ h9 => h9) rfl dX8_renewed_170 ?_
          refine lv_iload hx hb dX8_renewed_173 (lv_at hl 8 rfl) ?_
          refine lv_iload hx hb dX8_renewed_175 (lv_at hl 9 rfl) ?_
          refine lv_iload hx hb dX8_renewed_177 (lv_at hl 0 rfl) ?_
          obtain ⟨t_all_38, hc_39, hf⟩ := bd1_in hf
          refine wcV (w1 := [arI G (t_a 1) 558 t_all_38]) (va_runS (As := [.ref (t_a 1), .int l8, .int l9, .int x_29]) (rest := []) ⟨hx, hb, hml, hown, hw⟩ ((ctX8_sets l G 558 (t_a 1) t_all_31 l8 l9 x_29 _ hc_39) _) (kS hw calX8_sets kw_17_10 rfl rfl ⟨Nat.le_of_ble_eq_true rfl, Nat.le_of_ble_eq_true rfl⟩) (wpS (hP.sub (ws' := [arI G (t_a 1) 558 t_all_31]) [1] rfl) (hD.sub (ws' := [arI G (t_a 1) 558 t_all_31]) [1] (by decide) rfl) hK) rfl rfl hl.1 rfl (lv_room (Nat.le_of_ble_eq_true rfl)) dX8_renewed_179 ⟨Nat.zero_le _, Nat.zero_le _⟩) hS hA hP hD [1] rfl rfl (fun H locs hP hD hS => ?_)
          have hP : va_P G.1 vwCl [oX8 t_h t_a t_thrown t_taped t_at t_behind t_size t_kind t_number t_wrong t_wrongAt t_faultKind t_faultPlace t_x t_wayLong t_bothLeast, arI G (t_a 1) 558 t_all_38, arI G (t_a 16) 12 t_loss_35, arI G (t_a 17) 12 t_hops_36] H := hP
          have hD : va_D A [oX8 t_h t_a t_thrown t_taped t_at t_behind t_size t_kind t_number t_wrong t_wrongAt t_faultKind t_faultPlace t_x t_wayLong t_bothLeast, arI G (t_a 1) 558 t_all_38, arI G (t_a 16) 12 t_loss_35, arI G (t_a 17) 12 t_hops_36] := hD
          refine lv_iload hx hb dX8_renewed_182 (lv_at hl 5 rfl) ?_
          refine lv_aload_n hx hb dX8_renewed_184 rfl (lv_at hl 1 rfl) ?_
          refine va_get (D := G.1) (ci := 8) (v := .ref (t_a 16)) (C := RX8) (T := TX8) (N := 33) hx hb hw inW8 hown hK.1 hP 0 rfl rfl 16 (by decide) (hw _ kw_5_16) (fun _ h9 => h9) rfl dX8_renewed_185 ?_
          refine lv_iload_n hx hb dX8_renewed_188 rfl (lv_at hl 3 rfl) ?_
          obtain ⟨hi_41, hf⟩ := rdI_in hf
          refine va_iald hx hb hK.1 hP 2 0 rfl rfl hi_41 dX8_renewed_189 ?_
          refine lv_topi (fun x_40 ex_40 => ?_)
          have hf := hf x_40 ex_40
          refine lv_isub hx hb dX8_renewed_190 ?_
          refine lv_iload hx hb dX8_renewed_191 (lv_at hl 6 rfl) ?_
          refine lv_icmp_gt (tgt := 199) hx hb dX8_renewed_193 (by decide) (fun c_42 => ?_) (fun c_42 => ?_)
          · have hf := ip c_42 hf
            refine lv_iload hx hb dX8_renewed_199 (lv_at hl 5 rfl) ?_
            refine lv_aload_n hx hb dX8_renewed_201 rfl (lv_at hl 1 rfl) ?_
            refine va_get (D := G.1) (ci := 8) (v := .ref (t_a 16)) (C := RX8) (T := TX8) (N := 33) hx hb hw inW8 hown hK.1 hP 0 rfl rfl 16 (by decide) (hw _ kw_5_16) (fun _ h9 => h9) rfl dX8_renewed_202 ?_
            refine lv_iload_n hx hb dX8_renewed_205 rfl (lv_at hl 3 rfl) ?_
            obtain ⟨hi_44, hf⟩ := rdI_in hf
            refine va_iald hx hb hK.1 hP 2 0 rfl rfl hi_44 dX8_renewed_206 ?_
            refine lv_topi (fun x_43 ex_43 => ?_)
            have hf := hf x_43 ex_43
            refine lv_isub hx hb dX8_renewed_207 ?_
            refine lv_topi (fun y_45 ey_45 => ?_)
            have hf := bnd_all hf y_45 ey_45
            refine lv_istore (lv' := [(6, .int y_45), (10, .int x_29), (0, .ref t_h), (2, .int v2), (3, .int l3), (4, .int l4), (5, .int l5), (7, .int l7), (8, .int l8), (9, .int l9)]) hx hb dX8_renewed_208 hl (by decide) rfl (fun ls hl => ?_)
            refine lv_bipush (v := 20) hx hb dX8_renewed_210 (by decide) ?_
            refine lv_iload hx hb dX8_renewed_212 (lv_at hl 8 rfl) ?_
            refine lv_imul hx hb dX8_renewed_214 ?_
            refine lv_iload hx hb dX8_renewed_215 (lv_at hl 9 rfl) ?_
            refine lv_iadd hx hb dX8_renewed_217 ?_
            refine lv_topi (fun y_46 ey_46 => ?_)
            have hf := bnd_all hf y_46 ey_46
            refine lv_istore (lv' := [(7, .int y_46), (6, .int y_45), (10, .int x_29), (0, .ref t_h), (2, .int v2), (3, .int l3), (4, .int l4), (5, .int l5), (8, .int l8), (9, .int l9)]) hx hb dX8_renewed_218 hl (by decide) rfl (fun ls hl => ?_)
            refine lv_iinc (v := (l9 + 1)) (lv' := [(9, .int (l9 + 1)), (7, .int y_46), (6, .int y_45), (10, .int x_29), (0, .ref t_h), (2, .int v2), (3, .int l3), (4, .int l4), (5, .int l5), (8, .int l8)]) hx hb dX8_renewed_220 hl (k := 9) rfl (by rfl) (by decide) rfl (fun ls hl => ?_)
            refine lv_goto (tgt := 95) hx hb dX8_renewed_223 (by decide) ?_
            exact ih _ _ _ _ _ _ _ _ _ hP hD hS (lv_sub hl [4, 5, 6, 7, 8, 2, 1, 9, 0] rfl) hf hX
          · have hf := iq c_42 hf
            refine lv_goto (tgt := 220) hx hb dX8_renewed_196 (by decide) ?_
            refine lv_iinc (v := (l9 + 1)) (lv' := [(9, .int (l9 + 1)), (10, .int x_29), (0, .ref t_h), (2, .int v2), (3, .int l3), (4, .int l4), (5, .int l5), (6, .int l6), (7, .int l7), (8, .int l8)]) hx hb dX8_renewed_220 hl (k := 9) rfl (by rfl) (by decide) rfl (fun ls hl => ?_)
            refine lv_goto (tgt := 95) hx hb dX8_renewed_223 (by decide) ?_
            exact ih _ _ _ _ _ _ _ _ _ hP hD hS (lv_sub hl [2, 3, 4, 5, 6, 7, 8, 9, 0] rfl) hf hX
        · have hf := ip c_28 hf
          refine lv_goto (tgt := 220) hx hb dX8_renewed_123 (by decide) ?_
          refine lv_iinc (v := (l9 + 1)) (lv' := [(9, .int (l9 + 1)), (0, .ref t_h), (2, .int v2), (3, .int l3), (4, .int l4), (5, .int l5), (6, .int l6), (7, .int l7), (8, .int l8)]) hx hb dX8_renewed_220 hl (k := 8) rfl (by rfl) (by decide) rfl (fun ls hl => ?_)
          refine lv_goto (tgt := 95) hx hb dX8_renewed_223 (by decide) ?_
          exact ih _ _ _ _ _ _ _ _ _ hP hD hS (lv_sub hl [1, 2, 3, 4, 5, 6, 7, 8, 0] rfl) hf hX
  have L78 : ∀ (l3 : Int32) (l4 : Int32) (l5 : Int32) (t_thrown : Int32) (K : Int32 → Int32 → (Nat → Int32) → (Nat → Int32) → (Nat → Int32) → Option (Int32 × Int32 × (Nat → Int32) × (Nat → Int32) × (Nat → Int32))) (n : Nat) (l6 : Int32) (l7 : Int32) (l8 : Int32) (t_all : Nat → Int32) (t_loss : Nat → Int32) (t_hops : Nat → Int32) (H : Heap) (locs : List Loc) (ls : Array Slot), va_P G.1 vwCl [oX8 t_h t_a t_thrown t_taped t_at t_behind t_size t_kind t_number t_wrong t_wrongAt t_faultKind t_faultPlace t_x t_wayLong t_bothLeast, arI G (t_a 1) 558 t_all, arI G (t_a 16) 12 t_loss, arI G (t_a 17) 12 t_hops] H → va_D A [oX8 t_h t_a t_thrown t_taped t_at t_behind t_size t_kind t_number t_wrong t_wrongAt t_faultKind t_faultPlace t_x t_wayLong t_bothLeast, arI G (t_a 1) 558 t_all, arI G (t_a 16) 12 t_loss, arI G (t_a 17) 12 t_hops] → va_S A s.heap H locs → lv_has ls 11 [(0, .ref t_h), (2, .int v2), (3, .int l3), (4, .int l4), (5, .int l5), (6, .int l6), (7, .int l7), (8, .int l8)] → fX8_renewed_78 l3 l4 l5 K n l6 l7 l8 t_all t_loss t_hops = some (r, o_t_thrown, o_t_all, o_t_loss, o_t_hops) → (∀ (k6 : Int32) (k7 : Int32) (kt_all : Nat → Int32) (kt_loss : Nat → Int32) (kt_hops : Nat → Int32) (H : Heap) (locs : List Loc) (ls : Array Slot), va_P G.1 vwCl [oX8 t_h t_a t_thrown t_taped t_at t_behind t_size t_kind t_number t_wrong t_wrongAt t_faultKind t_faultPlace t_x t_wayLong t_bothLeast, arI G (t_a 1) 558 kt_all, arI G (t_a 16) 12 kt_loss, arI G (t_a 17) 12 kt_hops] H → va_D A [oX8 t_h t_a t_thrown t_taped t_at t_behind t_size t_kind t_number t_wrong t_wrongAt t_faultKind t_faultPlace t_x t_wayLong t_bothLeast, arI G (t_a 1) 558 kt_all, arI G (t_a 16) 12 kt_loss, arI G (t_a 17) 12 kt_hops] → va_S A s.heap H locs → lv_has ls 11 [(2, .int v2), (6, .int k6), (7, .int k7)] → K k6 k7 kt_all kt_loss kt_hops = some (r, o_t_thrown, o_t_all, o_t_loss, o_t_hops) → W p l e ({ frames := 5, cells := 0, slots := 0, locals := 121 } : Room) s m args below meth c H locs 0 0 Q (F0 m 232 ls [])) → W p l e ({ frames := 5, cells := 0, slots := 0, locals := 121 } : Room) s m args below meth c H locs 0 0 Q (F0 m 78 ls []) := by
    intro l3 l4 l5 t_thrown K n
    induction n with
    | zero => intro l6 l7 l8 t_all t_loss t_hops H locs ls hP hD hS hl hf; rw [fX8_renewed_78] at hf; cases hf
    | succ n ih =>
      intro l6 l7 l8 t_all t_loss t_hops H locs ls hP hD hS hl hf hX
      rw [fX8_renewed_78] at hf
      refine lv_iload hx hb dX8_renewed_78 (lv_at hl 7 rfl) ?_
      refine lv_aload_n hx hb dX8_renewed_80 rfl (lv_at hl 0 rfl) ?_
      refine va_get (D := G.1) (ci := 8) (v := .ref (t_a 1)) (C := RX8) (T := TX8) (N := 33) hx hb hw inW8 hown hK.1 hP 0 rfl rfl 1 (by decide) (hw _ kw_5_11) (fun _ h9 => h9) rfl dX8_renewed_81 ?_
      refine lv_iconst (v := 0) hx hb dX8_renewed_84 (by decide) ?_
      obtain ⟨hi_18, hf⟩ := rdI_in hf
      refine va_iald hx hb hK.1 hP 1 0 rfl rfl hi_18 dX8_renewed_85 ?_
      refine lv_topi (fun x_17 ex_17 => ?_)
      have hf := hf x_17 ex_17
      refine lv_icmp_ge (tgt := 232) hx hb dX8_renewed_86 (by decide) (fun c_19 => ?_) (fun c_19 => ?_)
      · have hf := ip c_19 hf
        exact hX _ _ _ _ _ _ _ _ hP hD hS (lv_sub hl [1, 5, 6] rfl) hf
      · have hf := iq c_19 hf
        refine lv_iload hx hb dX8_renewed_89 (lv_at hl 7 rfl) ?_
        refine lv_iconst (v := 1) hx hb dX8_renewed_91 (by decide) ?_
        refine lv_iadd hx hb dX8_renewed_92 ?_
        refine lv_topi (fun y_20 ey_20 => ?_)
        have hf := bnd_all hf y_20 ey_20
        refine lv_istore (lv' := [(9, .int y_20), (0, .ref t_h), (2, .int v2), (3, .int l3), (4, .int l4), (5, .int l5), (6, .int l6), (7, .int l7), (8, .int l8)]) hx hb dX8_renewed_93 hl (by decide) rfl (fun ls hl => ?_)
        refine L95 _ _ _ _ _ _ _ _ _ _ _ _ _ _ _ _ hP hD hS (lv_sub hl [1, 2, 3, 4, 5, 6, 7, 8, 0] rfl) hf (fun w_47 w_48 t_all_49 t_loss_50 t_hops_51 H locs ls hP hD hS hl hf => ?_)
        refine lv_iinc (v := (l8 + 1)) (lv' := [(8, .int (l8 + 1)), (0, .ref t_h), (2, .int v2), (3, .int l3), (4, .int l4), (5, .int l5), (6, .int w_47), (7, .int w_48)]) hx hb dX8_renewed_226 hl (k := 7) rfl (by rfl) (by decide) rfl (fun ls hl => ?_)
        refine lv_goto (tgt := 78) hx hb dX8_renewed_229 (by decide) ?_
        exact ih _ _ _ _ _ _ _ _ _ hP hD hS (lv_sub hl [1, 2, 3, 4, 5, 6, 7, 0] rfl) hf hX
  unfold fX8_renewed at hf
  refine lv_aload_n hx hb dX8_renewed_0 rfl (lv_at hl 0 rfl) ?_
  refine lv_iconst (v := 0) hx hb dX8_renewed_1 (by decide) ?_
  refine va_put (D := G.1) (ci := 8) (v := .int 0) (ty := .int) (C := RX8) (T := TX8) (N := 33) hx hb hw inW8 tyX8 tyX8_ok nmX8 hown hK.1 hP hD hS 0 rfl rfl 0 (by decide) (hw _ kw_6_21) (fun _ h9 => h9) rfl (by decide +kernel) rfl rfl (Nat.le_of_ble_eq_true rfl) dX8_renewed_2 (fun H locs hP hD hS => ?_)
  have hP : va_P G.1 vwCl [oX8 t_h t_a 0 t_taped t_at t_behind t_size t_kind t_number t_wrong t_wrongAt t_faultKind t_faultPlace t_x t_wayLong t_bothLeast, arI G (t_a 1) 558 t_all, arI G (t_a 16) 12 t_loss, arI G (t_a 17) 12 t_hops] H := hP
  have hD : va_D A [oX8 t_h t_a 0 t_taped t_at t_behind t_size t_kind t_number t_wrong t_wrongAt t_faultKind t_faultPlace t_x t_wayLong t_bothLeast, arI G (t_a 1) 558 t_all, arI G (t_a 16) 12 t_loss, arI G (t_a 17) 12 t_hops] := hD
  refine lv_aload_n hx hb dX8_renewed_5 rfl (lv_at hl 0 rfl) ?_
  refine lv_iload_n hx hb dX8_renewed_6 rfl (lv_at hl 1 rfl) ?_
  refine lv_i2l hx hb dX8_renewed_7 rfl ?_
  obtain ⟨r_1, hc_2, hf⟩ := bd1_in hf
  refine rcI (va_runV (As := [.long (Int32.toInt64 v1)]) (rest := []) ⟨hx, hb, hml, hown, hw⟩ ((ctX8_isPair l G t_h t_a 0 t_all t_taped t_at t_behind t_size t_kind t_number t_wrong t_wrongAt t_faultKind t_faultPlace t_x t_wayLong t_bothLeast (Int32.toInt64 v1) _ hc_2) _) (kV hw calX8_isPair kw_21_13 rfl rfl ⟨Nat.le_of_ble_eq_true rfl, Nat.le_of_ble_eq_true rfl⟩) (rpV (hP.sub (ws' := [oX8 t_h t_a 0 t_taped t_at t_behind t_size t_kind t_number t_wrong t_wrongAt t_faultKind t_faultPlace t_x t_wayLong t_bothLeast, arI G (t_a 1) 558 t_all]) [0, 1] rfl) hK (ci := 8) (q0 := 0) rfl rfl) rfl rfl hl.1 rfl (lv_room (Nat.le_of_ble_eq_true rfl)) dX8_renewed_8 ⟨Nat.zero_le _, Nat.zero_le _⟩) hS hA hP (fun H locs hP hS => ?_)
  refine lv_if_eq (tgt := 24) hx hb dX8_renewed_11 (by decide) (fun c_3 => ?_) (fun c_3 => ?_)
  · have hf := ip c_3 hf
    refine lv_bipush (v := (-2)) hx hb dX8_renewed_24 (by decide) ?_
    exact hRet _ _ _ _ _ _ _ _ _ hf hP hS dX8_renewed_26
  · have hf := iq c_3 hf
    refine lv_iload_n hx hb dX8_renewed_14 rfl (lv_at hl 2 rfl) ?_
    refine lv_i2l hx hb dX8_renewed_15 rfl ?_
    refine lv_lconst (v := 0) hx hb dX8_renewed_16 (by decide) ?_
    refine lv_lconst (v := 1) hx hb dX8_renewed_17 (by decide) ?_
    obtain ⟨r_4, hc_5, hf⟩ := bd1_in hf
    refine rcI (va_runS (As := [.long (Int32.toInt64 v2), .long 0, .long 1]) (rest := []) ⟨hx, hb, hml, hown, hw⟩ ((ctX8_within l G (Int32.toInt64 v2) 0 1 _ hc_5) _) (kS hw calX8_within kw_14_2 rfl rfl ⟨Nat.le_of_ble_eq_true rfl, Nat.le_of_ble_eq_true rfl⟩) (rpS (hP.sub (ws' := []) [] rfl) hK) rfl rfl hl.1 rfl (lv_room (Nat.le_of_ble_eq_true rfl)) dX8_renewed_18 ⟨Nat.zero_le _, Nat.zero_le _⟩) hS hA hP (fun H locs hP hS => ?_)
    refine lv_if_ne (tgt := 27) hx hb dX8_renewed_21 (by decide) (fun c_6 => ?_) (fun c_6 => ?_)
    · have hf := iq c_6 hf
      refine lv_iload_n hx hb dX8_renewed_27 rfl (lv_at hl 1 rfl) ?_
      refine lv_bipush (v := 20) hx hb dX8_renewed_28 (by decide) ?_
      refine lv_idiv hx hb dX8_renewed_30 (by decide) ?_
      refine lv_topi (fun y_7 ey_7 => ?_)
      have hf := bnd_all hf y_7 ey_7
      refine lv_istore_n (lv' := [(3, .int y_7), (0, .ref t_h), (1, .int v1), (2, .int v2)]) hx hb dX8_renewed_31 rfl hl (by decide) rfl (fun ls hl => ?_)
      refine lv_iload_n hx hb dX8_renewed_32 rfl (lv_at hl 2 rfl) ?_
      refine lv_bipush (v := 20) hx hb dX8_renewed_33 (by decide) ?_
      refine lv_irem hx hb dX8_renewed_35 (by decide) ?_
      refine lv_topi (fun y_8 ey_8 => ?_)
      have hf := bnd_all hf y_8 ey_8
      refine lv_istore (lv' := [(4, .int y_8), (3, .int y_7), (0, .ref t_h), (1, .int v1), (2, .int v2)]) hx hb dX8_renewed_36 hl (by decide) rfl (fun ls hl => ?_)
      refine lv_aload_n hx hb dX8_renewed_38 rfl (lv_at hl 2 rfl) ?_
      refine lv_iload hx hb dX8_renewed_39 (lv_at hl 0 rfl) ?_
      refine lv_iconst (v := 0) hx hb dX8_renewed_41 (by decide) ?_
      refine lv_aload_n hx hb dX8_renewed_42 rfl (lv_at hl 2 rfl) ?_
      refine va_get (D := G.1) (ci := 8) (v := .ref (t_a 1)) (C := RX8) (T := TX8) (N := 33) hx hb hw inW8 hown hK.1 hP 0 rfl rfl 1 (by decide) (hw _ kw_5_11) (fun _ h9 => h9) rfl dX8_renewed_43 ?_
      refine lv_iconst (v := 1) hx hb dX8_renewed_46 (by decide) ?_
      obtain ⟨hi_10, hf⟩ := rdI_in hf
      refine va_iald hx hb hK.1 hP 1 0 rfl rfl hi_10 dX8_renewed_47 ?_
      refine lv_topi (fun x_9 ex_9 => ?_)
      have hf := hf x_9 ex_9
      obtain ⟨t_loss_11, t_hops_12, hc_13, hf⟩ := bd2_in hf
      refine wcV (w1 := [oX8 t_h t_a 0 t_taped t_at t_behind t_size t_kind t_number t_wrong t_wrongAt t_faultKind t_faultPlace t_x t_wayLong t_bothLeast, arI G (t_a 1) 558 t_all, arI G (t_a 16) 12 t_loss_11, arI G (t_a 17) 12 t_hops_12]) (va_runV (As := [.int y_8, .int 0, .int x_9]) (rest := []) ⟨hx, hb, hml, hown, hw⟩ ((ctX8_laysLoss l G t_h t_a 0 t_all t_taped t_at t_behind t_size t_kind t_number t_wrong t_wrongAt t_faultKind t_faultPlace t_x t_loss t_hops t_wayLong t_bothLeast y_8 0 x_9 _ _ hc_13) _) (kV hw calX8_laysLoss kw_30_4 rfl rfl ⟨Nat.le_of_ble_eq_true rfl, Nat.le_of_ble_eq_true rfl⟩) (wpV (hP.sub (ws' := [oX8 t_h t_a 0 t_taped t_at t_behind t_size t_kind t_number t_wrong t_wrongAt t_faultKind t_faultPlace t_x t_wayLong t_bothLeast, arI G (t_a 1) 558 t_all, arI G (t_a 16) 12 t_loss, arI G (t_a 17) 12 t_hops]) [0, 1, 2, 3] rfl) (hD.sub (ws' := [oX8 t_h t_a 0 t_taped t_at t_behind t_size t_kind t_number t_wrong t_wrongAt t_faultKind t_faultPlace t_x t_wayLong t_bothLeast, arI G (t_a 1) 558 t_all, arI G (t_a 16) 12 t_loss, arI G (t_a 17) 12 t_hops]) [0, 1, 2, 3] (by decide) rfl) hK (ci := 8) (q0 := 0) rfl rfl) rfl rfl hl.1 rfl (lv_room (Nat.le_of_ble_eq_true rfl)) dX8_renewed_48 ⟨Nat.zero_le _, Nat.zero_le _⟩) hS hA hP hD [0, 1, 2, 3] rfl rfl (fun H locs hP hD hS => ?_)
      have hP : va_P G.1 vwCl [oX8 t_h t_a 0 t_taped t_at t_behind t_size t_kind t_number t_wrong t_wrongAt t_faultKind t_faultPlace t_x t_wayLong t_bothLeast, arI G (t_a 1) 558 t_all, arI G (t_a 16) 12 t_loss_11, arI G (t_a 17) 12 t_hops_12] H := hP
      have hD : va_D A [oX8 t_h t_a 0 t_taped t_at t_behind t_size t_kind t_number t_wrong t_wrongAt t_faultKind t_faultPlace t_x t_wayLong t_bothLeast, arI G (t_a 1) 558 t_all, arI G (t_a 16) 12 t_loss_11, arI G (t_a 17) 12 t_hops_12] := hD
      refine lv_aload_n hx hb dX8_renewed_51 rfl (lv_at hl 2 rfl) ?_
      refine va_get (D := G.1) (ci := 8) (v := .ref (t_a 16)) (C := RX8) (T := TX8) (N := 33) hx hb hw inW8 hown hK.1 hP 0 rfl rfl 16 (by decide) (hw _ kw_5_16) (fun _ h9 => h9) rfl dX8_renewed_52 ?_
      refine lv_iload_n hx hb dX8_renewed_55 rfl (lv_at hl 1 rfl) ?_
      obtain ⟨hi_15, hf⟩ := rdI_in hf
      refine va_iald hx hb hK.1 hP 2 0 rfl rfl hi_15 dX8_renewed_56 ?_
      refine lv_topi (fun x_14 ex_14 => ?_)
      have hf := hf x_14 ex_14
      refine lv_istore (lv' := [(5, .int x_14), (4, .int y_8), (3, .int y_7), (0, .ref t_h), (1, .int v1), (2, .int v2)]) hx hb dX8_renewed_57 hl (by decide) rfl (fun ls hl => ?_)
      refine lv_iload hx hb dX8_renewed_59 (lv_at hl 0 rfl) ?_
      refine lv_ldc hx hb hown (hw _ kw_29_22) dX8_renewed_61 ?_
      refine lv_icmp_ne (tgt := 69) hx hb dX8_renewed_63 (by decide) (fun c_16 => ?_) (fun c_16 => ?_)
      · have hf := iq c_16 hf
        refine lv_iconst (v := 0) hx hb dX8_renewed_69 (by decide) ?_
        refine lv_istore (lv' := [(6, .int 0), (5, .int x_14), (4, .int y_8), (3, .int y_7), (0, .ref t_h), (1, .int v1), (2, .int v2)]) hx hb dX8_renewed_70 hl (by decide) rfl (fun ls hl => ?_)
        refine lv_iconst (v := (-1)) hx hb dX8_renewed_72 (by decide) ?_
        refine lv_istore (lv' := [(7, .int (-1)), (6, .int 0), (5, .int x_14), (4, .int y_8), (3, .int y_7), (0, .ref t_h), (1, .int v1), (2, .int v2)]) hx hb dX8_renewed_73 hl (by decide) rfl (fun ls hl => ?_)
        refine lv_iconst (v := 0) hx hb dX8_renewed_75 (by decide) ?_
        refine lv_istore (lv' := [(8, .int 0), (7, .int (-1)), (6, .int 0), (5, .int x_14), (4, .int y_8), (3, .int y_7), (0, .ref t_h), (1, .int v1), (2, .int v2)]) hx hb dX8_renewed_76 hl (by decide) rfl (fun ls hl => ?_)
        refine L78 _ _ _ _ _ _ _ _ _ _ _ _ _ _ _ hP hD hS (lv_sub hl [6, 8, 5, 4, 3, 2, 1, 0] rfl) hf (fun w_52 w_53 t_all_54 t_loss_55 t_hops_56 H locs ls hP hD hS hl hf => ?_)
        refine lv_iload_n hx hb dX8_renewed_232 rfl (lv_at hl 0 rfl) ?_
        refine lv_if_ne (tgt := 241) hx hb dX8_renewed_233 (by decide) (fun c_57 => ?_) (fun c_57 => ?_)
        · have hf := iq c_57 hf
          refine lv_iload hx hb dX8_renewed_241 (lv_at hl 2 rfl) ?_
          exact hRet _ _ _ _ _ _ _ _ _ hf hP hS dX8_renewed_243
        · have hf := ip c_57 hf
          refine lv_iload hx hb dX8_renewed_236 (lv_at hl 1 rfl) ?_
          refine lv_goto (tgt := 243) hx hb dX8_renewed_238 (by decide) ?_
          exact hRet _ _ _ _ _ _ _ _ _ hf hP hS dX8_renewed_243
      · have hf := ip c_16 hf
        refine lv_bipush (v := (-5)) hx hb dX8_renewed_66 (by decide) ?_
        exact hRet _ _ _ _ _ _ _ _ _ hf hP hS dX8_renewed_68
    · have hf := ip c_6 hf
      refine lv_bipush (v := (-2)) hx hb dX8_renewed_24 (by decide) ?_
      exact hRet _ _ _ _ _ _ _ _ _ hf hP hS dX8_renewed_26
theorem calX8_exchange : CalV yX8_exchange cX8_exchange 9 (some .int) 1 := ⟨⟨kw_38_8, kw_1_5, by decide +kernel⟩, kw_38_6, kw_38_7⟩
set_option maxHeartbeats 8000000 in
set_option maxRecDepth 100000 in
theorem ctX8_exchange (l : Launch) (G : GT) (t_h : Nat) (t_a : Nat → Nat) (t_thrown : Int32) (t_all : Nat → Int32) (t_taped : Int32) (t_at : Int32) (t_behind : Int32) (t_size : Int32) (t_kind : Int32) (t_number : Int32) (t_wrong : Int32) (t_wrongAt : Int32) (t_faultKind : Int32) (t_faultPlace : Int32) (t_x : Int32) (t_loss : Nat → Int32) (t_hops : Nat → Int32) (t_wayLong : Int32) (t_bothLeast : Int32) (v1 : Int32) (r : Int32) (o_t_thrown : Int32) (o_t_loss : Nat → Int32) (o_t_hops : Nat → Int32) (hf : fX8_exchange t_thrown t_all t_loss t_hops v1 = some (r, o_t_thrown, o_t_loss, o_t_hops)) : WrI l yX8_exchange (Cond.code yX8_exchange cX8_exchange 9 (some .int)) { frames := 5, cells := 0, slots := 0, locals := 121 } G [.ref t_h, .int v1] [oX8 t_h t_a t_thrown t_taped t_at t_behind t_size t_kind t_number t_wrong t_wrongAt t_faultKind t_faultPlace t_x t_wayLong t_bothLeast, arI G (t_a 1) 558 t_all, arI G (t_a 16) 12 t_loss, arI G (t_a 17) 12 t_hops] [oX8 t_h t_a o_t_thrown t_taped t_at t_behind t_size t_kind t_number t_wrong t_wrongAt t_faultKind t_faultPlace t_x t_wayLong t_bothLeast, arI G (t_a 1) 558 t_all, arI G (t_a 16) 12 o_t_loss, arI G (t_a 17) 12 o_t_hops] r := by
  intro sz
  refine Met.ofW (cc := cX8_exchange) (maxL := 9) (ret := (some .int)) (by decide) rfl ?_
  intro p e s m args below meth c s₁ B hml hv
  obtain ⟨hargs, hsz, hP, hD0, hK⟩ := hv
  subst hsz
  obtain ⟨hx, hb, hr, hw, hown, hlk⟩ := fwB B
  refine fw_enter hargs (Nat.le_of_ble_eq_true rfl) (fun ls hl => ?_)
  have hl : lv_has ls 9 [(0, .ref t_h), (1, .int v1)] := hl
  refine fw_Q (P := fun Q => ∃ A : Nat → Prop, va_D A [oX8 t_h t_a t_thrown t_taped t_at t_behind t_size t_kind t_number t_wrong t_wrongAt t_faultKind t_faultPlace t_x t_wayLong t_bothLeast, arI G (t_a 1) 558 t_all, arI G (t_a 16) 12 t_loss, arI G (t_a 17) 12 t_hops] ∧ va_S A s.heap s.heap [] ∧ (∀ q, s.heap.size ≤ q → A q) ∧ ∀ (v : Int32) (n_t_thrown : Int32) (n_t_loss : Nat → Int32) (n_t_hops : Nat → Int32) (H : Heap) (locs : List Loc) (pc : Nat) (ls : Array Slot), some (v, n_t_thrown, n_t_loss, n_t_hops) = some (r, o_t_thrown, o_t_loss, o_t_hops) → va_P G.1 vwCl [oX8 t_h t_a n_t_thrown t_taped t_at t_behind t_size t_kind t_number t_wrong t_wrongAt t_faultKind t_faultPlace t_x t_wayLong t_bothLeast, arI G (t_a 1) 558 t_all, arI G (t_a 16) 12 n_t_loss, arI G (t_a 17) 12 n_t_hops] H → va_S A s.heap H locs → decode cX8_exchange pc = .ok (.ireturn, 1) → W p l e ({ frames := 5, cells := 0, slots := 0, locals := 121 } : Room) s m args below meth c H locs 0 0 Q (F0 m pc ls [.int v])) ⟨va_A [oX8 t_h t_a t_thrown t_taped t_at t_behind t_size t_kind t_number t_wrong t_wrongAt t_faultKind t_faultPlace t_x t_wayLong t_bothLeast, arI G (t_a 1) 558 t_all, arI G (t_a 16) 12 t_loss, arI G (t_a 17) 12 t_hops] s.heap.size, hD0.self (sz := s.heap.size), va_S.rf, fun q h => Or.inr h, ?_⟩ ?_
  · intro v n_t_thrown n_t_loss n_t_hops H locs pc ls h hP hS hd
    cases h
    exact retWI hx hb hr hlk hS hP rfl hd
  rintro Q ⟨A, hD, hS, hA, hRet⟩
  change W p l e ({ frames := 5, cells := 0, slots := 0, locals := 121 } : Room) s m args below meth c _ _ 0 0 Q _
  have L63 : ∀ (l2 : Int32) (l3 : Int32) (l4 : Int32) (l5 : Int32) (t_thrown : Int32) (t_loss : Nat → Int32) (t_hops : Nat → Int32) (K : Int32 → Int32 → Option (Int32 × Int32 × (Nat → Int32) × (Nat → Int32))) (n : Nat) (l6 : Int32) (l7 : Int32) (l8 : Int32) (H : Heap) (locs : List Loc) (ls : Array Slot), va_P G.1 vwCl [oX8 t_h t_a t_thrown t_taped t_at t_behind t_size t_kind t_number t_wrong t_wrongAt t_faultKind t_faultPlace t_x t_wayLong t_bothLeast, arI G (t_a 1) 558 t_all, arI G (t_a 16) 12 t_loss, arI G (t_a 17) 12 t_hops] H → va_D A [oX8 t_h t_a t_thrown t_taped t_at t_behind t_size t_kind t_number t_wrong t_wrongAt t_faultKind t_faultPlace t_x t_wayLong t_bothLeast, arI G (t_a 1) 558 t_all, arI G (t_a 16) 12 t_loss, arI G (t_a 17) 12 t_hops] → va_S A s.heap H locs → lv_has ls 9 [(0, .ref t_h), (1, .int v1), (2, .int l2), (3, .int l3), (4, .int l4), (5, .int l5), (6, .int l6), (7, .int l7), (8, .int l8)] → fX8_exchange_63 l5 t_all t_loss K n l6 l7 l8 = some (r, o_t_thrown, o_t_loss, o_t_hops) → (∀ (k6 : Int32) (k7 : Int32) (H : Heap) (locs : List Loc) (ls : Array Slot), va_P G.1 vwCl [oX8 t_h t_a t_thrown t_taped t_at t_behind t_size t_kind t_number t_wrong t_wrongAt t_faultKind t_faultPlace t_x t_wayLong t_bothLeast, arI G (t_a 1) 558 t_all, arI G (t_a 16) 12 t_loss, arI G (t_a 17) 12 t_hops] H → va_D A [oX8 t_h t_a t_thrown t_taped t_at t_behind t_size t_kind t_number t_wrong t_wrongAt t_faultKind t_faultPlace t_x t_wayLong t_bothLeast, arI G (t_a 1) 558 t_all, arI G (t_a 16) 12 t_loss, arI G (t_a 17) 12 t_hops] → va_S A s.heap H locs → lv_has ls 9 [(0, .ref t_h), (1, .int v1), (2, .int l2), (3, .int l3), (4, .int l4), (5, .int l5), (6, .int k6), (7, .int k7)] → K k6 k7 = some (r, o_t_thrown, o_t_loss, o_t_hops) → W p l e ({ frames := 5, cells := 0, slots := 0, locals := 121 } : Room) s m args below meth c H locs 0 0 Q (F0 m 121 ls [])) → W p l e ({ frames := 5, cells := 0, slots := 0, locals := 121 } : Room) s m args below meth c H locs 0 0 Q (F0 m 63 ls []) := by
    intro l2 l3 l4 l5 t_thrown t_loss t_hops K n
    induction n with
    | zero => intro l6 l7 l8 H locs ls hP hD hS hl hf; rw [fX8_exchange_63] at hf; cases hf
    | succ n ih =>
      intro l6 l7 l8 H locs ls hP hD hS hl hf hX
      rw [fX8_exchange_63] at hf
      refine lv_iload hx hb dX8_exchange_63 (lv_at hl 8 rfl) ?_
      refine lv_aload_n hx hb dX8_exchange_65 rfl (lv_at hl 0 rfl) ?_
      refine va_get (D := G.1) (ci := 8) (v := .ref (t_a 1)) (C := RX8) (T := TX8) (N := 33) hx hb hw inW8 hown hK.1 hP 0 rfl rfl 1 (by decide) (hw _ kw_5_11) (fun _ h9 => h9) rfl dX8_exchange_66 ?_
      refine lv_iconst (v := 0) hx hb dX8_exchange_69 (by decide) ?_
      obtain ⟨hi_13, hf⟩ := rdI_in hf
      refine va_iald hx hb hK.1 hP 1 0 rfl rfl hi_13 dX8_exchange_70 ?_
      refine lv_topi (fun x_12 ex_12 => ?_)
      have hf := hf x_12 ex_12
      refine lv_icmp_ge (tgt := 121) hx hb dX8_exchange_71 (by decide) (fun c_14 => ?_) (fun c_14 => ?_)
      · have hf := ip c_14 hf
        exact hX _ _ _ _ _ hP hD hS (lv_sub hl [0, 1, 2, 3, 4, 5, 6, 7] rfl) hf
      · have hf := iq c_14 hf
        refine lv_iload hx hb dX8_exchange_74 (lv_at hl 8 rfl) ?_
        refine lv_iload hx hb dX8_exchange_76 (lv_at hl 5 rfl) ?_
        refine lv_icmp_eq (tgt := 115) hx hb dX8_exchange_78 (by decide) (fun c_15 => ?_) (fun c_15 => ?_)
        · have hf := ip c_15 hf
          refine lv_iinc (v := (l8 + 1)) (lv' := [(8, .int (l8 + 1)), (0, .ref t_h), (1, .int v1), (2, .int l2), (3, .int l3), (4, .int l4), (5, .int l5), (6, .int l6), (7, .int l7)]) hx hb dX8_exchange_115 hl (k := 8) rfl (by rfl) (by decide) rfl (fun ls hl => ?_)
          refine lv_goto (tgt := 63) hx hb dX8_exchange_118 (by decide) ?_
          exact ih _ _ _ _ _ _ hP hD hS (lv_sub hl [1, 2, 3, 4, 5, 6, 7, 8, 0] rfl) hf hX
        · have hf := iq c_15 hf
          refine lv_aload_n hx hb dX8_exchange_81 rfl (lv_at hl 0 rfl) ?_
          refine va_get (D := G.1) (ci := 8) (v := .ref (t_a 16)) (C := RX8) (T := TX8) (N := 33) hx hb hw inW8 hown hK.1 hP 0 rfl rfl 16 (by decide) (hw _ kw_5_16) (fun _ h9 => h9) rfl dX8_exchange_82 ?_
          refine lv_iload hx hb dX8_exchange_85 (lv_at hl 8 rfl) ?_
          obtain ⟨hi_17, hf⟩ := rdI_in hf
          refine va_iald hx hb hK.1 hP 2 0 rfl rfl hi_17 dX8_exchange_87 ?_
          refine lv_topi (fun x_16 ex_16 => ?_)
          have hf := hf x_16 ex_16
          refine lv_aload_n hx hb dX8_exchange_88 rfl (lv_at hl 0 rfl) ?_
          refine va_get (D := G.1) (ci := 8) (v := .ref (t_a 1)) (C := RX8) (T := TX8) (N := 33) hx hb hw inW8 hown hK.1 hP 0 rfl rfl 1 (by decide) (hw _ kw_5_11) (fun _ h9 => h9) rfl dX8_exchange_89 ?_
          refine lv_iconst (v := 3) hx hb dX8_exchange_92 (by decide) ?_
          obtain ⟨hi_19, hf⟩ := rdI_in hf
          refine va_iald hx hb hK.1 hP 1 0 rfl rfl hi_19 dX8_exchange_93 ?_
          refine lv_topi (fun x_18 ex_18 => ?_)
          have hf := hf x_18 ex_18
          refine lv_icmp_le (tgt := 100) hx hb dX8_exchange_94 (by decide) (fun c_20 => ?_) (fun c_20 => ?_)
          · have hf := ip c_20 hf
            refine lv_iinc (v := (l6 + 1)) (lv' := [(6, .int (l6 + 1)), (0, .ref t_h), (1, .int v1), (2, .int l2), (3, .int l3), (4, .int l4), (5, .int l5), (7, .int l7), (8, .int l8)]) hx hb dX8_exchange_100 hl (k := 6) rfl (by rfl) (by decide) rfl (fun ls hl => ?_)
            refine lv_iload hx hb dX8_exchange_103 (lv_at hl 7 rfl) ?_
            refine lv_aload_n hx hb dX8_exchange_105 rfl (lv_at hl 1 rfl) ?_
            refine va_get (D := G.1) (ci := 8) (v := .ref (t_a 16)) (C := RX8) (T := TX8) (N := 33) hx hb hw inW8 hown hK.1 hP 0 rfl rfl 16 (by decide) (hw _ kw_5_16) (fun _ h9 => h9) rfl dX8_exchange_106 ?_
            refine lv_iload hx hb dX8_exchange_109 (lv_at hl 8 rfl) ?_
            obtain ⟨hi_22, hf⟩ := rdI_in hf
            refine va_iald hx hb hK.1 hP 2 0 rfl rfl hi_22 dX8_exchange_111 ?_
            refine lv_topi (fun x_21 ex_21 => ?_)
            have hf := hf x_21 ex_21
            refine lv_iadd hx hb dX8_exchange_112 ?_
            refine lv_topi (fun y_23 ey_23 => ?_)
            have hf := bnd_all hf y_23 ey_23
            refine lv_istore (lv' := [(7, .int y_23), (6, .int (l6 + 1)), (0, .ref t_h), (1, .int v1), (2, .int l2), (3, .int l3), (4, .int l4), (5, .int l5), (8, .int l8)]) hx hb dX8_exchange_113 hl (by decide) rfl (fun ls hl => ?_)
            refine lv_iinc (v := (l8 + 1)) (lv' := [(8, .int (l8 + 1)), (7, .int y_23), (6, .int (l6 + 1)), (0, .ref t_h), (1, .int v1), (2, .int l2), (3, .int l3), (4, .int l4), (5, .int l5)]) hx hb dX8_exchange_115 hl (k := 8) rfl (by rfl) (by decide) rfl (fun ls hl => ?_)
            refine lv_goto (tgt := 63) hx hb dX8_exchange_118 (by decide) ?_
            exact ih _ _ _ _ _ _ hP hD hS (lv_sub hl [3, 4, 5, 6, 7, 8, 2, 1, 0] rfl) hf hX
          · have hf := iq c_20 hf
            refine lv_goto (tgt := 115) hx hb dX8_exchange_97 (by decide) ?_
            refine lv_iinc (v := (l8 + 1)) (lv' := [(8, .int (l8 + 1)), (0, .ref t_h), (1, .int v1), (2, .int l2), (3, .int l3), (4, .int l4), (5, .int l5), (6, .int l6), (7, .int l7)]) hx hb dX8_exchange_115 hl (k := 8) rfl (by rfl) (by decide) rfl (fun ls hl => ?_)
            refine lv_goto (tgt := 63) hx hb dX8_exchange_118 (by decide) ?_
            exact ih _ _ _ _ _ _ hP hD hS (lv_sub hl [1, 2, 3, 4, 5, 6, 7, 8, 0] rfl) hf hX
  have L30 : ∀ (t_thrown : Int32) (K : Int32 → Int32 → Int32 → (Nat → Int32) → (Nat → Int32) → Option (Int32 × Int32 × (Nat → Int32) × (Nat → Int32))) (n : Nat) (l2 : Int32) (l3 : Int32) (l4 : Int32) (l5 : Int32) (t_loss : Nat → Int32) (t_hops : Nat → Int32) (H : Heap) (locs : List Loc) (ls : Array Slot), va_P G.1 vwCl [oX8 t_h t_a t_thrown t_taped t_at t_behind t_size t_kind t_number t_wrong t_wrongAt t_faultKind t_faultPlace t_x t_wayLong t_bothLeast, arI G (t_a 1) 558 t_all, arI G (t_a 16) 12 t_loss, arI G (t_a 17) 12 t_hops] H → va_D A [oX8 t_h t_a t_thrown t_taped t_at t_behind t_size t_kind t_number t_wrong t_wrongAt t_faultKind t_faultPlace t_x t_wayLong t_bothLeast, arI G (t_a 1) 558 t_all, arI G (t_a 16) 12 t_loss, arI G (t_a 17) 12 t_hops] → va_S A s.heap H locs → lv_has ls 9 [(0, .ref t_h), (1, .int v1), (2, .int l2), (3, .int l3), (4, .int l4), (5, .int l5)] → fX8_exchange_30 t_all K n l2 l3 l4 l5 t_loss t_hops = some (r, o_t_thrown, o_t_loss, o_t_hops) → (∀ (k2 : Int32) (k3 : Int32) (k4 : Int32) (kt_loss : Nat → Int32) (kt_hops : Nat → Int32) (H : Heap) (locs : List Loc) (ls : Array Slot), va_P G.1 vwCl [oX8 t_h t_a t_thrown t_taped t_at t_behind t_size t_kind t_number t_wrong t_wrongAt t_faultKind t_faultPlace t_x t_wayLong t_bothLeast, arI G (t_a 1) 558 t_all, arI G (t_a 16) 12 kt_loss, arI G (t_a 17) 12 kt_hops] H → va_D A [oX8 t_h t_a t_thrown t_taped t_at t_behind t_size t_kind t_number t_wrong t_wrongAt t_faultKind t_faultPlace t_x t_wayLong t_bothLeast, arI G (t_a 1) 558 t_all, arI G (t_a 16) 12 kt_loss, arI G (t_a 17) 12 kt_hops] → va_S A s.heap H locs → lv_has ls 9 [(1, .int v1), (2, .int k2), (3, .int k3), (4, .int k4)] → K k2 k3 k4 kt_loss kt_hops = some (r, o_t_thrown, o_t_loss, o_t_hops) → W p l e ({ frames := 5, cells := 0, slots := 0, locals := 121 } : Room) s m args below meth c H locs 0 0 Q (F0 m 164 ls [])) → W p l e ({ frames := 5, cells := 0, slots := 0, locals := 121 } : Room) s m args below meth c H locs 0 0 Q (F0 m 30 ls []) := by
    intro t_thrown K n
    induction n with
    | zero => intro l2 l3 l4 l5 t_loss t_hops H locs ls hP hD hS hl hf; rw [fX8_exchange_30] at hf; cases hf
    | succ n ih =>
      intro l2 l3 l4 l5 t_loss t_hops H locs ls hP hD hS hl hf hX
      rw [fX8_exchange_30] at hf
      refine lv_iload hx hb dX8_exchange_30 (lv_at hl 5 rfl) ?_
      refine lv_aload_n hx hb dX8_exchange_32 rfl (lv_at hl 0 rfl) ?_
      refine va_get (D := G.1) (ci := 8) (v := .ref (t_a 1)) (C := RX8) (T := TX8) (N := 33) hx hb hw inW8 hown hK.1 hP 0 rfl rfl 1 (by decide) (hw _ kw_5_11) (fun _ h9 => h9) rfl dX8_exchange_33 ?_
      refine lv_iconst (v := 0) hx hb dX8_exchange_36 (by decide) ?_
      obtain ⟨hi_5, hf⟩ := rdI_in hf
      refine va_iald hx hb hK.1 hP 1 0 rfl rfl hi_5 dX8_exchange_37 ?_
      refine lv_topi (fun x_4 ex_4 => ?_)
      have hf := hf x_4 ex_4
      refine lv_icmp_ge (tgt := 164) hx hb dX8_exchange_38 (by decide) (fun c_6 => ?_) (fun c_6 => ?_)
      · have hf := ip c_6 hf
        exact hX _ _ _ _ _ _ _ _ hP hD hS (lv_sub hl [1, 2, 3, 4] rfl) hf
      · have hf := iq c_6 hf
        refine lv_aload_n hx hb dX8_exchange_41 rfl (lv_at hl 0 rfl) ?_
        refine lv_iload hx hb dX8_exchange_42 (lv_at hl 5 rfl) ?_
        refine lv_iconst (v := 0) hx hb dX8_exchange_44 (by decide) ?_
        refine lv_aload_n hx hb dX8_exchange_45 rfl (lv_at hl 0 rfl) ?_
        refine va_get (D := G.1) (ci := 8) (v := .ref (t_a 1)) (C := RX8) (T := TX8) (N := 33) hx hb hw inW8 hown hK.1 hP 0 rfl rfl 1 (by decide) (hw _ kw_5_11) (fun _ h9 => h9) rfl dX8_exchange_46 ?_
        refine lv_iconst (v := 1) hx hb dX8_exchange_49 (by decide) ?_
        obtain ⟨hi_8, hf⟩ := rdI_in hf
        refine va_iald hx hb hK.1 hP 1 0 rfl rfl hi_8 dX8_exchange_50 ?_
        refine lv_topi (fun x_7 ex_7 => ?_)
        have hf := hf x_7 ex_7
        obtain ⟨t_loss_9, t_hops_10, hc_11, hf⟩ := bd2_in hf
        refine wcV (w1 := [oX8 t_h t_a t_thrown t_taped t_at t_behind t_size t_kind t_number t_wrong t_wrongAt t_faultKind t_faultPlace t_x t_wayLong t_bothLeast, arI G (t_a 1) 558 t_all, arI G (t_a 16) 12 t_loss_9, arI G (t_a 17) 12 t_hops_10]) (va_runV (As := [.int l5, .int 0, .int x_7]) (rest := []) ⟨hx, hb, hml, hown, hw⟩ ((ctX8_laysLoss l G t_h t_a t_thrown t_all t_taped t_at t_behind t_size t_kind t_number t_wrong t_wrongAt t_faultKind t_faultPlace t_x t_loss t_hops t_wayLong t_bothLeast l5 0 x_7 _ _ hc_11) _) (kV hw calX8_laysLoss kw_30_4 rfl rfl ⟨Nat.le_of_ble_eq_true rfl, Nat.le_of_ble_eq_true rfl⟩) (wpV (hP.sub (ws' := [oX8 t_h t_a t_thrown t_taped t_at t_behind t_size t_kind t_number t_wrong t_wrongAt t_faultKind t_faultPlace t_x t_wayLong t_bothLeast, arI G (t_a 1) 558 t_all, arI G (t_a 16) 12 t_loss, arI G (t_a 17) 12 t_hops]) [0, 1, 2, 3] rfl) (hD.sub (ws' := [oX8 t_h t_a t_thrown t_taped t_at t_behind t_size t_kind t_number t_wrong t_wrongAt t_faultKind t_faultPlace t_x t_wayLong t_bothLeast, arI G (t_a 1) 558 t_all, arI G (t_a 16) 12 t_loss, arI G (t_a 17) 12 t_hops]) [0, 1, 2, 3] (by decide) rfl) hK (ci := 8) (q0 := 0) rfl rfl) rfl rfl hl.1 rfl (lv_room (Nat.le_of_ble_eq_true rfl)) dX8_exchange_51 ⟨Nat.zero_le _, Nat.zero_le _⟩) hS hA hP hD [0, 1, 2, 3] rfl rfl (fun H locs hP hD hS => ?_)
        have hP : va_P G.1 vwCl [oX8 t_h t_a t_thrown t_taped t_at t_behind t_size t_kind t_number t_wrong t_wrongAt t_faultKind t_faultPlace t_x t_wayLong t_bothLeast, arI G (t_a 1) 558 t_all, arI G (t_a 16) 12 t_loss_9, arI G (t_a 17) 12 t_hops_10] H := hP
        have hD : va_D A [oX8 t_h t_a t_thrown t_taped t_at t_behind t_size t_kind t_number t_wrong t_wrongAt t_faultKind t_faultPlace t_x t_wayLong t_bothLeast, arI G (t_a 1) 558 t_all, arI G (t_a 16) 12 t_loss_9, arI G (t_a 17) 12 t_hops_10] := hD
        refine lv_iconst (v := 0) hx hb dX8_exchange_54 (by decide) ?_
        refine lv_istore (lv' := [(6, .int 0), (0, .ref t_h), (1, .int v1), (2, .int l2), (3, .int l3), (4, .int l4), (5, .int l5)]) hx hb dX8_exchange_55 hl (by decide) rfl (fun ls hl => ?_)
        refine lv_iconst (v := 0) hx hb dX8_exchange_57 (by decide) ?_
        refine lv_istore (lv' := [(7, .int 0), (6, .int 0), (0, .ref t_h), (1, .int v1), (2, .int l2), (3, .int l3), (4, .int l4), (5, .int l5)]) hx hb dX8_exchange_58 hl (by decide) rfl (fun ls hl => ?_)
        refine lv_iconst (v := 0) hx hb dX8_exchange_60 (by decide) ?_
        refine lv_istore (lv' := [(8, .int 0), (7, .int 0), (6, .int 0), (0, .ref t_h), (1, .int v1), (2, .int l2), (3, .int l3), (4, .int l4), (5, .int l5)]) hx hb dX8_exchange_61 hl (by decide) rfl (fun ls hl => ?_)
        refine L63 _ _ _ _ _ _ _ _ _ _ _ _ _ _ _ hP hD hS (lv_sub hl [3, 4, 5, 6, 7, 8, 2, 1, 0] rfl) hf (fun w_24 w_25 H locs ls hP hD hS hl hf => ?_)
        refine lv_iload_n hx hb dX8_exchange_121 rfl (lv_at hl 2 rfl) ?_
        refine lv_iconst (v := (-1)) hx hb dX8_exchange_122 (by decide) ?_
        refine jn_el hf (fun k_26 ek_26 hf => ?_)
        have J148 : ∀  (H : Heap) (locs : List Loc) (ls : Array Slot), va_P G.1 vwCl [oX8 t_h t_a t_thrown t_taped t_at t_behind t_size t_kind t_number t_wrong t_wrongAt t_faultKind t_faultPlace t_x t_wayLong t_bothLeast, arI G (t_a 1) 558 t_all, arI G (t_a 16) 12 t_loss_9, arI G (t_a 17) 12 t_hops_10] H → va_D A [oX8 t_h t_a t_thrown t_taped t_at t_behind t_size t_kind t_number t_wrong t_wrongAt t_faultKind t_faultPlace t_x t_wayLong t_bothLeast, arI G (t_a 1) 558 t_all, arI G (t_a 16) 12 t_loss_9, arI G (t_a 17) 12 t_hops_10] → va_S A s.heap H locs → lv_has ls 9 [(0, .ref t_h), (1, .int v1), (5, .int l5), (6, .int w_24), (7, .int w_25)] → k_26 = some (r, o_t_thrown, o_t_loss, o_t_hops) → W p l e ({ frames := 5, cells := 0, slots := 0, locals := 121 } : Room) s m args below meth c H locs 0 0 Q (F0 m 148 ls []) := by
          intro  H locs ls hP hD hS hl hf
          rw [ek_26] at hf
          refine lv_iload hx hb dX8_exchange_148 (lv_at hl 2 rfl) ?_
          refine lv_istore_n (lv' := [(2, .int l5), (0, .ref t_h), (1, .int v1), (5, .int l5), (6, .int w_24), (7, .int w_25)]) hx hb dX8_exchange_150 rfl hl (by decide) rfl (fun ls hl => ?_)
          refine lv_iload hx hb dX8_exchange_151 (lv_at hl 4 rfl) ?_
          refine lv_istore_n (lv' := [(3, .int w_24), (2, .int l5), (0, .ref t_h), (1, .int v1), (5, .int l5), (6, .int w_24), (7, .int w_25)]) hx hb dX8_exchange_153 rfl hl (by decide) rfl (fun ls hl => ?_)
          refine lv_iload hx hb dX8_exchange_154 (lv_at hl 6 rfl) ?_
          refine lv_istore (lv' := [(4, .int w_25), (3, .int w_24), (2, .int l5), (0, .ref t_h), (1, .int v1), (5, .int l5), (6, .int w_24), (7, .int w_25)]) hx hb dX8_exchange_156 hl (by decide) rfl (fun ls hl => ?_)
          refine lv_iinc (v := (l5 + 1)) (lv' := [(5, .int (l5 + 1)), (4, .int w_25), (3, .int w_24), (2, .int l5), (0, .ref t_h), (1, .int v1), (6, .int w_24), (7, .int w_25)]) hx hb dX8_exchange_158 hl (k := 5) rfl (by rfl) (by decide) rfl (fun ls hl => ?_)
          refine lv_goto (tgt := 30) hx hb dX8_exchange_161 (by decide) ?_
          exact ih _ _ _ _ _ _ _ _ _ hP hD hS (lv_sub hl [4, 5, 3, 2, 1, 0] rfl) hf hX
        refine lv_icmp_eq (tgt := 148) hx hb dX8_exchange_123 (by decide) (fun c_27 => ?_) (fun c_27 => ?_)
        · have hf := ip c_27 hf
          exact J148  _ _ _ hP hD hS (lv_sub hl [0, 1, 5, 6, 7] rfl) hf
        · have hf := iq c_27 hf
          refine lv_iload hx hb dX8_exchange_126 (lv_at hl 6 rfl) ?_
          refine lv_iload_n hx hb dX8_exchange_128 rfl (lv_at hl 3 rfl) ?_
          refine lv_icmp_lt (tgt := 158) hx hb dX8_exchange_129 (by decide) (fun c_28 => ?_) (fun c_28 => ?_)
          · have hf := ip c_28 hf
            refine lv_iinc (v := (l5 + 1)) (lv' := [(5, .int (l5 + 1)), (0, .ref t_h), (1, .int v1), (2, .int l2), (3, .int l3), (4, .int l4), (6, .int w_24), (7, .int w_25)]) hx hb dX8_exchange_158 hl (k := 5) rfl (by rfl) (by decide) rfl (fun ls hl => ?_)
            refine lv_goto (tgt := 30) hx hb dX8_exchange_161 (by decide) ?_
            exact ih _ _ _ _ _ _ _ _ _ hP hD hS (lv_sub hl [1, 2, 3, 4, 5, 0] rfl) hf hX
          · have hf := iq c_28 hf
            refine lv_iload hx hb dX8_exchange_132 (lv_at hl 6 rfl) ?_
            refine lv_iload_n hx hb dX8_exchange_134 rfl (lv_at hl 3 rfl) ?_
            refine lv_icmp_ne (tgt := 148) hx hb dX8_exchange_135 (by decide) (fun c_29 => ?_) (fun c_29 => ?_)
            · have hf := iq c_29 hf
              exact J148  _ _ _ hP hD hS (lv_sub hl [0, 1, 5, 6, 7] rfl) hf
            · have hf := ip c_29 hf
              refine lv_iload hx hb dX8_exchange_138 (lv_at hl 7 rfl) ?_
              refine lv_iload hx hb dX8_exchange_140 (lv_at hl 4 rfl) ?_
              refine lv_icmp_lt (tgt := 148) hx hb dX8_exchange_142 (by decide) (fun c_30 => ?_) (fun c_30 => ?_)
              · have hf := ip c_30 hf
                exact J148  _ _ _ hP hD hS (lv_sub hl [0, 1, 5, 6, 7] rfl) hf
              · have hf := iq c_30 hf
                refine lv_goto (tgt := 158) hx hb dX8_exchange_145 (by decide) ?_
                refine lv_iinc (v := (l5 + 1)) (lv' := [(5, .int (l5 + 1)), (0, .ref t_h), (1, .int v1), (2, .int l2), (3, .int l3), (4, .int l4), (6, .int w_24), (7, .int w_25)]) hx hb dX8_exchange_158 hl (k := 5) rfl (by rfl) (by decide) rfl (fun ls hl => ?_)
                refine lv_goto (tgt := 30) hx hb dX8_exchange_161 (by decide) ?_
                exact ih _ _ _ _ _ _ _ _ _ hP hD hS (lv_sub hl [1, 2, 3, 4, 5, 0] rfl) hf hX
  unfold fX8_exchange at hf
  refine lv_aload_n hx hb dX8_exchange_0 rfl (lv_at hl 0 rfl) ?_
  refine lv_iconst (v := 0) hx hb dX8_exchange_1 (by decide) ?_
  refine va_put (D := G.1) (ci := 8) (v := .int 0) (ty := .int) (C := RX8) (T := TX8) (N := 33) hx hb hw inW8 tyX8 tyX8_ok nmX8 hown hK.1 hP hD hS 0 rfl rfl 0 (by decide) (hw _ kw_6_21) (fun _ h9 => h9) rfl (by decide +kernel) rfl rfl (Nat.le_of_ble_eq_true rfl) dX8_exchange_2 (fun H locs hP hD hS => ?_)
  have hP : va_P G.1 vwCl [oX8 t_h t_a 0 t_taped t_at t_behind t_size t_kind t_number t_wrong t_wrongAt t_faultKind t_faultPlace t_x t_wayLong t_bothLeast, arI G (t_a 1) 558 t_all, arI G (t_a 16) 12 t_loss, arI G (t_a 17) 12 t_hops] H := hP
  have hD : va_D A [oX8 t_h t_a 0 t_taped t_at t_behind t_size t_kind t_number t_wrong t_wrongAt t_faultKind t_faultPlace t_x t_wayLong t_bothLeast, arI G (t_a 1) 558 t_all, arI G (t_a 16) 12 t_loss, arI G (t_a 17) 12 t_hops] := hD
  refine lv_iload_n hx hb dX8_exchange_5 rfl (lv_at hl 1 rfl) ?_
  refine lv_i2l hx hb dX8_exchange_6 rfl ?_
  refine lv_lconst (v := 0) hx hb dX8_exchange_7 (by decide) ?_
  refine lv_ldc2 hx hb hown (hw _ kw_38_9) dX8_exchange_8 ?_
  obtain ⟨r_1, hc_2, hf⟩ := bd1_in hf
  refine rcI (va_runS (As := [.long (Int32.toInt64 v1), .long 0, .long 2]) (rest := []) ⟨hx, hb, hml, hown, hw⟩ ((ctX8_within l G (Int32.toInt64 v1) 0 2 _ hc_2) _) (kS hw calX8_within kw_14_2 rfl rfl ⟨Nat.le_of_ble_eq_true rfl, Nat.le_of_ble_eq_true rfl⟩) (rpS (hP.sub (ws' := []) [] rfl) hK) rfl rfl hl.1 rfl (lv_room (Nat.le_of_ble_eq_true rfl)) dX8_exchange_11 ⟨Nat.zero_le _, Nat.zero_le _⟩) hS hA hP (fun H locs hP hS => ?_)
  refine lv_if_ne (tgt := 20) hx hb dX8_exchange_14 (by decide) (fun c_3 => ?_) (fun c_3 => ?_)
  · have hf := iq c_3 hf
    refine lv_iconst (v := (-1)) hx hb dX8_exchange_20 (by decide) ?_
    refine lv_istore_n (lv' := [(2, .int (-1)), (0, .ref t_h), (1, .int v1)]) hx hb dX8_exchange_21 rfl hl (by decide) rfl (fun ls hl => ?_)
    refine lv_iconst (v := 0) hx hb dX8_exchange_22 (by decide) ?_
    refine lv_istore_n (lv' := [(3, .int 0), (2, .int (-1)), (0, .ref t_h), (1, .int v1)]) hx hb dX8_exchange_23 rfl hl (by decide) rfl (fun ls hl => ?_)
    refine lv_iconst (v := 0) hx hb dX8_exchange_24 (by decide) ?_
    refine lv_istore (lv' := [(4, .int 0), (3, .int 0), (2, .int (-1)), (0, .ref t_h), (1, .int v1)]) hx hb dX8_exchange_25 hl (by decide) rfl (fun ls hl => ?_)
    refine lv_iconst (v := 0) hx hb dX8_exchange_27 (by decide) ?_
    refine lv_istore (lv' := [(5, .int 0), (4, .int 0), (3, .int 0), (2, .int (-1)), (0, .ref t_h), (1, .int v1)]) hx hb dX8_exchange_28 hl (by decide) rfl (fun ls hl => ?_)
    refine L30 _ _ _ _ _ _ _ _ _ _ _ _ hP hD hS (lv_sub hl [4, 5, 3, 2, 1, 0] rfl) hf (fun w_31 w_32 w_33 t_loss_34 t_hops_35 H locs ls hP hD hS hl hf => ?_)
    refine lv_iload_n hx hb dX8_exchange_164 rfl (lv_at hl 1 rfl) ?_
    refine lv_iconst (v := (-1)) hx hb dX8_exchange_165 (by decide) ?_
    refine lv_icmp_eq (tgt := 173) hx hb dX8_exchange_166 (by decide) (fun c_36 => ?_) (fun c_36 => ?_)
    · have hf := ip c_36 hf
      refine lv_iload_n hx hb dX8_exchange_173 rfl (lv_at hl 1 rfl) ?_
      refine lv_goto (tgt := 188) hx hb dX8_exchange_174 (by decide) ?_
      exact hRet _ _ _ _ _ _ _ _ hf hP hS dX8_exchange_188
    · have hf := iq c_36 hf
      refine lv_iload_n hx hb dX8_exchange_169 rfl (lv_at hl 0 rfl) ?_
      refine lv_if_ne (tgt := 177) hx hb dX8_exchange_170 (by decide) (fun c_37 => ?_) (fun c_37 => ?_)
      · have hf := iq c_37 hf
        refine lv_iload_n hx hb dX8_exchange_177 rfl (lv_at hl 0 rfl) ?_
        refine lv_iconst (v := 1) hx hb dX8_exchange_178 (by decide) ?_
        refine lv_icmp_ne (tgt := 186) hx hb dX8_exchange_179 (by decide) (fun c_38 => ?_) (fun c_38 => ?_)
        · have hf := iq c_38 hf
          refine lv_iload hx hb dX8_exchange_186 (lv_at hl 3 rfl) ?_
          exact hRet _ _ _ _ _ _ _ _ hf hP hS dX8_exchange_188
        · have hf := ip c_38 hf
          refine lv_iload_n hx hb dX8_exchange_182 rfl (lv_at hl 2 rfl) ?_
          refine lv_goto (tgt := 188) hx hb dX8_exchange_183 (by decide) ?_
          exact hRet _ _ _ _ _ _ _ _ hf hP hS dX8_exchange_188
      · have hf := ip c_37 hf
        refine lv_iload_n hx hb dX8_exchange_173 rfl (lv_at hl 1 rfl) ?_
        refine lv_goto (tgt := 188) hx hb dX8_exchange_174 (by decide) ?_
        exact hRet _ _ _ _ _ _ _ _ hf hP hS dX8_exchange_188
  · have hf := ip c_3 hf
    refine lv_bipush (v := (-2)) hx hb dX8_exchange_17 (by decide) ?_
    exact hRet _ _ _ _ _ _ _ _ hf hP hS dX8_exchange_19
theorem calX8_arePairs : CalV yX8_arePairs cX8_arePairs 3 (some .boolean) 1 := ⟨⟨kw_41_5, kw_1_5, by decide +kernel⟩, kw_41_3, kw_41_4⟩
set_option maxHeartbeats 8000000 in
set_option maxRecDepth 100000 in
theorem ctX8_arePairs (l : Launch) (G : GT) (t_h : Nat) (t_a : Nat → Nat) (t_thrown : Int32) (t_all : Nat → Int32) (t_taped : Int32) (t_at : Int32) (t_behind : Int32) (t_size : Int32) (t_kind : Int32) (t_number : Int32) (t_wrong : Int32) (t_wrongAt : Int32) (t_faultKind : Int32) (t_faultPlace : Int32) (t_x : Int32) (t_wayLong : Int32) (t_bothLeast : Int32) (t_rowMany : Nat → Int32) (t_numbers : Nat → Int64) (v1 : Int32) (r : Int32) (hf : fX8_arePairs t_all t_rowMany t_numbers v1 = some r) : RdI l yX8_arePairs (Cond.code yX8_arePairs cX8_arePairs 3 (some .boolean)) { frames := 3, cells := 0, slots := 0, locals := 69 } G [.ref t_h, .int v1] [oX8 t_h t_a t_thrown t_taped t_at t_behind t_size t_kind t_number t_wrong t_wrongAt t_faultKind t_faultPlace t_x t_wayLong t_bothLeast, arI G (t_a 1) 558 t_all, arI G (t_a 31) 4 t_rowMany, arJ G (t_a 32) 160 t_numbers] r := by
  intro sz
  refine Met.ofW (cc := cX8_arePairs) (maxL := 3) (ret := (some .boolean)) (by decide) rfl ?_
  intro p e s m args below meth c s₁ B hml hv
  obtain ⟨hargs, hsz, hP, hK⟩ := hv
  subst hsz
  obtain ⟨hx, hb, hr, hw, hown, hlk⟩ := fwB B
  refine fw_enter hargs (Nat.le_of_ble_eq_true rfl) (fun ls hl => ?_)
  have hl : lv_has ls 3 [(0, .ref t_h), (1, .int v1)] := hl
  refine fw_Q (P := fun Q => ∃ A : Nat → Prop, va_S A s.heap s.heap [] ∧ (∀ q, s.heap.size ≤ q → A q) ∧ ∀ (v : Int32) (H : Heap) (locs : List Loc) (pc : Nat) (ls : Array Slot), some v = some r → va_S A s.heap H locs → narrow .boolean (.int v) = .int v → decode cX8_arePairs pc = .ok (.ireturn, 1) → W p l e ({ frames := 3, cells := 0, slots := 0, locals := 69 } : Room) s m args below meth c H locs 0 0 Q (F0 m pc ls [.int v])) ⟨fun q => s.heap.size ≤ q, va_S.rf, fun q h => h, fun v H locs pc ls h hS hn hd => retRZ hx hb hr hlk hS hn h hd⟩ ?_
  rintro Q ⟨A, hS, hA, hRet⟩
  change W p l e ({ frames := 3, cells := 0, slots := 0, locals := 69 } : Room) s m args below meth c _ _ 0 0 Q _
  have L2 : ∀  (K : Option Int32) (n : Nat) (l2 : Int32) (H : Heap) (locs : List Loc) (ls : Array Slot), va_P G.1 vwCl [oX8 t_h t_a t_thrown t_taped t_at t_behind t_size t_kind t_number t_wrong t_wrongAt t_faultKind t_faultPlace t_x t_wayLong t_bothLeast, arI G (t_a 1) 558 t_all, arI G (t_a 31) 4 t_rowMany, arJ G (t_a 32) 160 t_numbers] H → va_S A s.heap H locs → lv_has ls 3 [(0, .ref t_h), (1, .int v1), (2, .int l2)] → fX8_arePairs_2 v1 t_all t_rowMany t_numbers K n l2 = some r → (∀  (H : Heap) (locs : List Loc) (ls : Array Slot), va_P G.1 vwCl [oX8 t_h t_a t_thrown t_taped t_at t_behind t_size t_kind t_number t_wrong t_wrongAt t_faultKind t_faultPlace t_x t_wayLong t_bothLeast, arI G (t_a 1) 558 t_all, arI G (t_a 31) 4 t_rowMany, arJ G (t_a 32) 160 t_numbers] H → va_S A s.heap H locs → lv_has ls 3 [] → K = some r → W p l e ({ frames := 3, cells := 0, slots := 0, locals := 69 } : Room) s m args below meth c H locs 0 0 Q (F0 m 38 ls [])) → W p l e ({ frames := 3, cells := 0, slots := 0, locals := 69 } : Room) s m args below meth c H locs 0 0 Q (F0 m 2 ls []) := by
    intro  K n
    induction n with
    | zero => intro l2 H locs ls hP hS hl hf; rw [fX8_arePairs_2] at hf; cases hf
    | succ n ih =>
      intro l2 H locs ls hP hS hl hf hX
      rw [fX8_arePairs_2] at hf
      refine lv_iload_n hx hb dX8_arePairs_2 rfl (lv_at hl 2 rfl) ?_
      refine lv_aload_n hx hb dX8_arePairs_3 rfl (lv_at hl 0 rfl) ?_
      refine va_get (D := G.1) (ci := 8) (v := .ref (t_a 31)) (C := RX8) (T := TX8) (N := 33) hx hb hw inW8 hown hK.1 hP 0 rfl rfl 31 (by decide) (hw _ kw_6_6) (fun _ h9 => h9) rfl dX8_arePairs_4 ?_
      refine lv_iload_n hx hb dX8_arePairs_7 rfl (lv_at hl 1 rfl) ?_
      obtain ⟨hi_2, hf⟩ := rdI_in hf
      refine va_iald hx hb hK.1 hP 2 0 rfl rfl hi_2 dX8_arePairs_8 ?_
      refine lv_topi (fun x_1 ex_1 => ?_)
      have hf := hf x_1 ex_1
      refine lv_icmp_ge (tgt := 38) hx hb dX8_arePairs_9 (by decide) (fun c_3 => ?_) (fun c_3 => ?_)
      · have hf := ip c_3 hf
        exact hX  _ _ _ hP hS (lv_sub hl [] rfl) hf
      · have hf := iq c_3 hf
        refine lv_aload_n hx hb dX8_arePairs_12 rfl (lv_at hl 0 rfl) ?_
        refine lv_aload_n hx hb dX8_arePairs_13 rfl (lv_at hl 0 rfl) ?_
        refine va_get (D := G.1) (ci := 8) (v := .ref (t_a 32)) (C := RX8) (T := TX8) (N := 33) hx hb hw inW8 hown hK.1 hP 0 rfl rfl 32 (by decide) (hw _ kw_6_7) (fun _ h9 => h9) rfl dX8_arePairs_14 ?_
        refine lv_bipush (v := 40) hx hb dX8_arePairs_17 (by decide) ?_
        refine lv_iload_n hx hb dX8_arePairs_19 rfl (lv_at hl 1 rfl) ?_
        refine lv_imul hx hb dX8_arePairs_20 ?_
        refine lv_iload_n hx hb dX8_arePairs_21 rfl (lv_at hl 2 rfl) ?_
        refine lv_iadd hx hb dX8_arePairs_22 ?_
        obtain ⟨hi_5, hf⟩ := rdL_in hf
        refine va_lald hx hb hK.1 hP 3 2 rfl rfl hi_5 dX8_arePairs_23 ?_
        refine lv_topl (fun x_4 ex_4 => ?_)
        have hf := hf x_4 ex_4
        obtain ⟨r_6, hc_7, hf⟩ := bd1_in hf
        refine rcI (va_runV (As := [.long x_4]) (rest := []) ⟨hx, hb, hml, hown, hw⟩ ((ctX8_isPair l G t_h t_a t_thrown t_all t_taped t_at t_behind t_size t_kind t_number t_wrong t_wrongAt t_faultKind t_faultPlace t_x t_wayLong t_bothLeast x_4 _ hc_7) _) (kV hw calX8_isPair kw_21_13 rfl rfl ⟨Nat.le_of_ble_eq_true rfl, Nat.le_of_ble_eq_true rfl⟩) (rpV (hP.sub (ws' := [oX8 t_h t_a t_thrown t_taped t_at t_behind t_size t_kind t_number t_wrong t_wrongAt t_faultKind t_faultPlace t_x t_wayLong t_bothLeast, arI G (t_a 1) 558 t_all]) [0, 1] rfl) hK (ci := 8) (q0 := 0) rfl rfl) rfl rfl hl.1 rfl (lv_room (Nat.le_of_ble_eq_true rfl)) dX8_arePairs_24 ⟨Nat.zero_le _, Nat.zero_le _⟩) hS hA hP (fun H locs hP hS => ?_)
        refine lv_if_ne (tgt := 32) hx hb dX8_arePairs_27 (by decide) (fun c_8 => ?_) (fun c_8 => ?_)
        · have hf := iq c_8 hf
          refine lv_iinc (v := (l2 + 1)) (lv' := [(2, .int (l2 + 1)), (0, .ref t_h), (1, .int v1)]) hx hb dX8_arePairs_32 hl (k := 2) rfl (by rfl) (by decide) rfl (fun ls hl => ?_)
          refine lv_goto (tgt := 2) hx hb dX8_arePairs_35 (by decide) ?_
          exact ih _ _ _ _ hP hS (lv_sub hl [1, 2, 0] rfl) hf hX
        · have hf := ip c_8 hf
          refine lv_iconst (v := 0) hx hb dX8_arePairs_30 (by decide) ?_
          exact hRet _ _ _ _ _ hf hS (by decide +kernel) dX8_arePairs_31
  unfold fX8_arePairs at hf
  refine lv_iconst (v := 0) hx hb dX8_arePairs_0 (by decide) ?_
  refine lv_istore_n (lv' := [(2, .int 0), (0, .ref t_h), (1, .int v1)]) hx hb dX8_arePairs_1 rfl hl (by decide) rfl (fun ls hl => ?_)
  refine L2  _ _ _ _ _ _ hP hS (lv_sub hl [1, 2, 0] rfl) hf (fun  H locs ls hP hS hl hf => ?_)
  refine lv_iconst (v := 1) hx hb dX8_arePairs_38 (by decide) ?_
  exact hRet _ _ _ _ _ hf hS (by decide +kernel) dX8_arePairs_39
theorem calX8_areCrossed : CalV yX8_areCrossed cX8_areCrossed 6 (some .boolean) 3 := ⟨⟨kw_41_9, kw_1_5, by decide +kernel⟩, kw_41_7, kw_41_8⟩
set_option maxHeartbeats 8000000 in
set_option maxRecDepth 100000 in
theorem ctX8_areCrossed (l : Launch) (G : GT) (t_h : Nat) (t_a : Nat → Nat) (t_thrown : Int32) (t_taped : Int32) (t_at : Int32) (t_behind : Int32) (t_size : Int32) (t_kind : Int32) (t_number : Int32) (t_wrong : Int32) (t_wrongAt : Int32) (t_faultKind : Int32) (t_faultPlace : Int32) (t_x : Int32) (t_wayLong : Int32) (t_bothLeast : Int32) (t_numbers : Nat → Int64) (v1 : Int32) (v2 : Int32) (v3 : Int32) (r : Int32) (hf : fX8_areCrossed t_numbers v1 v2 v3 = some r) : RdI l yX8_areCrossed (Cond.code yX8_areCrossed cX8_areCrossed 6 (some .boolean)) { frames := 2, cells := 0, slots := 0, locals := 47 } G [.ref t_h, .int v1, .int v2, .int v3] [oX8 t_h t_a t_thrown t_taped t_at t_behind t_size t_kind t_number t_wrong t_wrongAt t_faultKind t_faultPlace t_x t_wayLong t_bothLeast, arJ G (t_a 32) 160 t_numbers] r := by
  intro sz
  refine Met.ofW (cc := cX8_areCrossed) (maxL := 6) (ret := (some .boolean)) (by decide) rfl ?_
  intro p e s m args below meth c s₁ B hml hv
  obtain ⟨hargs, hsz, hP, hK⟩ := hv
  subst hsz
  obtain ⟨hx, hb, hr, hw, hown, hlk⟩ := fwB B
  refine fw_enter hargs (Nat.le_of_ble_eq_true rfl) (fun ls hl => ?_)
  have hl : lv_has ls 6 [(0, .ref t_h), (1, .int v1), (2, .int v2), (3, .int v3)] := hl
  refine fw_Q (P := fun Q => ∃ A : Nat → Prop, va_S A s.heap s.heap [] ∧ (∀ q, s.heap.size ≤ q → A q) ∧ ∀ (v : Int32) (H : Heap) (locs : List Loc) (pc : Nat) (ls : Array Slot), some v = some r → va_S A s.heap H locs → narrow .boolean (.int v) = .int v → decode cX8_areCrossed pc = .ok (.ireturn, 1) → W p l e ({ frames := 2, cells := 0, slots := 0, locals := 47 } : Room) s m args below meth c H locs 0 0 Q (F0 m pc ls [.int v])) ⟨fun q => s.heap.size ≤ q, va_S.rf, fun q h => h, fun v H locs pc ls h hS hn hd => retRZ hx hb hr hlk hS hn h hd⟩ ?_
  rintro Q ⟨A, hS, hA, hRet⟩
  change W p l e ({ frames := 2, cells := 0, slots := 0, locals := 47 } : Room) s m args below meth c _ _ 0 0 Q _
  unfold fX8_areCrossed at hf
  refine lv_aload_n hx hb dX8_areCrossed_0 rfl (lv_at hl 0 rfl) ?_
  refine va_get (D := G.1) (ci := 8) (v := .ref (t_a 32)) (C := RX8) (T := TX8) (N := 33) hx hb hw inW8 hown hK.1 hP 0 rfl rfl 32 (by decide) (hw _ kw_6_7) (fun _ h9 => h9) rfl dX8_areCrossed_1 ?_
  refine lv_bipush (v := 40) hx hb dX8_areCrossed_4 (by decide) ?_
  refine lv_iload_n hx hb dX8_areCrossed_6 rfl (lv_at hl 1 rfl) ?_
  refine lv_imul hx hb dX8_areCrossed_7 ?_
  refine lv_iload_n hx hb dX8_areCrossed_8 rfl (lv_at hl 2 rfl) ?_
  refine lv_iadd hx hb dX8_areCrossed_9 ?_
  obtain ⟨hi_2, hf⟩ := rdL_in hf
  refine va_lald hx hb hK.1 hP 1 2 rfl rfl hi_2 dX8_areCrossed_10 ?_
  refine lv_topl (fun x_1 ex_1 => ?_)
  have hf := hf x_1 ex_1
  refine lv_l2i hx hb dX8_areCrossed_11 rfl ?_
  refine lv_topi (fun y_3 ey_3 => ?_)
  have hf := bnd_all hf y_3 ey_3
  refine lv_istore (lv' := [(4, .int y_3), (0, .ref t_h), (1, .int v1), (2, .int v2), (3, .int v3)]) hx hb dX8_areCrossed_12 hl (by decide) rfl (fun ls hl => ?_)
  refine lv_aload_n hx hb dX8_areCrossed_14 rfl (lv_at hl 1 rfl) ?_
  refine va_get (D := G.1) (ci := 8) (v := .ref (t_a 32)) (C := RX8) (T := TX8) (N := 33) hx hb hw inW8 hown hK.1 hP 0 rfl rfl 32 (by decide) (hw _ kw_6_7) (fun _ h9 => h9) rfl dX8_areCrossed_15 ?_
  refine lv_bipush (v := 40) hx hb dX8_areCrossed_18 (by decide) ?_
  refine lv_iload_n hx hb dX8_areCrossed_20 rfl (lv_at hl 2 rfl) ?_
  refine lv_imul hx hb dX8_areCrossed_21 ?_
  refine lv_iload_n hx hb dX8_areCrossed_22 rfl (lv_at hl 4 rfl) ?_
  refine lv_iadd hx hb dX8_areCrossed_23 ?_
  obtain ⟨hi_5, hf⟩ := rdL_in hf
  refine va_lald hx hb hK.1 hP 1 2 rfl rfl hi_5 dX8_areCrossed_24 ?_
  refine lv_topl (fun x_4 ex_4 => ?_)
  have hf := hf x_4 ex_4
  refine lv_l2i hx hb dX8_areCrossed_25 rfl ?_
  refine lv_topi (fun y_6 ey_6 => ?_)
  have hf := bnd_all hf y_6 ey_6
  refine lv_istore (lv' := [(5, .int y_6), (4, .int y_3), (0, .ref t_h), (1, .int v1), (2, .int v2), (3, .int v3)]) hx hb dX8_areCrossed_26 hl (by decide) rfl (fun ls hl => ?_)
  refine lv_iload hx hb dX8_areCrossed_28 (lv_at hl 1 rfl) ?_
  refine lv_bipush (v := 20) hx hb dX8_areCrossed_30 (by decide) ?_
  refine lv_idiv hx hb dX8_areCrossed_32 (by decide) ?_
  refine lv_iload hx hb dX8_areCrossed_33 (lv_at hl 1 rfl) ?_
  refine lv_bipush (v := 20) hx hb dX8_areCrossed_35 (by decide) ?_
  refine lv_irem hx hb dX8_areCrossed_37 (by decide) ?_
  refine lv_iload hx hb dX8_areCrossed_38 (lv_at hl 0 rfl) ?_
  refine lv_bipush (v := 20) hx hb dX8_areCrossed_40 (by decide) ?_
  refine lv_idiv hx hb dX8_areCrossed_42 (by decide) ?_
  refine lv_iload hx hb dX8_areCrossed_43 (lv_at hl 0 rfl) ?_
  refine lv_bipush (v := 20) hx hb dX8_areCrossed_45 (by decide) ?_
  refine lv_irem hx hb dX8_areCrossed_47 (by decide) ?_
  obtain ⟨r_7, hc_8, hf⟩ := bd1_in hf
  refine rcI (va_runS (As := [.int (y_3 / 20), .int (y_3 - y_3 / 20 * 20), .int (y_6 / 20), .int (y_6 - y_6 / 20 * 20)]) (rest := []) ⟨hx, hb, hml, hown, hw⟩ ((ctX8_crosses l G (y_3 / 20) (y_3 - y_3 / 20 * 20) (y_6 / 20) (y_6 - y_6 / 20 * 20) _ hc_8) _) (kS hw calX8_crosses kw_17_4 rfl rfl ⟨Nat.le_of_ble_eq_true rfl, Nat.le_of_ble_eq_true rfl⟩) (rpS (hP.sub (ws' := []) [] rfl) hK) rfl rfl hl.1 rfl (lv_room (Nat.le_of_ble_eq_true rfl)) dX8_areCrossed_48 ⟨Nat.zero_le _, Nat.zero_le _⟩) hS hA hP (fun H locs hP hS => ?_)
  obtain ⟨hzn, hf⟩ := bzI_in hf
  exact hRet _ _ _ _ _ hf hS hzn dX8_areCrossed_51
theorem calX8_together : CalV yX8_together cX8_together 11 (some .int) 2 := ⟨⟨kw_41_1, kw_1_5, by decide +kernel⟩, kw_40_23, kw_41_0⟩
set_option maxHeartbeats 8000000 in
set_option maxRecDepth 100000 in
theorem ctX8_together (l : Launch) (G : GT) (t_h : Nat) (t_a : Nat → Nat) (t_thrown : Int32) (t_all : Nat → Int32) (t_taped : Int32) (t_at : Int32) (t_behind : Int32) (t_size : Int32) (t_kind : Int32) (t_number : Int32) (t_wrong : Int32) (t_wrongAt : Int32) (t_faultKind : Int32) (t_faultPlace : Int32) (t_x : Int32) (t_wayLong : Int32) (t_bothLeast : Int32) (t_rowSort : Nat → Int32) (t_rowMany : Nat → Int32) (t_numbers : Nat → Int64) (v1 : Int32) (v2 : Int32) (r : Int32) (o_t_thrown : Int32) (hf : fX8_together t_thrown t_all t_rowSort t_rowMany t_numbers v1 v2 = some (r, o_t_thrown)) : WrI l yX8_together (Cond.code yX8_together cX8_together 11 (some .int)) { frames := 4, cells := 0, slots := 0, locals := 91 } G [.ref t_h, .int v1, .int v2] [oX8 t_h t_a t_thrown t_taped t_at t_behind t_size t_kind t_number t_wrong t_wrongAt t_faultKind t_faultPlace t_x t_wayLong t_bothLeast, arI G (t_a 1) 558 t_all, arI G (t_a 30) 4 t_rowSort, arI G (t_a 31) 4 t_rowMany, arJ G (t_a 32) 160 t_numbers] [oX8 t_h t_a o_t_thrown t_taped t_at t_behind t_size t_kind t_number t_wrong t_wrongAt t_faultKind t_faultPlace t_x t_wayLong t_bothLeast, arI G (t_a 1) 558 t_all, arI G (t_a 30) 4 t_rowSort, arI G (t_a 31) 4 t_rowMany, arJ G (t_a 32) 160 t_numbers] r := by
  intro sz
  refine Met.ofW (cc := cX8_together) (maxL := 11) (ret := (some .int)) (by decide) rfl ?_
  intro p e s m args below meth c s₁ B hml hv
  obtain ⟨hargs, hsz, hP, hD0, hK⟩ := hv
  subst hsz
  obtain ⟨hx, hb, hr, hw, hown, hlk⟩ := fwB B
  refine fw_enter hargs (Nat.le_of_ble_eq_true rfl) (fun ls hl => ?_)
  have hl : lv_has ls 11 [(0, .ref t_h), (1, .int v1), (2, .int v2)] := hl
  refine fw_Q (P := fun Q => ∃ A : Nat → Prop, va_D A [oX8 t_h t_a t_thrown t_taped t_at t_behind t_size t_kind t_number t_wrong t_wrongAt t_faultKind t_faultPlace t_x t_wayLong t_bothLeast, arI G (t_a 1) 558 t_all, arI G (t_a 30) 4 t_rowSort, arI G (t_a 31) 4 t_rowMany, arJ G (t_a 32) 160 t_numbers] ∧ va_S A s.heap s.heap [] ∧ (∀ q, s.heap.size ≤ q → A q) ∧ ∀ (v : Int32) (n_t_thrown : Int32) (H : Heap) (locs : List Loc) (pc : Nat) (ls : Array Slot), some (v, n_t_thrown) = some (r, o_t_thrown) → va_P G.1 vwCl [oX8 t_h t_a n_t_thrown t_taped t_at t_behind t_size t_kind t_number t_wrong t_wrongAt t_faultKind t_faultPlace t_x t_wayLong t_bothLeast, arI G (t_a 1) 558 t_all, arI G (t_a 30) 4 t_rowSort, arI G (t_a 31) 4 t_rowMany, arJ G (t_a 32) 160 t_numbers] H → va_S A s.heap H locs → decode cX8_together pc = .ok (.ireturn, 1) → W p l e ({ frames := 4, cells := 0, slots := 0, locals := 91 } : Room) s m args below meth c H locs 0 0 Q (F0 m pc ls [.int v])) ⟨va_A [oX8 t_h t_a t_thrown t_taped t_at t_behind t_size t_kind t_number t_wrong t_wrongAt t_faultKind t_faultPlace t_x t_wayLong t_bothLeast, arI G (t_a 1) 558 t_all, arI G (t_a 30) 4 t_rowSort, arI G (t_a 31) 4 t_rowMany, arJ G (t_a 32) 160 t_numbers] s.heap.size, hD0.self (sz := s.heap.size), va_S.rf, fun q h => Or.inr h, ?_⟩ ?_
  · intro v n_t_thrown H locs pc ls h hP hS hd
    cases h
    exact retWI hx hb hr hlk hS hP rfl hd
  rintro Q ⟨A, hD, hS, hA, hRet⟩
  change W p l e ({ frames := 4, cells := 0, slots := 0, locals := 91 } : Room) s m args below meth c _ _ 0 0 Q _
  have L166 : ∀ (l3 : Int32) (l4 : Int32) (l5 : Int32) (l6 : Int32) (l8 : Int32) (l9 : Int32) (t_thrown : Int32) (K : Int32 → Option (Int32 × Int32)) (n : Nat) (l7 : Int32) (l10 : Int32) (H : Heap) (locs : List Loc) (ls : Array Slot), va_P G.1 vwCl [oX8 t_h t_a t_thrown t_taped t_at t_behind t_size t_kind t_number t_wrong t_wrongAt t_faultKind t_faultPlace t_x t_wayLong t_bothLeast, arI G (t_a 1) 558 t_all, arI G (t_a 30) 4 t_rowSort, arI G (t_a 31) 4 t_rowMany, arJ G (t_a 32) 160 t_numbers] H → va_D A [oX8 t_h t_a t_thrown t_taped t_at t_behind t_size t_kind t_number t_wrong t_wrongAt t_faultKind t_faultPlace t_x t_wayLong t_bothLeast, arI G (t_a 1) 558 t_all, arI G (t_a 30) 4 t_rowSort, arI G (t_a 31) 4 t_rowMany, arJ G (t_a 32) 160 t_numbers] → va_S A s.heap H locs → lv_has ls 11 [(0, .ref t_h), (1, .int v1), (2, .int v2), (3, .int l3), (4, .int l4), (5, .int l5), (6, .int l6), (7, .int l7), (8, .int l8), (9, .int l9), (10, .int l10)] → fX8_together_166 v1 l6 l9 t_numbers K n l7 l10 = some (r, o_t_thrown) → (∀ (k7 : Int32) (H : Heap) (locs : List Loc) (ls : Array Slot), va_P G.1 vwCl [oX8 t_h t_a t_thrown t_taped t_at t_behind t_size t_kind t_number t_wrong t_wrongAt t_faultKind t_faultPlace t_x t_wayLong t_bothLeast, arI G (t_a 1) 558 t_all, arI G (t_a 30) 4 t_rowSort, arI G (t_a 31) 4 t_rowMany, arJ G (t_a 32) 160 t_numbers] H → va_D A [oX8 t_h t_a t_thrown t_taped t_at t_behind t_size t_kind t_number t_wrong t_wrongAt t_faultKind t_faultPlace t_x t_wayLong t_bothLeast, arI G (t_a 1) 558 t_all, arI G (t_a 30) 4 t_rowSort, arI G (t_a 31) 4 t_rowMany, arJ G (t_a 32) 160 t_numbers] → va_S A s.heap H locs → lv_has ls 11 [(0, .ref t_h), (1, .int v1), (2, .int v2), (3, .int l3), (4, .int l4), (5, .int l5), (6, .int l6), (7, .int k7), (8, .int l8), (9, .int l9)] → K k7 = some (r, o_t_thrown) → W p l e ({ frames := 4, cells := 0, slots := 0, locals := 91 } : Room) s m args below meth c H locs 0 0 Q (F0 m 213 ls [])) → W p l e ({ frames := 4, cells := 0, slots := 0, locals := 91 } : Room) s m args below meth c H locs 0 0 Q (F0 m 166 ls []) := by
    intro l3 l4 l5 l6 l8 l9 t_thrown K n
    induction n with
    | zero => intro l7 l10 H locs ls hP hD hS hl hf; rw [fX8_together_166] at hf; cases hf
    | succ n ih =>
      intro l7 l10 H locs ls hP hD hS hl hf hX
      rw [fX8_together_166] at hf
      refine lv_iload hx hb dX8_together_166 (lv_at hl 10 rfl) ?_
      refine lv_iload hx hb dX8_together_168 (lv_at hl 9 rfl) ?_
      refine lv_icmp_ge (tgt := 213) hx hb dX8_together_170 (by decide) (fun c_27 => ?_) (fun c_27 => ?_)
      · have hf := ip c_27 hf
        exact hX _ _ _ _ hP hD hS (lv_sub hl [0, 1, 2, 3, 4, 5, 6, 7, 8, 9] rfl) hf
      · have hf := iq c_27 hf
        refine lv_iload hx hb dX8_together_173 (lv_at hl 7 rfl) ?_
        refine lv_if_eq (tgt := 213) hx hb dX8_together_175 (by decide) (fun c_28 => ?_) (fun c_28 => ?_)
        · have hf := ip c_28 hf
          exact hX _ _ _ _ hP hD hS (lv_sub hl [0, 1, 2, 3, 4, 5, 6, 7, 8, 9] rfl) hf
        · have hf := iq c_28 hf
          refine lv_iload hx hb dX8_together_178 (lv_at hl 6 rfl) ?_
          refine lv_iload hx hb dX8_together_180 (lv_at hl 10 rfl) ?_
          refine lv_ishr hx hb dX8_together_182 ?_
          refine lv_iconst (v := 1) hx hb dX8_together_183 (by decide) ?_
          refine lv_iand hx hb dX8_together_184 ?_
          refine lv_if_eq (tgt := 200) hx hb dX8_together_185 (by decide) (fun c_29 => ?_) (fun c_29 => ?_)
          · have hf := ip c_29 hf
            refine lv_iconst (v := 1) hx hb dX8_together_200 (by decide) ?_
            refine lv_goto (tgt := 205) hx hb dX8_together_201 (by decide) ?_
            refine lv_istore (lv' := [(7, .int 1), (0, .ref t_h), (1, .int v1), (2, .int v2), (3, .int l3), (4, .int l4), (5, .int l5), (6, .int l6), (8, .int l8), (9, .int l9), (10, .int l10)]) hx hb dX8_together_205 hl (by decide) rfl (fun ls hl => ?_)
            refine lv_iinc (v := (l10 + 1)) (lv' := [(10, .int (l10 + 1)), (7, .int 1), (0, .ref t_h), (1, .int v1), (2, .int v2), (3, .int l3), (4, .int l4), (5, .int l5), (6, .int l6), (8, .int l8), (9, .int l9)]) hx hb dX8_together_207 hl (k := 10) rfl (by rfl) (by decide) rfl (fun ls hl => ?_)
            refine lv_goto (tgt := 166) hx hb dX8_together_210 (by decide) ?_
            exact ih _ _ _ _ _ hP hD hS (lv_sub hl [2, 3, 4, 5, 6, 7, 8, 1, 9, 10, 0] rfl) hf hX
          · have hf := iq c_29 hf
            refine lv_aload_n hx hb dX8_together_188 rfl (lv_at hl 0 rfl) ?_
            refine lv_iload_n hx hb dX8_together_189 rfl (lv_at hl 1 rfl) ?_
            refine lv_iload hx hb dX8_together_190 (lv_at hl 9 rfl) ?_
            refine lv_iload hx hb dX8_together_192 (lv_at hl 10 rfl) ?_
            obtain ⟨r_30, hc_31, hf⟩ := bd1_in hf
            refine rcI (va_runV (As := [.int v1, .int l9, .int l10]) (rest := []) ⟨hx, hb, hml, hown, hw⟩ ((ctX8_areCrossed l G t_h t_a t_thrown t_taped t_at t_behind t_size t_kind t_number t_wrong t_wrongAt t_faultKind t_faultPlace t_x t_wayLong t_bothLeast t_numbers v1 l9 l10 _ hc_31) _) (kV hw calX8_areCrossed kw_41_6 rfl rfl ⟨Nat.le_of_ble_eq_true rfl, Nat.le_of_ble_eq_true rfl⟩) (rpV (hP.sub (ws' := [oX8 t_h t_a t_thrown t_taped t_at t_behind t_size t_kind t_number t_wrong t_wrongAt t_faultKind t_faultPlace t_x t_wayLong t_bothLeast, arJ G (t_a 32) 160 t_numbers]) [0, 4] rfl) hK (ci := 8) (q0 := 0) rfl rfl) rfl rfl hl.1 rfl (lv_room (Nat.le_of_ble_eq_true rfl)) dX8_together_194 ⟨Nat.zero_le _, Nat.zero_le _⟩) hS hA hP (fun H locs hP hS => ?_)
            refine lv_if_ne (tgt := 204) hx hb dX8_together_197 (by decide) (fun c_32 => ?_) (fun c_32 => ?_)
            · have hf := iq c_32 hf
              refine lv_iconst (v := 0) hx hb dX8_together_204 (by decide) ?_
              refine lv_istore (lv' := [(7, .int 0), (0, .ref t_h), (1, .int v1), (2, .int v2), (3, .int l3), (4, .int l4), (5, .int l5), (6, .int l6), (8, .int l8), (9, .int l9), (10, .int l10)]) hx hb dX8_together_205 hl (by decide) rfl (fun ls hl => ?_)
              refine lv_iinc (v := (l10 + 1)) (lv' := [(10, .int (l10 + 1)), (7, .int 0), (0, .ref t_h), (1, .int v1), (2, .int v2), (3, .int l3), (4, .int l4), (5, .int l5), (6, .int l6), (8, .int l8), (9, .int l9)]) hx hb dX8_together_207 hl (k := 10) rfl (by rfl) (by decide) rfl (fun ls hl => ?_)
              refine lv_goto (tgt := 166) hx hb dX8_together_210 (by decide) ?_
              exact ih _ _ _ _ _ hP hD hS (lv_sub hl [2, 3, 4, 5, 6, 7, 8, 1, 9, 10, 0] rfl) hf hX
            · have hf := ip c_32 hf
              refine lv_iconst (v := 1) hx hb dX8_together_200 (by decide) ?_
              refine lv_goto (tgt := 205) hx hb dX8_together_201 (by decide) ?_
              refine lv_istore (lv' := [(7, .int 1), (0, .ref t_h), (1, .int v1), (2, .int v2), (3, .int l3), (4, .int l4), (5, .int l5), (6, .int l6), (8, .int l8), (9, .int l9), (10, .int l10)]) hx hb dX8_together_205 hl (by decide) rfl (fun ls hl => ?_)
              refine lv_iinc (v := (l10 + 1)) (lv' := [(10, .int (l10 + 1)), (7, .int 1), (0, .ref t_h), (1, .int v1), (2, .int v2), (3, .int l3), (4, .int l4), (5, .int l5), (6, .int l6), (8, .int l8), (9, .int l9)]) hx hb dX8_together_207 hl (k := 10) rfl (by rfl) (by decide) rfl (fun ls hl => ?_)
              refine lv_goto (tgt := 166) hx hb dX8_together_210 (by decide) ?_
              exact ih _ _ _ _ _ hP hD hS (lv_sub hl [2, 3, 4, 5, 6, 7, 8, 1, 9, 10, 0] rfl) hf hX
  have L98 : ∀ (l3 : Int32) (l4 : Int32) (l5 : Int32) (l6 : Int32) (t_thrown : Int32) (K : Int32 → Int32 → Option (Int32 × Int32)) (n : Nat) (l7 : Int32) (l8 : Int32) (l9 : Int32) (H : Heap) (locs : List Loc) (ls : Array Slot), va_P G.1 vwCl [oX8 t_h t_a t_thrown t_taped t_at t_behind t_size t_kind t_number t_wrong t_wrongAt t_faultKind t_faultPlace t_x t_wayLong t_bothLeast, arI G (t_a 1) 558 t_all, arI G (t_a 30) 4 t_rowSort, arI G (t_a 31) 4 t_rowMany, arJ G (t_a 32) 160 t_numbers] H → va_D A [oX8 t_h t_a t_thrown t_taped t_at t_behind t_size t_kind t_number t_wrong t_wrongAt t_faultKind t_faultPlace t_x t_wayLong t_bothLeast, arI G (t_a 1) 558 t_all, arI G (t_a 30) 4 t_rowSort, arI G (t_a 31) 4 t_rowMany, arJ G (t_a 32) 160 t_numbers] → va_S A s.heap H locs → lv_has ls 11 [(0, .ref t_h), (1, .int v1), (2, .int v2), (3, .int l3), (4, .int l4), (5, .int l5), (6, .int l6), (7, .int l7), (8, .int l8), (9, .int l9)] → fX8_together_98 v1 l3 l6 t_all t_numbers K n l7 l8 l9 = some (r, o_t_thrown) → (∀ (k7 : Int32) (k8 : Int32) (H : Heap) (locs : List Loc) (ls : Array Slot), va_P G.1 vwCl [oX8 t_h t_a t_thrown t_taped t_at t_behind t_size t_kind t_number t_wrong t_wrongAt t_faultKind t_faultPlace t_x t_wayLong t_bothLeast, arI G (t_a 1) 558 t_all, arI G (t_a 30) 4 t_rowSort, arI G (t_a 31) 4 t_rowMany, arJ G (t_a 32) 160 t_numbers] H → va_D A [oX8 t_h t_a t_thrown t_taped t_at t_behind t_size t_kind t_number t_wrong t_wrongAt t_faultKind t_faultPlace t_x t_wayLong t_bothLeast, arI G (t_a 1) 558 t_all, arI G (t_a 30) 4 t_rowSort, arI G (t_a 31) 4 t_rowMany, arJ G (t_a 32) 160 t_numbers] → va_S A s.heap H locs → lv_has ls 11 [(0, .ref t_h), (1, .int v1), (2, .int v2), (3, .int l3), (4, .int l4), (5, .int l5), (6, .int l6), (7, .int k7), (8, .int k8)] → K k7 k8 = some (r, o_t_thrown) → W p l e ({ frames := 4, cells := 0, slots := 0, locals := 91 } : Room) s m args below meth c H locs 0 0 Q (F0 m 219 ls [])) → W p l e ({ frames := 4, cells := 0, slots := 0, locals := 91 } : Room) s m args below meth c H locs 0 0 Q (F0 m 98 ls []) := by
    intro l3 l4 l5 l6 t_thrown K n
    induction n with
    | zero => intro l7 l8 l9 H locs ls hP hD hS hl hf; rw [fX8_together_98] at hf; cases hf
    | succ n ih =>
      intro l7 l8 l9 H locs ls hP hD hS hl hf hX
      rw [fX8_together_98] at hf
      refine lv_iload hx hb dX8_together_98 (lv_at hl 9 rfl) ?_
      refine lv_iload_n hx hb dX8_together_100 rfl (lv_at hl 3 rfl) ?_
      refine lv_icmp_ge (tgt := 219) hx hb dX8_together_101 (by decide) (fun c_17 => ?_) (fun c_17 => ?_)
      · have hf := ip c_17 hf
        exact hX _ _ _ _ _ hP hD hS (lv_sub hl [0, 1, 2, 3, 4, 5, 6, 7, 8] rfl) hf
      · have hf := iq c_17 hf
        refine lv_iload hx hb dX8_together_104 (lv_at hl 7 rfl) ?_
        refine lv_if_eq (tgt := 219) hx hb dX8_together_106 (by decide) (fun c_18 => ?_) (fun c_18 => ?_)
        · have hf := ip c_18 hf
          exact hX _ _ _ _ _ hP hD hS (lv_sub hl [0, 1, 2, 3, 4, 5, 6, 7, 8] rfl) hf
        · have hf := iq c_18 hf
          refine lv_iload hx hb dX8_together_109 (lv_at hl 6 rfl) ?_
          refine lv_iload hx hb dX8_together_111 (lv_at hl 9 rfl) ?_
          refine lv_ishr hx hb dX8_together_113 ?_
          refine lv_iconst (v := 1) hx hb dX8_together_114 (by decide) ?_
          refine lv_iand hx hb dX8_together_115 ?_
          refine lv_if_ne (tgt := 122) hx hb dX8_together_116 (by decide) (fun c_19 => ?_) (fun c_19 => ?_)
          · have hf := iq c_19 hf
            refine lv_iload hx hb dX8_together_122 (lv_at hl 8 rfl) ?_
            refine lv_aload_n hx hb dX8_together_124 rfl (lv_at hl 0 rfl) ?_
            refine lv_aload_n hx hb dX8_together_125 rfl (lv_at hl 0 rfl) ?_
            refine va_get (D := G.1) (ci := 8) (v := .ref (t_a 32)) (C := RX8) (T := TX8) (N := 33) hx hb hw inW8 hown hK.1 hP 0 rfl rfl 32 (by decide) (hw _ kw_6_7) (fun _ h9 => h9) rfl dX8_together_126 ?_
            refine lv_bipush (v := 40) hx hb dX8_together_129 (by decide) ?_
            refine lv_iload_n hx hb dX8_together_131 rfl (lv_at hl 1 rfl) ?_
            refine lv_imul hx hb dX8_together_132 ?_
            refine lv_iload hx hb dX8_together_133 (lv_at hl 9 rfl) ?_
            refine lv_iadd hx hb dX8_together_135 ?_
            obtain ⟨hi_21, hf⟩ := rdL_in hf
            refine va_lald hx hb hK.1 hP 4 2 rfl rfl hi_21 dX8_together_136 ?_
            refine lv_topl (fun x_20 ex_20 => ?_)
            have hf := hf x_20 ex_20
            refine lv_l2i hx hb dX8_together_137 rfl ?_
            refine lv_bipush (v := 20) hx hb dX8_together_138 (by decide) ?_
            refine lv_idiv hx hb dX8_together_140 (by decide) ?_
            refine lv_aload_n hx hb dX8_together_141 rfl (lv_at hl 0 rfl) ?_
            refine va_get (D := G.1) (ci := 8) (v := .ref (t_a 32)) (C := RX8) (T := TX8) (N := 33) hx hb hw inW8 hown hK.1 hP 0 rfl rfl 32 (by decide) (hw _ kw_6_7) (fun _ h9 => h9) rfl dX8_together_142 ?_
            refine lv_bipush (v := 40) hx hb dX8_together_145 (by decide) ?_
            refine lv_iload_n hx hb dX8_together_147 rfl (lv_at hl 1 rfl) ?_
            refine lv_imul hx hb dX8_together_148 ?_
            refine lv_iload hx hb dX8_together_149 (lv_at hl 9 rfl) ?_
            refine lv_iadd hx hb dX8_together_151 ?_
            obtain ⟨hi_23, hf⟩ := rdL_in hf
            refine va_lald hx hb hK.1 hP 4 2 rfl rfl hi_23 dX8_together_152 ?_
            refine lv_topl (fun x_22 ex_22 => ?_)
            have hf := hf x_22 ex_22
            refine lv_l2i hx hb dX8_together_153 rfl ?_
            refine lv_bipush (v := 20) hx hb dX8_together_154 (by decide) ?_
            refine lv_irem hx hb dX8_together_156 (by decide) ?_
            obtain ⟨r_24, hc_25, hf⟩ := bd1_in hf
            refine rcI (va_runV (As := [.int ((Int64.toInt32 x_20) / 20), .int ((Int64.toInt32 x_22) - (Int64.toInt32 x_22) / 20 * 20)]) (rest := [.int l8]) ⟨hx, hb, hml, hown, hw⟩ ((ctX8_lengthOf l G t_h t_a t_thrown t_all t_taped t_at t_behind t_size t_kind t_number t_wrong t_wrongAt t_faultKind t_faultPlace t_x t_wayLong t_bothLeast ((Int64.toInt32 x_20) / 20) ((Int64.toInt32 x_22) - (Int64.toInt32 x_22) / 20 * 20) _ hc_25) _) (kV hw calX8_lengthOf kw_22_7 rfl rfl ⟨Nat.le_of_ble_eq_true rfl, Nat.le_of_ble_eq_true rfl⟩) (rpV (hP.sub (ws' := [oX8 t_h t_a t_thrown t_taped t_at t_behind t_size t_kind t_number t_wrong t_wrongAt t_faultKind t_faultPlace t_x t_wayLong t_bothLeast, arI G (t_a 1) 558 t_all]) [0, 1] rfl) hK (ci := 8) (q0 := 0) rfl rfl) rfl rfl hl.1 rfl (lv_room (Nat.le_of_ble_eq_true rfl)) dX8_together_157 ⟨Nat.zero_le _, Nat.zero_le _⟩) hS hA hP (fun H locs hP hS => ?_)
            refine lv_iadd hx hb dX8_together_160 ?_
            refine lv_topi (fun y_26 ey_26 => ?_)
            have hf := bnd_all hf y_26 ey_26
            refine lv_istore (lv' := [(8, .int y_26), (0, .ref t_h), (1, .int v1), (2, .int v2), (3, .int l3), (4, .int l4), (5, .int l5), (6, .int l6), (7, .int l7), (9, .int l9)]) hx hb dX8_together_161 hl (by decide) rfl (fun ls hl => ?_)
            refine lv_iconst (v := 0) hx hb dX8_together_163 (by decide) ?_
            refine lv_istore (lv' := [(10, .int 0), (8, .int y_26), (0, .ref t_h), (1, .int v1), (2, .int v2), (3, .int l3), (4, .int l4), (5, .int l5), (6, .int l6), (7, .int l7), (9, .int l9)]) hx hb dX8_together_164 hl (by decide) rfl (fun ls hl => ?_)
            refine L166 _ _ _ _ _ _ _ _ _ _ _ _ _ _ hP hD hS (lv_sub hl [2, 3, 4, 5, 6, 7, 8, 9, 1, 10, 0] rfl) hf (fun w_33 H locs ls hP hD hS hl hf => ?_)
            refine lv_iinc (v := (l9 + 1)) (lv' := [(9, .int (l9 + 1)), (0, .ref t_h), (1, .int v1), (2, .int v2), (3, .int l3), (4, .int l4), (5, .int l5), (6, .int l6), (7, .int w_33), (8, .int y_26)]) hx hb dX8_together_213 hl (k := 9) rfl (by rfl) (by decide) rfl (fun ls hl => ?_)
            refine lv_goto (tgt := 98) hx hb dX8_together_216 (by decide) ?_
            exact ih _ _ _ _ _ _ hP hD hS (lv_sub hl [1, 2, 3, 4, 5, 6, 7, 8, 9, 0] rfl) hf hX
          · have hf := ip c_19 hf
            refine lv_goto (tgt := 213) hx hb dX8_together_119 (by decide) ?_
            refine lv_iinc (v := (l9 + 1)) (lv' := [(9, .int (l9 + 1)), (0, .ref t_h), (1, .int v1), (2, .int v2), (3, .int l3), (4, .int l4), (5, .int l5), (6, .int l6), (7, .int l7), (8, .int l8)]) hx hb dX8_together_213 hl (k := 9) rfl (by rfl) (by decide) rfl (fun ls hl => ?_)
            refine lv_goto (tgt := 98) hx hb dX8_together_216 (by decide) ?_
            exact ih _ _ _ _ _ _ hP hD hS (lv_sub hl [1, 2, 3, 4, 5, 6, 7, 8, 9, 0] rfl) hf hX
  have L81 : ∀ (l3 : Int32) (t_thrown : Int32) (K : Int32 → Int32 → Option (Int32 × Int32)) (n : Nat) (l4 : Int32) (l5 : Int32) (l6 : Int32) (H : Heap) (locs : List Loc) (ls : Array Slot), va_P G.1 vwCl [oX8 t_h t_a t_thrown t_taped t_at t_behind t_size t_kind t_number t_wrong t_wrongAt t_faultKind t_faultPlace t_x t_wayLong t_bothLeast, arI G (t_a 1) 558 t_all, arI G (t_a 30) 4 t_rowSort, arI G (t_a 31) 4 t_rowMany, arJ G (t_a 32) 160 t_numbers] H → va_D A [oX8 t_h t_a t_thrown t_taped t_at t_behind t_size t_kind t_number t_wrong t_wrongAt t_faultKind t_faultPlace t_x t_wayLong t_bothLeast, arI G (t_a 1) 558 t_all, arI G (t_a 30) 4 t_rowSort, arI G (t_a 31) 4 t_rowMany, arJ G (t_a 32) 160 t_numbers] → va_S A s.heap H locs → lv_has ls 11 [(0, .ref t_h), (1, .int v1), (2, .int v2), (3, .int l3), (4, .int l4), (5, .int l5), (6, .int l6)] → fX8_together_81 v1 l3 t_all t_numbers K n l4 l5 l6 = some (r, o_t_thrown) → (∀ (k4 : Int32) (k5 : Int32) (H : Heap) (locs : List Loc) (ls : Array Slot), va_P G.1 vwCl [oX8 t_h t_a t_thrown t_taped t_at t_behind t_size t_kind t_number t_wrong t_wrongAt t_faultKind t_faultPlace t_x t_wayLong t_bothLeast, arI G (t_a 1) 558 t_all, arI G (t_a 30) 4 t_rowSort, arI G (t_a 31) 4 t_rowMany, arJ G (t_a 32) 160 t_numbers] H → va_D A [oX8 t_h t_a t_thrown t_taped t_at t_behind t_size t_kind t_number t_wrong t_wrongAt t_faultKind t_faultPlace t_x t_wayLong t_bothLeast, arI G (t_a 1) 558 t_all, arI G (t_a 30) 4 t_rowSort, arI G (t_a 31) 4 t_rowMany, arJ G (t_a 32) 160 t_numbers] → va_S A s.heap H locs → lv_has ls 11 [(2, .int v2), (4, .int k4), (5, .int k5)] → K k4 k5 = some (r, o_t_thrown) → W p l e ({ frames := 4, cells := 0, slots := 0, locals := 91 } : Room) s m args below meth c H locs 0 0 Q (F0 m 274 ls [])) → W p l e ({ frames := 4, cells := 0, slots := 0, locals := 91 } : Room) s m args below meth c H locs 0 0 Q (F0 m 81 ls []) := by
    intro l3 t_thrown K n
    induction n with
    | zero => intro l4 l5 l6 H locs ls hP hD hS hl hf; rw [fX8_together_81] at hf; cases hf
    | succ n ih =>
      intro l4 l5 l6 H locs ls hP hD hS hl hf hX
      rw [fX8_together_81] at hf
      refine lv_iload hx hb dX8_together_81 (lv_at hl 6 rfl) ?_
      refine lv_iconst (v := 1) hx hb dX8_together_83 (by decide) ?_
      refine lv_iload_n hx hb dX8_together_84 rfl (lv_at hl 3 rfl) ?_
      refine lv_ishl hx hb dX8_together_85 ?_
      refine lv_icmp_ge (tgt := 274) hx hb dX8_together_86 (by decide) (fun c_16 => ?_) (fun c_16 => ?_)
      · have hf := ip c_16 hf
        exact hX _ _ _ _ _ hP hD hS (lv_sub hl [2, 4, 5] rfl) hf
      · have hf := iq c_16 hf
        refine lv_iconst (v := 1) hx hb dX8_together_89 (by decide) ?_
        refine lv_istore (lv' := [(7, .int 1), (0, .ref t_h), (1, .int v1), (2, .int v2), (3, .int l3), (4, .int l4), (5, .int l5), (6, .int l6)]) hx hb dX8_together_90 hl (by decide) rfl (fun ls hl => ?_)
        refine lv_iconst (v := 0) hx hb dX8_together_92 (by decide) ?_
        refine lv_istore (lv' := [(8, .int 0), (7, .int 1), (0, .ref t_h), (1, .int v1), (2, .int v2), (3, .int l3), (4, .int l4), (5, .int l5), (6, .int l6)]) hx hb dX8_together_93 hl (by decide) rfl (fun ls hl => ?_)
        refine lv_iconst (v := 0) hx hb dX8_together_95 (by decide) ?_
        refine lv_istore (lv' := [(9, .int 0), (8, .int 0), (7, .int 1), (0, .ref t_h), (1, .int v1), (2, .int v2), (3, .int l3), (4, .int l4), (5, .int l5), (6, .int l6)]) hx hb dX8_together_96 hl (by decide) rfl (fun ls hl => ?_)
        refine L98 _ _ _ _ _ _ _ _ _ _ _ _ _ hP hD hS (lv_sub hl [3, 4, 5, 6, 7, 8, 9, 2, 1, 0] rfl) hf (fun w_34 w_35 H locs ls hP hD hS hl hf => ?_)
        refine lv_iload hx hb dX8_together_219 (lv_at hl 7 rfl) ?_
        refine lv_if_eq (tgt := 268) hx hb dX8_together_221 (by decide) (fun c_36 => ?_) (fun c_36 => ?_)
        · have hf := ip c_36 hf
          refine lv_iinc (v := (l6 + 1)) (lv' := [(6, .int (l6 + 1)), (0, .ref t_h), (1, .int v1), (2, .int v2), (3, .int l3), (4, .int l4), (5, .int l5), (7, .int w_34), (8, .int w_35)]) hx hb dX8_together_268 hl (k := 6) rfl (by rfl) (by decide) rfl (fun ls hl => ?_)
          refine lv_goto (tgt := 81) hx hb dX8_together_271 (by decide) ?_
          exact ih _ _ _ _ _ _ hP hD hS (lv_sub hl [1, 2, 3, 4, 5, 6, 0] rfl) hf hX
        · have hf := iq c_36 hf
          refine lv_iload hx hb dX8_together_224 (lv_at hl 6 rfl) ?_
          obtain ⟨r_37, hc_38, hf⟩ := bd1_in hf
          refine rcI (va_runS (As := [.int l6]) (rest := []) ⟨hx, hb, hml, hown, hw⟩ ((ctX8_bitsOf l G l6 _ hc_38) _) (kS hw calX8_bitsOf kw_21_0 rfl rfl ⟨Nat.le_of_ble_eq_true rfl, Nat.le_of_ble_eq_true rfl⟩) (rpS (hP.sub (ws' := []) [] rfl) hK) rfl rfl hl.1 rfl (lv_room (Nat.le_of_ble_eq_true rfl)) dX8_together_226 ⟨Nat.zero_le _, Nat.zero_le _⟩) hS hA hP (fun H locs hP hS => ?_)
          refine lv_iload hx hb dX8_together_229 (lv_at hl 4 rfl) ?_
          obtain ⟨r_39, hc_40, hf⟩ := bd1_in hf
          refine rcI (va_runS (As := [.int l4]) (rest := [.int r_37]) ⟨hx, hb, hml, hown, hw⟩ ((ctX8_bitsOf l G l4 _ hc_40) _) (kS hw calX8_bitsOf kw_21_0 rfl rfl ⟨Nat.le_of_ble_eq_true rfl, Nat.le_of_ble_eq_true rfl⟩) (rpS (hP.sub (ws' := []) [] rfl) hK) rfl rfl hl.1 rfl (lv_room (Nat.le_of_ble_eq_true rfl)) dX8_together_231 ⟨Nat.zero_le _, Nat.zero_le _⟩) hS hA hP (fun H locs hP hS => ?_)
          refine lv_icmp_lt (tgt := 268) hx hb dX8_together_234 (by decide) (fun c_41 => ?_) (fun c_41 => ?_)
          · have hf := ip c_41 hf
            refine lv_iinc (v := (l6 + 1)) (lv' := [(6, .int (l6 + 1)), (0, .ref t_h), (1, .int v1), (2, .int v2), (3, .int l3), (4, .int l4), (5, .int l5), (7, .int w_34), (8, .int w_35)]) hx hb dX8_together_268 hl (k := 6) rfl (by rfl) (by decide) rfl (fun ls hl => ?_)
            refine lv_goto (tgt := 81) hx hb dX8_together_271 (by decide) ?_
            exact ih _ _ _ _ _ _ hP hD hS (lv_sub hl [1, 2, 3, 4, 5, 6, 0] rfl) hf hX
          · have hf := iq c_41 hf
            refine lv_iload hx hb dX8_together_237 (lv_at hl 6 rfl) ?_
            obtain ⟨r_42, hc_43, hf⟩ := bd1_in hf
            refine rcI (va_runS (As := [.int l6]) (rest := []) ⟨hx, hb, hml, hown, hw⟩ ((ctX8_bitsOf l G l6 _ hc_43) _) (kS hw calX8_bitsOf kw_21_0 rfl rfl ⟨Nat.le_of_ble_eq_true rfl, Nat.le_of_ble_eq_true rfl⟩) (rpS (hP.sub (ws' := []) [] rfl) hK) rfl rfl hl.1 rfl (lv_room (Nat.le_of_ble_eq_true rfl)) dX8_together_239 ⟨Nat.zero_le _, Nat.zero_le _⟩) hS hA hP (fun H locs hP hS => ?_)
            refine lv_iload hx hb dX8_together_242 (lv_at hl 4 rfl) ?_
            obtain ⟨r_44, hc_45, hf⟩ := bd1_in hf
            refine rcI (va_runS (As := [.int l4]) (rest := [.int r_42]) ⟨hx, hb, hml, hown, hw⟩ ((ctX8_bitsOf l G l4 _ hc_45) _) (kS hw calX8_bitsOf kw_21_0 rfl rfl ⟨Nat.le_of_ble_eq_true rfl, Nat.le_of_ble_eq_true rfl⟩) (rpS (hP.sub (ws' := []) [] rfl) hK) rfl rfl hl.1 rfl (lv_room (Nat.le_of_ble_eq_true rfl)) dX8_together_244 ⟨Nat.zero_le _, Nat.zero_le _⟩) hS hA hP (fun H locs hP hS => ?_)
            refine lv_icmp_ne (tgt := 260) hx hb dX8_together_247 (by decide) (fun c_46 => ?_) (fun c_46 => ?_)
            · have hf := iq c_46 hf
              refine lv_iload hx hb dX8_together_260 (lv_at hl 6 rfl) ?_
              refine lv_istore (lv' := [(4, .int l6), (0, .ref t_h), (1, .int v1), (2, .int v2), (3, .int l3), (5, .int l5), (6, .int l6), (7, .int w_34), (8, .int w_35)]) hx hb dX8_together_262 hl (by decide) rfl (fun ls hl => ?_)
              refine lv_iload hx hb dX8_together_264 (lv_at hl 8 rfl) ?_
              refine lv_istore (lv' := [(5, .int w_35), (4, .int l6), (0, .ref t_h), (1, .int v1), (2, .int v2), (3, .int l3), (6, .int l6), (7, .int w_34), (8, .int w_35)]) hx hb dX8_together_266 hl (by decide) rfl (fun ls hl => ?_)
              refine lv_iinc (v := (l6 + 1)) (lv' := [(6, .int (l6 + 1)), (5, .int w_35), (4, .int l6), (0, .ref t_h), (1, .int v1), (2, .int v2), (3, .int l3), (7, .int w_34), (8, .int w_35)]) hx hb dX8_together_268 hl (k := 6) rfl (by rfl) (by decide) rfl (fun ls hl => ?_)
              refine lv_goto (tgt := 81) hx hb dX8_together_271 (by decide) ?_
              exact ih _ _ _ _ _ _ hP hD hS (lv_sub hl [3, 4, 5, 6, 2, 1, 0] rfl) hf hX
            · have hf := ip c_46 hf
              refine lv_iload hx hb dX8_together_250 (lv_at hl 8 rfl) ?_
              refine lv_iload hx hb dX8_together_252 (lv_at hl 5 rfl) ?_
              refine lv_icmp_lt (tgt := 260) hx hb dX8_together_254 (by decide) (fun c_47 => ?_) (fun c_47 => ?_)
              · have hf := ip c_47 hf
                refine lv_iload hx hb dX8_together_260 (lv_at hl 6 rfl) ?_
                refine lv_istore (lv' := [(4, .int l6), (0, .ref t_h), (1, .int v1), (2, .int v2), (3, .int l3), (5, .int l5), (6, .int l6), (7, .int w_34), (8, .int w_35)]) hx hb dX8_together_262 hl (by decide) rfl (fun ls hl => ?_)
                refine lv_iload hx hb dX8_together_264 (lv_at hl 8 rfl) ?_
                refine lv_istore (lv' := [(5, .int w_35), (4, .int l6), (0, .ref t_h), (1, .int v1), (2, .int v2), (3, .int l3), (6, .int l6), (7, .int w_34), (8, .int w_35)]) hx hb dX8_together_266 hl (by decide) rfl (fun ls hl => ?_)
                refine lv_iinc (v := (l6 + 1)) (lv' := [(6, .int (l6 + 1)), (5, .int w_35), (4, .int l6), (0, .ref t_h), (1, .int v1), (2, .int v2), (3, .int l3), (7, .int w_34), (8, .int w_35)]) hx hb dX8_together_268 hl (k := 6) rfl (by rfl) (by decide) rfl (fun ls hl => ?_)
                refine lv_goto (tgt := 81) hx hb dX8_together_271 (by decide) ?_
                exact ih _ _ _ _ _ _ hP hD hS (lv_sub hl [3, 4, 5, 6, 2, 1, 0] rfl) hf hX
              · have hf := iq c_47 hf
                refine lv_goto (tgt := 268) hx hb dX8_together_257 (by decide) ?_
                refine lv_iinc (v := (l6 + 1)) (lv' := [(6, .int (l6 + 1)), (0, .ref t_h), (1, .int v1), (2, .int v2), (3, .int l3), (4, .int l4), (5, .int l5), (7, .int w_34), (8, .int w_35)]) hx hb dX8_together_268 hl (k := 6) rfl (by rfl) (by decide) rfl (fun ls hl => ?_)
                refine lv_goto (tgt := 81) hx hb dX8_together_271 (by decide) ?_
                exact ih _ _ _ _ _ _ hP hD hS (lv_sub hl [1, 2, 3, 4, 5, 6, 0] rfl) hf hX
  unfold fX8_together at hf
  refine lv_aload_n hx hb dX8_together_0 rfl (lv_at hl 0 rfl) ?_
  refine lv_iconst (v := 0) hx hb dX8_together_1 (by decide) ?_
  refine va_put (D := G.1) (ci := 8) (v := .int 0) (ty := .int) (C := RX8) (T := TX8) (N := 33) hx hb hw inW8 tyX8 tyX8_ok nmX8 hown hK.1 hP hD hS 0 rfl rfl 0 (by decide) (hw _ kw_6_21) (fun _ h9 => h9) rfl (by decide +kernel) rfl rfl (Nat.le_of_ble_eq_true rfl) dX8_together_2 (fun H locs hP hD hS => ?_)
  have hP : va_P G.1 vwCl [oX8 t_h t_a 0 t_taped t_at t_behind t_size t_kind t_number t_wrong t_wrongAt t_faultKind t_faultPlace t_x t_wayLong t_bothLeast, arI G (t_a 1) 558 t_all, arI G (t_a 30) 4 t_rowSort, arI G (t_a 31) 4 t_rowMany, arJ G (t_a 32) 160 t_numbers] H := hP
  have hD : va_D A [oX8 t_h t_a 0 t_taped t_at t_behind t_size t_kind t_number t_wrong t_wrongAt t_faultKind t_faultPlace t_x t_wayLong t_bothLeast, arI G (t_a 1) 558 t_all, arI G (t_a 30) 4 t_rowSort, arI G (t_a 31) 4 t_rowMany, arJ G (t_a 32) 160 t_numbers] := hD
  refine lv_iload_n hx hb dX8_together_5 rfl (lv_at hl 1 rfl) ?_
  refine lv_i2l hx hb dX8_together_6 rfl ?_
  refine lv_lconst (v := 0) hx hb dX8_together_7 (by decide) ?_
  refine lv_ldc2 hx hb hown (hw _ kw_20_3) dX8_together_8 ?_
  obtain ⟨r_1, hc_2, hf⟩ := bd1_in hf
  refine rcI (va_runS (As := [.long (Int32.toInt64 v1), .long 0, .long 3]) (rest := []) ⟨hx, hb, hml, hown, hw⟩ ((ctX8_within l G (Int32.toInt64 v1) 0 3 _ hc_2) _) (kS hw calX8_within kw_14_2 rfl rfl ⟨Nat.le_of_ble_eq_true rfl, Nat.le_of_ble_eq_true rfl⟩) (rpS (hP.sub (ws' := []) [] rfl) hK) rfl rfl hl.1 rfl (lv_room (Nat.le_of_ble_eq_true rfl)) dX8_together_11 ⟨Nat.zero_le _, Nat.zero_le _⟩) hS hA hP (fun H locs hP hS => ?_)
  refine lv_if_eq (tgt := 29) hx hb dX8_together_14 (by decide) (fun c_3 => ?_) (fun c_3 => ?_)
  · have hf := ip c_3 hf
    refine lv_bipush (v := (-2)) hx hb dX8_together_29 (by decide) ?_
    exact hRet _ _ _ _ _ _ hf hP hS dX8_together_31
  · have hf := iq c_3 hf
    refine lv_iload_n hx hb dX8_together_17 rfl (lv_at hl 2 rfl) ?_
    refine lv_i2l hx hb dX8_together_18 rfl ?_
    refine lv_lconst (v := 0) hx hb dX8_together_19 (by decide) ?_
    refine lv_ldc2 hx hb hown (hw _ kw_38_9) dX8_together_20 ?_
    obtain ⟨r_4, hc_5, hf⟩ := bd1_in hf
    refine rcI (va_runS (As := [.long (Int32.toInt64 v2), .long 0, .long 2]) (rest := []) ⟨hx, hb, hml, hown, hw⟩ ((ctX8_within l G (Int32.toInt64 v2) 0 2 _ hc_5) _) (kS hw calX8_within kw_14_2 rfl rfl ⟨Nat.le_of_ble_eq_true rfl, Nat.le_of_ble_eq_true rfl⟩) (rpS (hP.sub (ws' := []) [] rfl) hK) rfl rfl hl.1 rfl (lv_room (Nat.le_of_ble_eq_true rfl)) dX8_together_23 ⟨Nat.zero_le _, Nat.zero_le _⟩) hS hA hP (fun H locs hP hS => ?_)
    refine lv_if_ne (tgt := 32) hx hb dX8_together_26 (by decide) (fun c_6 => ?_) (fun c_6 => ?_)
    · have hf := iq c_6 hf
      refine lv_aload_n hx hb dX8_together_32 rfl (lv_at hl 0 rfl) ?_
      refine va_get (D := G.1) (ci := 8) (v := .ref (t_a 30)) (C := RX8) (T := TX8) (N := 33) hx hb hw inW8 hown hK.1 hP 0 rfl rfl 30 (by decide) (hw _ kw_6_5) (fun _ h9 => h9) rfl dX8_together_33 ?_
      refine lv_iload_n hx hb dX8_together_36 rfl (lv_at hl 1 rfl) ?_
      obtain ⟨hi_8, hf⟩ := rdI_in hf
      refine va_iald hx hb hK.1 hP 2 0 rfl rfl hi_8 dX8_together_37 ?_
      refine lv_topi (fun x_7 ex_7 => ?_)
      have hf := hf x_7 ex_7
      refine lv_iconst (v := (-1)) hx hb dX8_together_38 (by decide) ?_
      refine lv_icmp_ne (tgt := 45) hx hb dX8_together_39 (by decide) (fun c_9 => ?_) (fun c_9 => ?_)
      · have hf := iq c_9 hf
        refine lv_aload_n hx hb dX8_together_45 rfl (lv_at hl 0 rfl) ?_
        refine lv_iload_n hx hb dX8_together_46 rfl (lv_at hl 1 rfl) ?_
        obtain ⟨r_10, hc_11, hf⟩ := bd1_in hf
        refine rcI (va_runV (As := [.int v1]) (rest := []) ⟨hx, hb, hml, hown, hw⟩ ((ctX8_arePairs l G t_h t_a 0 t_all t_taped t_at t_behind t_size t_kind t_number t_wrong t_wrongAt t_faultKind t_faultPlace t_x t_wayLong t_bothLeast t_rowMany t_numbers v1 _ hc_11) _) (kV hw calX8_arePairs kw_41_2 rfl rfl ⟨Nat.le_of_ble_eq_true rfl, Nat.le_of_ble_eq_true rfl⟩) (rpV (hP.sub (ws' := [oX8 t_h t_a 0 t_taped t_at t_behind t_size t_kind t_number t_wrong t_wrongAt t_faultKind t_faultPlace t_x t_wayLong t_bothLeast, arI G (t_a 1) 558 t_all, arI G (t_a 31) 4 t_rowMany, arJ G (t_a 32) 160 t_numbers]) [0, 1, 3, 4] rfl) hK (ci := 8) (q0 := 0) rfl rfl) rfl rfl hl.1 rfl (lv_room (Nat.le_of_ble_eq_true rfl)) dX8_together_47 ⟨Nat.zero_le _, Nat.zero_le _⟩) hS hA hP (fun H locs hP hS => ?_)
        refine lv_if_ne (tgt := 56) hx hb dX8_together_50 (by decide) (fun c_12 => ?_) (fun c_12 => ?_)
        · have hf := iq c_12 hf
          refine lv_aload_n hx hb dX8_together_56 rfl (lv_at hl 0 rfl) ?_
          refine va_get (D := G.1) (ci := 8) (v := .ref (t_a 31)) (C := RX8) (T := TX8) (N := 33) hx hb hw inW8 hown hK.1 hP 0 rfl rfl 31 (by decide) (hw _ kw_6_6) (fun _ h9 => h9) rfl dX8_together_57 ?_
          refine lv_iload_n hx hb dX8_together_60 rfl (lv_at hl 1 rfl) ?_
          obtain ⟨hi_14, hf⟩ := rdI_in hf
          refine va_iald hx hb hK.1 hP 3 0 rfl rfl hi_14 dX8_together_61 ?_
          refine lv_topi (fun x_13 ex_13 => ?_)
          have hf := hf x_13 ex_13
          refine lv_istore_n (lv' := [(3, .int x_13), (0, .ref t_h), (1, .int v1), (2, .int v2)]) hx hb dX8_together_62 rfl hl (by decide) rfl (fun ls hl => ?_)
          refine lv_iload_n hx hb dX8_together_63 rfl (lv_at hl 0 rfl) ?_
          refine lv_bipush (v := 12) hx hb dX8_together_64 (by decide) ?_
          refine lv_icmp_le (tgt := 72) hx hb dX8_together_66 (by decide) (fun c_15 => ?_) (fun c_15 => ?_)
          · have hf := ip c_15 hf
            refine lv_iconst (v := 0) hx hb dX8_together_72 (by decide) ?_
            refine lv_istore (lv' := [(4, .int 0), (3, .int x_13), (0, .ref t_h), (1, .int v1), (2, .int v2)]) hx hb dX8_together_73 hl (by decide) rfl (fun ls hl => ?_)
            refine lv_iconst (v := 0) hx hb dX8_together_75 (by decide) ?_
            refine lv_istore (lv' := [(5, .int 0), (4, .int 0), (3, .int x_13), (0, .ref t_h), (1, .int v1), (2, .int v2)]) hx hb dX8_together_76 hl (by decide) rfl (fun ls hl => ?_)
            refine lv_iconst (v := 1) hx hb dX8_together_78 (by decide) ?_
            refine lv_istore (lv' := [(6, .int 1), (5, .int 0), (4, .int 0), (3, .int x_13), (0, .ref t_h), (1, .int v1), (2, .int v2)]) hx hb dX8_together_79 hl (by decide) rfl (fun ls hl => ?_)
            refine L81 _ _ _ _ _ _ _ _ _ _ hP hD hS (lv_sub hl [4, 5, 6, 3, 2, 1, 0] rfl) hf (fun w_48 w_49 H locs ls hP hD hS hl hf => ?_)
            refine lv_iload_n hx hb dX8_together_274 rfl (lv_at hl 0 rfl) ?_
            refine lv_if_ne (tgt := 286) hx hb dX8_together_275 (by decide) (fun c_50 => ?_) (fun c_50 => ?_)
            · have hf := iq c_50 hf
              refine lv_iload_n hx hb dX8_together_286 rfl (lv_at hl 0 rfl) ?_
              refine lv_iconst (v := 1) hx hb dX8_together_287 (by decide) ?_
              refine lv_icmp_ne (tgt := 296) hx hb dX8_together_288 (by decide) (fun c_51 => ?_) (fun c_51 => ?_)
              · have hf := iq c_51 hf
                refine lv_iload hx hb dX8_together_296 (lv_at hl 1 rfl) ?_
                exact hRet _ _ _ _ _ _ hf hP hS dX8_together_298
              · have hf := ip c_51 hf
                refine lv_iload hx hb dX8_together_291 (lv_at hl 2 rfl) ?_
                refine lv_goto (tgt := 298) hx hb dX8_together_293 (by decide) ?_
                exact hRet _ _ _ _ _ _ hf hP hS dX8_together_298
            · have hf := ip c_50 hf
              refine lv_iload hx hb dX8_together_278 (lv_at hl 1 rfl) ?_
              obtain ⟨r_52, hc_53, hf⟩ := bd1_in hf
              refine rcI (va_runS (As := [.int w_48]) (rest := []) ⟨hx, hb, hml, hown, hw⟩ ((ctX8_bitsOf l G w_48 _ hc_53) _) (kS hw calX8_bitsOf kw_21_0 rfl rfl ⟨Nat.le_of_ble_eq_true rfl, Nat.le_of_ble_eq_true rfl⟩) (rpS (hP.sub (ws' := []) [] rfl) hK) rfl rfl hl.1 rfl (lv_room (Nat.le_of_ble_eq_true rfl)) dX8_together_280 ⟨Nat.zero_le _, Nat.zero_le _⟩) hS hA hP (fun H locs hP hS => ?_)
              refine lv_goto (tgt := 298) hx hb dX8_together_283 (by decide) ?_
              exact hRet _ _ _ _ _ _ hf hP hS dX8_together_298
          · have hf := iq c_15 hf
            refine lv_bipush (v := (-4)) hx hb dX8_together_69 (by decide) ?_
            exact hRet _ _ _ _ _ _ hf hP hS dX8_together_71
        · have hf := ip c_12 hf
          refine lv_bipush (v := (-3)) hx hb dX8_together_53 (by decide) ?_
          exact hRet _ _ _ _ _ _ hf hP hS dX8_together_55
      · have hf := ip c_9 hf
        refine lv_bipush (v := (-6)) hx hb dX8_together_42 (by decide) ?_
        exact hRet _ _ _ _ _ _ hf hP hS dX8_together_44
    · have hf := ip c_6 hf
      refine lv_bipush (v := (-2)) hx hb dX8_together_29 (by decide) ?_
      exact hRet _ _ _ _ _ _ hf hP hS dX8_together_31
theorem calX8_shut : CalV yX8_shut cX8_shut 5 (some .int) 2 := ⟨⟨kw_41_17, kw_1_5, by decide +kernel⟩, kw_41_15, kw_41_16⟩
set_option maxHeartbeats 8000000 in
set_option maxRecDepth 100000 in
theorem ctX8_shut (l : Launch) (G : GT) (t_h : Nat) (t_a : Nat → Nat) (t_thrown : Int32) (t_all : Nat → Int32) (t_taped : Int32) (t_at : Int32) (t_behind : Int32) (t_size : Int32) (t_kind : Int32) (t_number : Int32) (t_wrong : Int32) (t_wrongAt : Int32) (t_faultKind : Int32) (t_faultPlace : Int32) (t_x : Int32) (t_wayLong : Int32) (t_bothLeast : Int32) (t_rowSort : Nat → Int32) (t_rowMany : Nat → Int32) (t_numbers : Nat → Int64) (v1 : Int32) (v2 : Int32) (r : Int32) (o_t_thrown : Int32) (hf : fX8_shut t_thrown t_all t_rowSort t_rowMany t_numbers v1 v2 = some (r, o_t_thrown)) : WrI l yX8_shut (Cond.code yX8_shut cX8_shut 5 (some .int)) { frames := 4, cells := 0, slots := 0, locals := 91 } G [.ref t_h, .int v1, .int v2] [oX8 t_h t_a t_thrown t_taped t_at t_behind t_size t_kind t_number t_wrong t_wrongAt t_faultKind t_faultPlace t_x t_wayLong t_bothLeast, arI G (t_a 1) 558 t_all, arI G (t_a 30) 4 t_rowSort, arI G (t_a 31) 4 t_rowMany, arJ G (t_a 32) 160 t_numbers] [oX8 t_h t_a o_t_thrown t_taped t_at t_behind t_size t_kind t_number t_wrong t_wrongAt t_faultKind t_faultPlace t_x t_wayLong t_bothLeast, arI G (t_a 1) 558 t_all, arI G (t_a 30) 4 t_rowSort, arI G (t_a 31) 4 t_rowMany, arJ G (t_a 32) 160 t_numbers] r := by
  intro sz
  refine Met.ofW (cc := cX8_shut) (maxL := 5) (ret := (some .int)) (by decide) rfl ?_
  intro p e s m args below meth c s₁ B hml hv
  obtain ⟨hargs, hsz, hP, hD0, hK⟩ := hv
  subst hsz
  obtain ⟨hx, hb, hr, hw, hown, hlk⟩ := fwB B
  refine fw_enter hargs (Nat.le_of_ble_eq_true rfl) (fun ls hl => ?_)
  have hl : lv_has ls 5 [(0, .ref t_h), (1, .int v1), (2, .int v2)] := hl
  refine fw_Q (P := fun Q => ∃ A : Nat → Prop, va_D A [oX8 t_h t_a t_thrown t_taped t_at t_behind t_size t_kind t_number t_wrong t_wrongAt t_faultKind t_faultPlace t_x t_wayLong t_bothLeast, arI G (t_a 1) 558 t_all, arI G (t_a 30) 4 t_rowSort, arI G (t_a 31) 4 t_rowMany, arJ G (t_a 32) 160 t_numbers] ∧ va_S A s.heap s.heap [] ∧ (∀ q, s.heap.size ≤ q → A q) ∧ ∀ (v : Int32) (n_t_thrown : Int32) (H : Heap) (locs : List Loc) (pc : Nat) (ls : Array Slot), some (v, n_t_thrown) = some (r, o_t_thrown) → va_P G.1 vwCl [oX8 t_h t_a n_t_thrown t_taped t_at t_behind t_size t_kind t_number t_wrong t_wrongAt t_faultKind t_faultPlace t_x t_wayLong t_bothLeast, arI G (t_a 1) 558 t_all, arI G (t_a 30) 4 t_rowSort, arI G (t_a 31) 4 t_rowMany, arJ G (t_a 32) 160 t_numbers] H → va_S A s.heap H locs → decode cX8_shut pc = .ok (.ireturn, 1) → W p l e ({ frames := 4, cells := 0, slots := 0, locals := 91 } : Room) s m args below meth c H locs 0 0 Q (F0 m pc ls [.int v])) ⟨va_A [oX8 t_h t_a t_thrown t_taped t_at t_behind t_size t_kind t_number t_wrong t_wrongAt t_faultKind t_faultPlace t_x t_wayLong t_bothLeast, arI G (t_a 1) 558 t_all, arI G (t_a 30) 4 t_rowSort, arI G (t_a 31) 4 t_rowMany, arJ G (t_a 32) 160 t_numbers] s.heap.size, hD0.self (sz := s.heap.size), va_S.rf, fun q h => Or.inr h, ?_⟩ ?_
  · intro v n_t_thrown H locs pc ls h hP hS hd
    cases h
    exact retWI hx hb hr hlk hS hP rfl hd
  rintro Q ⟨A, hD, hS, hA, hRet⟩
  change W p l e ({ frames := 4, cells := 0, slots := 0, locals := 91 } : Room) s m args below meth c _ _ 0 0 Q _
  have L70 : ∀ (t_thrown : Int32) (K : Int32 → Option (Int32 × Int32)) (n : Nat) (l3 : Int32) (l4 : Int32) (H : Heap) (locs : List Loc) (ls : Array Slot), va_P G.1 vwCl [oX8 t_h t_a t_thrown t_taped t_at t_behind t_size t_kind t_number t_wrong t_wrongAt t_faultKind t_faultPlace t_x t_wayLong t_bothLeast, arI G (t_a 1) 558 t_all, arI G (t_a 30) 4 t_rowSort, arI G (t_a 31) 4 t_rowMany, arJ G (t_a 32) 160 t_numbers] H → va_D A [oX8 t_h t_a t_thrown t_taped t_at t_behind t_size t_kind t_number t_wrong t_wrongAt t_faultKind t_faultPlace t_x t_wayLong t_bothLeast, arI G (t_a 1) 558 t_all, arI G (t_a 30) 4 t_rowSort, arI G (t_a 31) 4 t_rowMany, arJ G (t_a 32) 160 t_numbers] → va_S A s.heap H locs → lv_has ls 5 [(0, .ref t_h), (1, .int v1), (2, .int v2), (3, .int l3), (4, .int l4)] → fX8_shut_70 v1 v2 t_rowMany t_numbers K n l3 l4 = some (r, o_t_thrown) → (∀ (k3 : Int32) (H : Heap) (locs : List Loc) (ls : Array Slot), va_P G.1 vwCl [oX8 t_h t_a t_thrown t_taped t_at t_behind t_size t_kind t_number t_wrong t_wrongAt t_faultKind t_faultPlace t_x t_wayLong t_bothLeast, arI G (t_a 1) 558 t_all, arI G (t_a 30) 4 t_rowSort, arI G (t_a 31) 4 t_rowMany, arJ G (t_a 32) 160 t_numbers] H → va_D A [oX8 t_h t_a t_thrown t_taped t_at t_behind t_size t_kind t_number t_wrong t_wrongAt t_faultKind t_faultPlace t_x t_wayLong t_bothLeast, arI G (t_a 1) 558 t_all, arI G (t_a 30) 4 t_rowSort, arI G (t_a 31) 4 t_rowMany, arJ G (t_a 32) 160 t_numbers] → va_S A s.heap H locs → lv_has ls 5 [(3, .int k3)] → K k3 = some (r, o_t_thrown) → W p l e ({ frames := 4, cells := 0, slots := 0, locals := 91 } : Room) s m args below meth c H locs 0 0 Q (F0 m 106 ls [])) → W p l e ({ frames := 4, cells := 0, slots := 0, locals := 91 } : Room) s m args below meth c H locs 0 0 Q (F0 m 70 ls []) := by
    intro t_thrown K n
    induction n with
    | zero => intro l3 l4 H locs ls hP hD hS hl hf; rw [fX8_shut_70] at hf; cases hf
    | succ n ih =>
      intro l3 l4 H locs ls hP hD hS hl hf hX
      rw [fX8_shut_70] at hf
      refine lv_iload hx hb dX8_shut_70 (lv_at hl 4 rfl) ?_
      refine lv_aload_n hx hb dX8_shut_72 rfl (lv_at hl 0 rfl) ?_
      refine va_get (D := G.1) (ci := 8) (v := .ref (t_a 31)) (C := RX8) (T := TX8) (N := 33) hx hb hw inW8 hown hK.1 hP 0 rfl rfl 31 (by decide) (hw _ kw_6_6) (fun _ h9 => h9) rfl dX8_shut_73 ?_
      refine lv_iload_n hx hb dX8_shut_76 rfl (lv_at hl 1 rfl) ?_
      obtain ⟨hi_16, hf⟩ := rdI_in hf
      refine va_iald hx hb hK.1 hP 3 0 rfl rfl hi_16 dX8_shut_77 ?_
      refine lv_topi (fun x_15 ex_15 => ?_)
      have hf := hf x_15 ex_15
      refine lv_icmp_ge (tgt := 106) hx hb dX8_shut_78 (by decide) (fun c_17 => ?_) (fun c_17 => ?_)
      · have hf := ip c_17 hf
        exact hX _ _ _ _ hP hD hS (lv_sub hl [3] rfl) hf
      · have hf := iq c_17 hf
        refine lv_iload_n hx hb dX8_shut_81 rfl (lv_at hl 3 rfl) ?_
        refine lv_aload_n hx hb dX8_shut_82 rfl (lv_at hl 0 rfl) ?_
        refine lv_iload_n hx hb dX8_shut_83 rfl (lv_at hl 1 rfl) ?_
        refine lv_iload_n hx hb dX8_shut_84 rfl (lv_at hl 2 rfl) ?_
        refine lv_iload hx hb dX8_shut_85 (lv_at hl 4 rfl) ?_
        obtain ⟨r_18, hc_19, hf⟩ := bd1_in hf
        refine rcI (va_runV (As := [.int v1, .int v2, .int l4]) (rest := [.int l3]) ⟨hx, hb, hml, hown, hw⟩ ((ctX8_areCrossed l G t_h t_a t_thrown t_taped t_at t_behind t_size t_kind t_number t_wrong t_wrongAt t_faultKind t_faultPlace t_x t_wayLong t_bothLeast t_numbers v1 v2 l4 _ hc_19) _) (kV hw calX8_areCrossed kw_41_6 rfl rfl ⟨Nat.le_of_ble_eq_true rfl, Nat.le_of_ble_eq_true rfl⟩) (rpV (hP.sub (ws' := [oX8 t_h t_a t_thrown t_taped t_at t_behind t_size t_kind t_number t_wrong t_wrongAt t_faultKind t_faultPlace t_x t_wayLong t_bothLeast, arJ G (t_a 32) 160 t_numbers]) [0, 4] rfl) hK (ci := 8) (q0 := 0) rfl rfl) rfl rfl hl.1 rfl (lv_room (Nat.le_of_ble_eq_true rfl)) dX8_shut_87 ⟨Nat.zero_le _, Nat.zero_le _⟩) hS hA hP (fun H locs hP hS => ?_)
        refine lv_if_eq (tgt := 97) hx hb dX8_shut_90 (by decide) (fun c_20 => ?_) (fun c_20 => ?_)
        · have hf := ip c_20 hf
          refine lv_iconst (v := 0) hx hb dX8_shut_97 (by decide) ?_
          refine lv_iadd hx hb dX8_shut_98 ?_
          refine lv_topi (fun y_21 ey_21 => ?_)
          have hf := bnd_all hf y_21 ey_21
          refine lv_istore_n (lv' := [(3, .int y_21), (0, .ref t_h), (1, .int v1), (2, .int v2), (4, .int l4)]) hx hb dX8_shut_99 rfl hl (by decide) rfl (fun ls hl => ?_)
          refine lv_iinc (v := (l4 + 1)) (lv' := [(4, .int (l4 + 1)), (3, .int y_21), (0, .ref t_h), (1, .int v1), (2, .int v2)]) hx hb dX8_shut_100 hl (k := 4) rfl (by rfl) (by decide) rfl (fun ls hl => ?_)
          refine lv_goto (tgt := 70) hx hb dX8_shut_103 (by decide) ?_
          exact ih _ _ _ _ _ hP hD hS (lv_sub hl [2, 3, 4, 1, 0] rfl) hf hX
        · have hf := iq c_20 hf
          refine lv_iconst (v := 1) hx hb dX8_shut_93 (by decide) ?_
          refine lv_goto (tgt := 98) hx hb dX8_shut_94 (by decide) ?_
          refine lv_iadd hx hb dX8_shut_98 ?_
          refine lv_topi (fun y_22 ey_22 => ?_)
          have hf := bnd_all hf y_22 ey_22
          refine lv_istore_n (lv' := [(3, .int y_22), (0, .ref t_h), (1, .int v1), (2, .int v2), (4, .int l4)]) hx hb dX8_shut_99 rfl hl (by decide) rfl (fun ls hl => ?_)
          refine lv_iinc (v := (l4 + 1)) (lv' := [(4, .int (l4 + 1)), (3, .int y_22), (0, .ref t_h), (1, .int v1), (2, .int v2)]) hx hb dX8_shut_100 hl (k := 4) rfl (by rfl) (by decide) rfl (fun ls hl => ?_)
          refine lv_goto (tgt := 70) hx hb dX8_shut_103 (by decide) ?_
          exact ih _ _ _ _ _ hP hD hS (lv_sub hl [2, 3, 4, 1, 0] rfl) hf hX
  unfold fX8_shut at hf
  refine lv_aload_n hx hb dX8_shut_0 rfl (lv_at hl 0 rfl) ?_
  refine lv_iconst (v := 0) hx hb dX8_shut_1 (by decide) ?_
  refine va_put (D := G.1) (ci := 8) (v := .int 0) (ty := .int) (C := RX8) (T := TX8) (N := 33) hx hb hw inW8 tyX8 tyX8_ok nmX8 hown hK.1 hP hD hS 0 rfl rfl 0 (by decide) (hw _ kw_6_21) (fun _ h9 => h9) rfl (by decide +kernel) rfl rfl (Nat.le_of_ble_eq_true rfl) dX8_shut_2 (fun H locs hP hD hS => ?_)
  have hP : va_P G.1 vwCl [oX8 t_h t_a 0 t_taped t_at t_behind t_size t_kind t_number t_wrong t_wrongAt t_faultKind t_faultPlace t_x t_wayLong t_bothLeast, arI G (t_a 1) 558 t_all, arI G (t_a 30) 4 t_rowSort, arI G (t_a 31) 4 t_rowMany, arJ G (t_a 32) 160 t_numbers] H := hP
  have hD : va_D A [oX8 t_h t_a 0 t_taped t_at t_behind t_size t_kind t_number t_wrong t_wrongAt t_faultKind t_faultPlace t_x t_wayLong t_bothLeast, arI G (t_a 1) 558 t_all, arI G (t_a 30) 4 t_rowSort, arI G (t_a 31) 4 t_rowMany, arJ G (t_a 32) 160 t_numbers] := hD
  refine lv_iload_n hx hb dX8_shut_5 rfl (lv_at hl 1 rfl) ?_
  refine lv_i2l hx hb dX8_shut_6 rfl ?_
  refine lv_lconst (v := 0) hx hb dX8_shut_7 (by decide) ?_
  refine lv_ldc2 hx hb hown (hw _ kw_20_3) dX8_shut_8 ?_
  obtain ⟨r_1, hc_2, hf⟩ := bd1_in hf
  refine rcI (va_runS (As := [.long (Int32.toInt64 v1), .long 0, .long 3]) (rest := []) ⟨hx, hb, hml, hown, hw⟩ ((ctX8_within l G (Int32.toInt64 v1) 0 3 _ hc_2) _) (kS hw calX8_within kw_14_2 rfl rfl ⟨Nat.le_of_ble_eq_true rfl, Nat.le_of_ble_eq_true rfl⟩) (rpS (hP.sub (ws' := []) [] rfl) hK) rfl rfl hl.1 rfl (lv_room (Nat.le_of_ble_eq_true rfl)) dX8_shut_11 ⟨Nat.zero_le _, Nat.zero_le _⟩) hS hA hP (fun H locs hP hS => ?_)
  refine lv_if_ne (tgt := 20) hx hb dX8_shut_14 (by decide) (fun c_3 => ?_) (fun c_3 => ?_)
  · have hf := iq c_3 hf
    refine lv_aload_n hx hb dX8_shut_20 rfl (lv_at hl 0 rfl) ?_
    refine va_get (D := G.1) (ci := 8) (v := .ref (t_a 30)) (C := RX8) (T := TX8) (N := 33) hx hb hw inW8 hown hK.1 hP 0 rfl rfl 30 (by decide) (hw _ kw_6_5) (fun _ h9 => h9) rfl dX8_shut_21 ?_
    refine lv_iload_n hx hb dX8_shut_24 rfl (lv_at hl 1 rfl) ?_
    obtain ⟨hi_5, hf⟩ := rdI_in hf
    refine va_iald hx hb hK.1 hP 2 0 rfl rfl hi_5 dX8_shut_25 ?_
    refine lv_topi (fun x_4 ex_4 => ?_)
    have hf := hf x_4 ex_4
    refine lv_iconst (v := (-1)) hx hb dX8_shut_26 (by decide) ?_
    refine lv_icmp_ne (tgt := 33) hx hb dX8_shut_27 (by decide) (fun c_6 => ?_) (fun c_6 => ?_)
    · have hf := iq c_6 hf
      refine lv_iload_n hx hb dX8_shut_33 rfl (lv_at hl 2 rfl) ?_
      refine lv_i2l hx hb dX8_shut_34 rfl ?_
      refine lv_lconst (v := 0) hx hb dX8_shut_35 (by decide) ?_
      refine lv_aload_n hx hb dX8_shut_36 rfl (lv_at hl 0 rfl) ?_
      refine va_get (D := G.1) (ci := 8) (v := .ref (t_a 31)) (C := RX8) (T := TX8) (N := 33) hx hb hw inW8 hown hK.1 hP 0 rfl rfl 31 (by decide) (hw _ kw_6_6) (fun _ h9 => h9) rfl dX8_shut_37 ?_
      refine lv_iload_n hx hb dX8_shut_40 rfl (lv_at hl 1 rfl) ?_
      obtain ⟨hi_8, hf⟩ := rdI_in hf
      refine va_iald hx hb hK.1 hP 3 0 rfl rfl hi_8 dX8_shut_41 ?_
      refine lv_topi (fun x_7 ex_7 => ?_)
      have hf := hf x_7 ex_7
      refine lv_iconst (v := 1) hx hb dX8_shut_42 (by decide) ?_
      refine lv_isub hx hb dX8_shut_43 ?_
      refine lv_i2l hx hb dX8_shut_44 rfl ?_
      obtain ⟨r_9, hc_10, hf⟩ := bd1_in hf
      refine rcI (va_runS (As := [.long (Int32.toInt64 v2), .long 0, .long (Int32.toInt64 (x_7 - 1))]) (rest := []) ⟨hx, hb, hml, hown, hw⟩ ((ctX8_within l G (Int32.toInt64 v2) 0 (Int32.toInt64 (x_7 - 1)) _ hc_10) _) (kS hw calX8_within kw_14_2 rfl rfl ⟨Nat.le_of_ble_eq_true rfl, Nat.le_of_ble_eq_true rfl⟩) (rpS (hP.sub (ws' := []) [] rfl) hK) rfl rfl hl.1 rfl (lv_room (Nat.le_of_ble_eq_true rfl)) dX8_shut_45 ⟨Nat.zero_le _, Nat.zero_le _⟩) hS hA hP (fun H locs hP hS => ?_)
      refine lv_if_ne (tgt := 54) hx hb dX8_shut_48 (by decide) (fun c_11 => ?_) (fun c_11 => ?_)
      · have hf := iq c_11 hf
        refine lv_aload_n hx hb dX8_shut_54 rfl (lv_at hl 0 rfl) ?_
        refine lv_iload_n hx hb dX8_shut_55 rfl (lv_at hl 1 rfl) ?_
        obtain ⟨r_12, hc_13, hf⟩ := bd1_in hf
        refine rcI (va_runV (As := [.int v1]) (rest := []) ⟨hx, hb, hml, hown, hw⟩ ((ctX8_arePairs l G t_h t_a 0 t_all t_taped t_at t_behind t_size t_kind t_number t_wrong t_wrongAt t_faultKind t_faultPlace t_x t_wayLong t_bothLeast t_rowMany t_numbers v1 _ hc_13) _) (kV hw calX8_arePairs kw_41_2 rfl rfl ⟨Nat.le_of_ble_eq_true rfl, Nat.le_of_ble_eq_true rfl⟩) (rpV (hP.sub (ws' := [oX8 t_h t_a 0 t_taped t_at t_behind t_size t_kind t_number t_wrong t_wrongAt t_faultKind t_faultPlace t_x t_wayLong t_bothLeast, arI G (t_a 1) 558 t_all, arI G (t_a 31) 4 t_rowMany, arJ G (t_a 32) 160 t_numbers]) [0, 1, 3, 4] rfl) hK (ci := 8) (q0 := 0) rfl rfl) rfl rfl hl.1 rfl (lv_room (Nat.le_of_ble_eq_true rfl)) dX8_shut_56 ⟨Nat.zero_le _, Nat.zero_le _⟩) hS hA hP (fun H locs hP hS => ?_)
        refine lv_if_ne (tgt := 65) hx hb dX8_shut_59 (by decide) (fun c_14 => ?_) (fun c_14 => ?_)
        · have hf := iq c_14 hf
          refine lv_iconst (v := 0) hx hb dX8_shut_65 (by decide) ?_
          refine lv_istore_n (lv' := [(3, .int 0), (0, .ref t_h), (1, .int v1), (2, .int v2)]) hx hb dX8_shut_66 rfl hl (by decide) rfl (fun ls hl => ?_)
          refine lv_iconst (v := 0) hx hb dX8_shut_67 (by decide) ?_
          refine lv_istore (lv' := [(4, .int 0), (3, .int 0), (0, .ref t_h), (1, .int v1), (2, .int v2)]) hx hb dX8_shut_68 hl (by decide) rfl (fun ls hl => ?_)
          refine L70 _ _ _ _ _ _ _ _ hP hD hS (lv_sub hl [2, 3, 4, 1, 0] rfl) hf (fun w_23 H locs ls hP hD hS hl hf => ?_)
          refine lv_iload_n hx hb dX8_shut_106 rfl (lv_at hl 0 rfl) ?_
          exact hRet _ _ _ _ _ _ hf hP hS dX8_shut_107
        · have hf := ip c_14 hf
          refine lv_bipush (v := (-3)) hx hb dX8_shut_62 (by decide) ?_
          exact hRet _ _ _ _ _ _ hf hP hS dX8_shut_64
      · have hf := ip c_11 hf
        refine lv_bipush (v := (-7)) hx hb dX8_shut_51 (by decide) ?_
        exact hRet _ _ _ _ _ _ hf hP hS dX8_shut_53
    · have hf := ip c_6 hf
      refine lv_bipush (v := (-6)) hx hb dX8_shut_30 (by decide) ?_
      exact hRet _ _ _ _ _ _ hf hP hS dX8_shut_32
  · have hf := ip c_3 hf
    refine lv_bipush (v := (-2)) hx hb dX8_shut_17 (by decide) ?_
    exact hRet _ _ _ _ _ _ hf hP hS dX8_shut_19
theorem calX8_adds : CalS yX8_adds cX8_adds 5 none 5 := ⟨⟨kw_42_8, kw_1_5, by decide +kernel⟩, kw_42_7⟩
set_option maxHeartbeats 8000000 in
set_option maxRecDepth 100000 in
theorem ctX8_adds (l : Launch) (G : GT) (p0_n : Nat) (p0_q : Nat) (p1_n : Nat) (p1_q : Nat) (p0_f : Nat → Int32) (p1_f : Nat → Int32) (v2 : Int32) (v3 : Int32) (v4 : Int32) (o_p0_f : Nat → Int32) (o_p1_f : Nat → Int32) (hf : fX8_adds p0_n p1_n p0_f p1_f v2 v3 v4 = some (o_p0_f, o_p1_f)) : WrV l yX8_adds (Cond.code yX8_adds cX8_adds 5 none) { frames := 0, cells := 0, slots := 0, locals := 0 } G [.ref p0_q, .ref p1_q, .int v2, .int v3, .int v4] [arI G p0_q p0_n p0_f, arI G p1_q p1_n p1_f] [arI G p0_q p0_n o_p0_f, arI G p1_q p1_n o_p1_f] := by
  intro sz
  refine Met.ofW (cc := cX8_adds) (maxL := 5) (ret := none) (by decide) rfl ?_
  intro p e s m args below meth c s₁ B hml hv
  obtain ⟨hargs, hsz, hP, hD0, hK⟩ := hv
  subst hsz
  obtain ⟨hx, hb, hr, hw, hown, hlk⟩ := fwB B
  refine fw_enter hargs (Nat.le_of_ble_eq_true rfl) (fun ls hl => ?_)
  have hl : lv_has ls 5 [(0, .ref p0_q), (1, .ref p1_q), (2, .int v2), (3, .int v3), (4, .int v4)] := hl
  refine fw_Q (P := fun Q => ∃ A : Nat → Prop, va_D A [arI G p0_q p0_n p0_f, arI G p1_q p1_n p1_f] ∧ va_S A s.heap s.heap [] ∧ (∀ q, s.heap.size ≤ q → A q) ∧ ∀ (n_p0_f : Nat → Int32) (n_p1_f : Nat → Int32) (H : Heap) (locs : List Loc) (pc : Nat) (ls : Array Slot), some (n_p0_f, n_p1_f) = some (o_p0_f, o_p1_f) → va_P G.1 vwCl [arI G p0_q p0_n n_p0_f, arI G p1_q p1_n n_p1_f] H → va_S A s.heap H locs → decode cX8_adds pc = .ok (.return_, 1) → W p l e ({ frames := 0, cells := 0, slots := 0, locals := 0 } : Room) s m args below meth c H locs 0 0 Q (F0 m pc ls [])) ⟨va_A [arI G p0_q p0_n p0_f, arI G p1_q p1_n p1_f] s.heap.size, hD0.self (sz := s.heap.size), va_S.rf, fun q h => Or.inr h, ?_⟩ ?_
  · intro n_p0_f n_p1_f H locs pc ls h hP hS hd
    cases h
    exact retWV hx hb hr hlk hS hP hd
  rintro Q ⟨A, hD, hS, hA, hRet⟩
  change W p l e ({ frames := 0, cells := 0, slots := 0, locals := 0 } : Room) s m args below meth c _ _ 0 0 Q _
  unfold fX8_adds at hf
  refine lv_iload hx hb dX8_adds_0 (lv_at hl 4 rfl) ?_
  refine lv_if_eq (tgt := 12) hx hb dX8_adds_2 (by decide) (fun c_1 => ?_) (fun c_1 => ?_)
  · have hf := ip c_1 hf
    exact hRet _ _ _ _ _ _ hf hP hS dX8_adds_12
  · have hf := iq c_1 hf
    refine lv_iload_n hx hb dX8_adds_5 rfl (lv_at hl 3 rfl) ?_
    refine lv_aload_n hx hb dX8_adds_6 rfl (lv_at hl 0 rfl) ?_
    refine lv_iload_n hx hb dX8_adds_7 rfl (lv_at hl 2 rfl) ?_
    obtain ⟨hi_3, hf⟩ := rdI_in hf
    refine va_iald hx hb hK.1 hP 0 0 rfl rfl hi_3 dX8_adds_8 ?_
    refine lv_topi (fun x_2 ex_2 => ?_)
    have hf := hf x_2 ex_2
    refine lv_icmp_le (tgt := 13) hx hb dX8_adds_9 (by decide) (fun c_4 => ?_) (fun c_4 => ?_)
    · have hf := ip c_4 hf
      refine lv_aload_n hx hb dX8_adds_13 rfl (lv_at hl 1 rfl) ?_
      refine lv_iload_n hx hb dX8_adds_14 rfl (lv_at hl 2 rfl) ?_
      refine lv_iload_n hx hb dX8_adds_15 rfl (lv_at hl 3 rfl) ?_
      refine lv_aload_n hx hb dX8_adds_16 rfl (lv_at hl 0 rfl) ?_
      refine lv_iload_n hx hb dX8_adds_17 rfl (lv_at hl 2 rfl) ?_
      obtain ⟨hi_6, hf⟩ := rdI_in hf
      refine va_iald hx hb hK.1 hP 0 0 rfl rfl hi_6 dX8_adds_18 ?_
      refine lv_topi (fun x_5 ex_5 => ?_)
      have hf := hf x_5 ex_5
      refine jn_el hf (fun k_8 ek_8 hf => ?_)
      have J33 : ∀ (z_7 : Int32) (H : Heap) (locs : List Loc) (ls : Array Slot), va_P G.1 vwCl [arI G p0_q p0_n p0_f, arI G p1_q p1_n p1_f] H → va_D A [arI G p0_q p0_n p0_f, arI G p1_q p1_n p1_f] → va_S A s.heap H locs → lv_has ls 5 [(0, .ref p0_q), (2, .int v2), (3, .int v3)] → k_8 z_7 = some (o_p0_f, o_p1_f) → W p l e ({ frames := 0, cells := 0, slots := 0, locals := 0 } : Room) s m args below meth c H locs 0 0 Q (F0 m 33 ls [.int z_7, .int v2, .ref p1_q]) := by
        intro z_7 H locs ls hP hD hS hl hf
        rw [ek_8] at hf
        obtain ⟨hi_10, hf⟩ := wrI_in hf
        refine xiast hx hb hK.1 hP hD hS 1 0 rfl rfl hi_10 dX8_adds_33 (fun p1_f_9 H locs ep1_f_9 hP hD hS => ?_)
        have hf := hf p1_f_9 ep1_f_9
        have hP : va_P G.1 vwCl [arI G p0_q p0_n p0_f, arI G p1_q p1_n p1_f_9] H := hP
        have hD : va_D A [arI G p0_q p0_n p0_f, arI G p1_q p1_n p1_f_9] := hD
        refine lv_aload_n hx hb dX8_adds_34 rfl (lv_at hl 0 rfl) ?_
        refine lv_iload_n hx hb dX8_adds_35 rfl (lv_at hl 1 rfl) ?_
        refine lv_iload_n hx hb dX8_adds_36 rfl (lv_at hl 2 rfl) ?_
        obtain ⟨hi_12, hf⟩ := wrI_in hf
        refine xiast hx hb hK.1 hP hD hS 0 0 rfl rfl hi_12 dX8_adds_37 (fun p0_f_11 H locs ep0_f_11 hP hD hS => ?_)
        have hf := hf p0_f_11 ep0_f_11
        have hP : va_P G.1 vwCl [arI G p0_q p0_n p0_f_11, arI G p1_q p1_n p1_f_9] H := hP
        have hD : va_D A [arI G p0_q p0_n p0_f_11, arI G p1_q p1_n p1_f_9] := hD
        exact hRet _ _ _ _ _ _ hf hP hS dX8_adds_38
      refine lv_icmp_ne (tgt := 31) hx hb dX8_adds_19 (by decide) (fun c_13 => ?_) (fun c_13 => ?_)
      · have hf := iq c_13 hf
        refine lv_iload hx hb dX8_adds_31 (lv_at hl 4 rfl) ?_
        exact J33 _ _ _ _ hP hD hS (lv_sub hl [0, 2, 3] rfl) hf
      · have hf := ip c_13 hf
        refine lv_aload_n hx hb dX8_adds_22 rfl (lv_at hl 1 rfl) ?_
        refine lv_iload_n hx hb dX8_adds_23 rfl (lv_at hl 2 rfl) ?_
        obtain ⟨hi_15, hf⟩ := rdI_in hf
        refine va_iald hx hb hK.1 hP 1 0 rfl rfl hi_15 dX8_adds_24 ?_
        refine lv_topi (fun x_14 ex_14 => ?_)
        have hf := hf x_14 ex_14
        refine lv_iload hx hb dX8_adds_25 (lv_at hl 4 rfl) ?_
        refine lv_iadd hx hb dX8_adds_27 ?_
        refine lv_goto (tgt := 33) hx hb dX8_adds_28 (by decide) ?_
        exact J33 _ _ _ _ hP hD hS (lv_sub hl [0, 2, 3] rfl) hf
    · have hf := iq c_4 hf
      exact hRet _ _ _ _ _ _ hf hP hS dX8_adds_12
theorem calX8_laysNets : CalV yX8_laysNets cX8_laysNets 6 none 0 := ⟨⟨kw_42_5, kw_1_5, by decide +kernel⟩, kw_42_3, kw_42_4⟩
set_option maxHeartbeats 8000000 in
set_option maxRecDepth 100000 in
theorem ctX8_laysNets (l : Launch) (G : GT) (t_h : Nat) (t_a : Nat → Nat) (t_thrown : Int32) (t_all : Nat → Int32) (t_taped : Int32) (t_at : Int32) (t_behind : Int32) (t_size : Int32) (t_kind : Int32) (t_number : Int32) (t_wrong : Int32) (t_wrongAt : Int32) (t_faultKind : Int32) (t_faultPlace : Int32) (t_x : Int32) (t_wayLong : Int32) (t_bothLeast : Int32) (t_netLength : Nat → Int32) (t_netMany : Nat → Int32) (t_boundLength : Nat → Int32) (t_boundMany : Nat → Int32) (o_t_netLength : Nat → Int32) (o_t_netMany : Nat → Int32) (o_t_boundLength : Nat → Int32) (o_t_boundMany : Nat → Int32) (hf : fX8_laysNets t_all t_netLength t_netMany t_boundLength t_boundMany = some (o_t_netLength, o_t_netMany, o_t_boundLength, o_t_boundMany)) : WrV l yX8_laysNets (Cond.code yX8_laysNets cX8_laysNets 6 none) { frames := 4, cells := 0, slots := 0, locals := 93 } G [.ref t_h] [oX8 t_h t_a t_thrown t_taped t_at t_behind t_size t_kind t_number t_wrong t_wrongAt t_faultKind t_faultPlace t_x t_wayLong t_bothLeast, arI G (t_a 1) 558 t_all, arI G (t_a 22) 144 t_netLength, arI G (t_a 23) 144 t_netMany, arI G (t_a 24) 144 t_boundLength, arI G (t_a 25) 144 t_boundMany] [oX8 t_h t_a t_thrown t_taped t_at t_behind t_size t_kind t_number t_wrong t_wrongAt t_faultKind t_faultPlace t_x t_wayLong t_bothLeast, arI G (t_a 1) 558 t_all, arI G (t_a 22) 144 o_t_netLength, arI G (t_a 23) 144 o_t_netMany, arI G (t_a 24) 144 o_t_boundLength, arI G (t_a 25) 144 o_t_boundMany] := by
  intro sz
  refine Met.ofW (cc := cX8_laysNets) (maxL := 6) (ret := none) (by decide) rfl ?_
  intro p e s m args below meth c s₁ B hml hv
  obtain ⟨hargs, hsz, hP, hD0, hK⟩ := hv
  subst hsz
  obtain ⟨hx, hb, hr, hw, hown, hlk⟩ := fwB B
  refine fw_enter hargs (Nat.le_of_ble_eq_true rfl) (fun ls hl => ?_)
  have hl : lv_has ls 6 [(0, .ref t_h)] := hl
  refine fw_Q (P := fun Q => ∃ A : Nat → Prop, va_D A [oX8 t_h t_a t_thrown t_taped t_at t_behind t_size t_kind t_number t_wrong t_wrongAt t_faultKind t_faultPlace t_x t_wayLong t_bothLeast, arI G (t_a 1) 558 t_all, arI G (t_a 22) 144 t_netLength, arI G (t_a 23) 144 t_netMany, arI G (t_a 24) 144 t_boundLength, arI G (t_a 25) 144 t_boundMany] ∧ va_S A s.heap s.heap [] ∧ (∀ q, s.heap.size ≤ q → A q) ∧ ∀ (n_t_netLength : Nat → Int32) (n_t_netMany : Nat → Int32) (n_t_boundLength : Nat → Int32) (n_t_boundMany : Nat → Int32) (H : Heap) (locs : List Loc) (pc : Nat) (ls : Array Slot), some (n_t_netLength, n_t_netMany, n_t_boundLength, n_t_boundMany) = some (o_t_netLength, o_t_netMany, o_t_boundLength, o_t_boundMany) → va_P G.1 vwCl [oX8 t_h t_a t_thrown t_taped t_at t_behind t_size t_kind t_number t_wrong t_wrongAt t_faultKind t_faultPlace t_x t_wayLong t_bothLeast, arI G (t_a 1) 558 t_all, arI G (t_a 22) 144 n_t_netLength, arI G (t_a 23) 144 n_t_netMany, arI G (t_a 24) 144 n_t_boundLength, arI G (t_a 25) 144 n_t_boundMany] H → va_S A s.heap H locs → decode cX8_laysNets pc = .ok (.return_, 1) → W p l e ({ frames := 4, cells := 0, slots := 0, locals := 93 } : Room) s m args below meth c H locs 0 0 Q (F0 m pc ls [])) ⟨va_A [oX8 t_h t_a t_thrown t_taped t_at t_behind t_size t_kind t_number t_wrong t_wrongAt t_faultKind t_faultPlace t_x t_wayLong t_bothLeast, arI G (t_a 1) 558 t_all, arI G (t_a 22) 144 t_netLength, arI G (t_a 23) 144 t_netMany, arI G (t_a 24) 144 t_boundLength, arI G (t_a 25) 144 t_boundMany] s.heap.size, hD0.self (sz := s.heap.size), va_S.rf, fun q h => Or.inr h, ?_⟩ ?_
  · intro n_t_netLength n_t_netMany n_t_boundLength n_t_boundMany H locs pc ls h hP hS hd
    cases h
    exact retWV hx hb hr hlk hS hP hd
  rintro Q ⟨A, hD, hS, hA, hRet⟩
  change W p l e ({ frames := 4, cells := 0, slots := 0, locals := 93 } : Room) s m args below meth c _ _ 0 0 Q _
  have L2 : ∀ (t_boundLength : Nat → Int32) (t_boundMany : Nat → Int32) (K : (Nat → Int32) → (Nat → Int32) → Option ((Nat → Int32) × (Nat → Int32) × (Nat → Int32) × (Nat → Int32))) (n : Nat) (l1 : Int32) (t_netLength : Nat → Int32) (t_netMany : Nat → Int32) (H : Heap) (locs : List Loc) (ls : Array Slot), va_P G.1 vwCl [oX8 t_h t_a t_thrown t_taped t_at t_behind t_size t_kind t_number t_wrong t_wrongAt t_faultKind t_faultPlace t_x t_wayLong t_bothLeast, arI G (t_a 1) 558 t_all, arI G (t_a 22) 144 t_netLength, arI G (t_a 23) 144 t_netMany, arI G (t_a 24) 144 t_boundLength, arI G (t_a 25) 144 t_boundMany] H → va_D A [oX8 t_h t_a t_thrown t_taped t_at t_behind t_size t_kind t_number t_wrong t_wrongAt t_faultKind t_faultPlace t_x t_wayLong t_bothLeast, arI G (t_a 1) 558 t_all, arI G (t_a 22) 144 t_netLength, arI G (t_a 23) 144 t_netMany, arI G (t_a 24) 144 t_boundLength, arI G (t_a 25) 144 t_boundMany] → va_S A s.heap H locs → lv_has ls 6 [(0, .ref t_h), (1, .int l1)] → fX8_laysNets_2 t_all K n l1 t_netLength t_netMany = some (o_t_netLength, o_t_netMany, o_t_boundLength, o_t_boundMany) → (∀ (kt_netLength : Nat → Int32) (kt_netMany : Nat → Int32) (H : Heap) (locs : List Loc) (ls : Array Slot), va_P G.1 vwCl [oX8 t_h t_a t_thrown t_taped t_at t_behind t_size t_kind t_number t_wrong t_wrongAt t_faultKind t_faultPlace t_x t_wayLong t_bothLeast, arI G (t_a 1) 558 t_all, arI G (t_a 22) 144 kt_netLength, arI G (t_a 23) 144 kt_netMany, arI G (t_a 24) 144 t_boundLength, arI G (t_a 25) 144 t_boundMany] H → va_D A [oX8 t_h t_a t_thrown t_taped t_at t_behind t_size t_kind t_number t_wrong t_wrongAt t_faultKind t_faultPlace t_x t_wayLong t_bothLeast, arI G (t_a 1) 558 t_all, arI G (t_a 22) 144 kt_netLength, arI G (t_a 23) 144 kt_netMany, arI G (t_a 24) 144 t_boundLength, arI G (t_a 25) 144 t_boundMany] → va_S A s.heap H locs → lv_has ls 6 [(0, .ref t_h)] → K kt_netLength kt_netMany = some (o_t_netLength, o_t_netMany, o_t_boundLength, o_t_boundMany) → W p l e ({ frames := 4, cells := 0, slots := 0, locals := 93 } : Room) s m args below meth c H locs 0 0 Q (F0 m 38 ls [])) → W p l e ({ frames := 4, cells := 0, slots := 0, locals := 93 } : Room) s m args below meth c H locs 0 0 Q (F0 m 2 ls []) := by
    intro t_boundLength t_boundMany K n
    induction n with
    | zero => intro l1 t_netLength t_netMany H locs ls hP hD hS hl hf; rw [fX8_laysNets_2] at hf; cases hf
    | succ n ih =>
      intro l1 t_netLength t_netMany H locs ls hP hD hS hl hf hX
      rw [fX8_laysNets_2] at hf
      refine lv_iload_n hx hb dX8_laysNets_2 rfl (lv_at hl 1 rfl) ?_
      refine lv_aload_n hx hb dX8_laysNets_3 rfl (lv_at hl 0 rfl) ?_
      refine va_get (D := G.1) (ci := 8) (v := .ref (t_a 1)) (C := RX8) (T := TX8) (N := 33) hx hb hw inW8 hown hK.1 hP 0 rfl rfl 1 (by decide) (hw _ kw_5_11) (fun _ h9 => h9) rfl dX8_laysNets_4 ?_
      refine lv_iconst (v := 0) hx hb dX8_laysNets_7 (by decide) ?_
      obtain ⟨hi_2, hf⟩ := rdI_in hf
      refine va_iald hx hb hK.1 hP 1 0 rfl rfl hi_2 dX8_laysNets_8 ?_
      refine lv_topi (fun x_1 ex_1 => ?_)
      have hf := hf x_1 ex_1
      refine lv_icmp_ge (tgt := 38) hx hb dX8_laysNets_9 (by decide) (fun c_3 => ?_) (fun c_3 => ?_)
      · have hf := ip c_3 hf
        exact hX _ _ _ _ _ hP hD hS (lv_sub hl [0] rfl) hf
      · have hf := iq c_3 hf
        refine lv_aload_n hx hb dX8_laysNets_12 rfl (lv_at hl 0 rfl) ?_
        refine va_get (D := G.1) (ci := 8) (v := .ref (t_a 22)) (C := RX8) (T := TX8) (N := 33) hx hb hw inW8 hown hK.1 hP 0 rfl rfl 22 (by decide) (hw _ kw_5_20) (fun _ h9 => h9) rfl dX8_laysNets_13 ?_
        refine lv_bipush (v := 13) hx hb dX8_laysNets_16 (by decide) ?_
        refine lv_iload_n hx hb dX8_laysNets_18 rfl (lv_at hl 1 rfl) ?_
        refine lv_imul hx hb dX8_laysNets_19 ?_
        refine lv_iconst (v := 0) hx hb dX8_laysNets_20 (by decide) ?_
        obtain ⟨hi_5, hf⟩ := wrI_in hf
        refine xiast hx hb hK.1 hP hD hS 2 0 rfl rfl hi_5 dX8_laysNets_21 (fun t_netLength_4 H locs et_netLength_4 hP hD hS => ?_)
        have hf := hf t_netLength_4 et_netLength_4
        have hP : va_P G.1 vwCl [oX8 t_h t_a t_thrown t_taped t_at t_behind t_size t_kind t_number t_wrong t_wrongAt t_faultKind t_faultPlace t_x t_wayLong t_bothLeast, arI G (t_a 1) 558 t_all, arI G (t_a 22) 144 t_netLength_4, arI G (t_a 23) 144 t_netMany, arI G (t_a 24) 144 t_boundLength, arI G (t_a 25) 144 t_boundMany] H := hP
        have hD : va_D A [oX8 t_h t_a t_thrown t_taped t_at t_behind t_size t_kind t_number t_wrong t_wrongAt t_faultKind t_faultPlace t_x t_wayLong t_bothLeast, arI G (t_a 1) 558 t_all, arI G (t_a 22) 144 t_netLength_4, arI G (t_a 23) 144 t_netMany, arI G (t_a 24) 144 t_boundLength, arI G (t_a 25) 144 t_boundMany] := hD
        refine lv_aload_n hx hb dX8_laysNets_22 rfl (lv_at hl 0 rfl) ?_
        refine va_get (D := G.1) (ci := 8) (v := .ref (t_a 23)) (C := RX8) (T := TX8) (N := 33) hx hb hw inW8 hown hK.1 hP 0 rfl rfl 23 (by decide) (hw _ kw_5_21) (fun _ h9 => h9) rfl dX8_laysNets_23 ?_
        refine lv_bipush (v := 13) hx hb dX8_laysNets_26 (by decide) ?_
        refine lv_iload_n hx hb dX8_laysNets_28 rfl (lv_at hl 1 rfl) ?_
        refine lv_imul hx hb dX8_laysNets_29 ?_
        refine lv_iconst (v := 1) hx hb dX8_laysNets_30 (by decide) ?_
        obtain ⟨hi_7, hf⟩ := wrI_in hf
        refine xiast hx hb hK.1 hP hD hS 3 0 rfl rfl hi_7 dX8_laysNets_31 (fun t_netMany_6 H locs et_netMany_6 hP hD hS => ?_)
        have hf := hf t_netMany_6 et_netMany_6
        have hP : va_P G.1 vwCl [oX8 t_h t_a t_thrown t_taped t_at t_behind t_size t_kind t_number t_wrong t_wrongAt t_faultKind t_faultPlace t_x t_wayLong t_bothLeast, arI G (t_a 1) 558 t_all, arI G (t_a 22) 144 t_netLength_4, arI G (t_a 23) 144 t_netMany_6, arI G (t_a 24) 144 t_boundLength, arI G (t_a 25) 144 t_boundMany] H := hP
        have hD : va_D A [oX8 t_h t_a t_thrown t_taped t_at t_behind t_size t_kind t_number t_wrong t_wrongAt t_faultKind t_faultPlace t_x t_wayLong t_bothLeast, arI G (t_a 1) 558 t_all, arI G (t_a 22) 144 t_netLength_4, arI G (t_a 23) 144 t_netMany_6, arI G (t_a 24) 144 t_boundLength, arI G (t_a 25) 144 t_boundMany] := hD
        refine lv_iinc (v := (l1 + 1)) (lv' := [(1, .int (l1 + 1)), (0, .ref t_h)]) hx hb dX8_laysNets_32 hl (k := 1) rfl (by rfl) (by decide) rfl (fun ls hl => ?_)
        refine lv_goto (tgt := 2) hx hb dX8_laysNets_35 (by decide) ?_
        exact ih _ _ _ _ _ _ hP hD hS (lv_sub hl [1, 0] rfl) hf hX
  have L113 : ∀ (l1 : Int32) (l2 : Int32) (l3 : Int32) (l4 : Int32) (t_netLength : Nat → Int32) (t_netMany : Nat → Int32) (K : (Nat → Int32) → (Nat → Int32) → Option ((Nat → Int32) × (Nat → Int32) × (Nat → Int32) × (Nat → Int32))) (n : Nat) (l5 : Int32) (t_boundLength : Nat → Int32) (t_boundMany : Nat → Int32) (H : Heap) (locs : List Loc) (ls : Array Slot), va_P G.1 vwCl [oX8 t_h t_a t_thrown t_taped t_at t_behind t_size t_kind t_number t_wrong t_wrongAt t_faultKind t_faultPlace t_x t_wayLong t_bothLeast, arI G (t_a 1) 558 t_all, arI G (t_a 22) 144 t_netLength, arI G (t_a 23) 144 t_netMany, arI G (t_a 24) 144 t_boundLength, arI G (t_a 25) 144 t_boundMany] H → va_D A [oX8 t_h t_a t_thrown t_taped t_at t_behind t_size t_kind t_number t_wrong t_wrongAt t_faultKind t_faultPlace t_x t_wayLong t_bothLeast, arI G (t_a 1) 558 t_all, arI G (t_a 22) 144 t_netLength, arI G (t_a 23) 144 t_netMany, arI G (t_a 24) 144 t_boundLength, arI G (t_a 25) 144 t_boundMany] → va_S A s.heap H locs → lv_has ls 6 [(0, .ref t_h), (1, .int l1), (2, .int l2), (3, .int l3), (4, .int l4), (5, .int l5)] → fX8_laysNets_113 l2 l3 l4 t_all t_netLength t_netMany K n l5 t_boundLength t_boundMany = some (o_t_netLength, o_t_netMany, o_t_boundLength, o_t_boundMany) → (∀ (kt_boundLength : Nat → Int32) (kt_boundMany : Nat → Int32) (H : Heap) (locs : List Loc) (ls : Array Slot), va_P G.1 vwCl [oX8 t_h t_a t_thrown t_taped t_at t_behind t_size t_kind t_number t_wrong t_wrongAt t_faultKind t_faultPlace t_x t_wayLong t_bothLeast, arI G (t_a 1) 558 t_all, arI G (t_a 22) 144 t_netLength, arI G (t_a 23) 144 t_netMany, arI G (t_a 24) 144 kt_boundLength, arI G (t_a 25) 144 kt_boundMany] H → va_D A [oX8 t_h t_a t_thrown t_taped t_at t_behind t_size t_kind t_number t_wrong t_wrongAt t_faultKind t_faultPlace t_x t_wayLong t_bothLeast, arI G (t_a 1) 558 t_all, arI G (t_a 22) 144 t_netLength, arI G (t_a 23) 144 t_netMany, arI G (t_a 24) 144 kt_boundLength, arI G (t_a 25) 144 kt_boundMany] → va_S A s.heap H locs → lv_has ls 6 [(0, .ref t_h), (1, .int l1), (2, .int l2), (3, .int l3), (4, .int l4)] → K kt_boundLength kt_boundMany = some (o_t_netLength, o_t_netMany, o_t_boundLength, o_t_boundMany) → W p l e ({ frames := 4, cells := 0, slots := 0, locals := 93 } : Room) s m args below meth c H locs 0 0 Q (F0 m 208 ls [])) → W p l e ({ frames := 4, cells := 0, slots := 0, locals := 93 } : Room) s m args below meth c H locs 0 0 Q (F0 m 113 ls []) := by
    intro l1 l2 l3 l4 t_netLength t_netMany K n
    induction n with
    | zero => intro l5 t_boundLength t_boundMany H locs ls hP hD hS hl hf; rw [fX8_laysNets_113] at hf; cases hf
    | succ n ih =>
      intro l5 t_boundLength t_boundMany H locs ls hP hD hS hl hf hX
      rw [fX8_laysNets_113] at hf
      refine lv_iload hx hb dX8_laysNets_113 (lv_at hl 5 rfl) ?_
      refine lv_iload_n hx hb dX8_laysNets_115 rfl (lv_at hl 3 rfl) ?_
      refine lv_icmp_ge (tgt := 208) hx hb dX8_laysNets_116 (by decide) (fun c_26 => ?_) (fun c_26 => ?_)
      · have hf := ip c_26 hf
        exact hX _ _ _ _ _ hP hD hS (lv_sub hl [0, 1, 2, 3, 4] rfl) hf
      · have hf := iq c_26 hf
        refine lv_aload_n hx hb dX8_laysNets_119 rfl (lv_at hl 0 rfl) ?_
        refine lv_iload_n hx hb dX8_laysNets_120 rfl (lv_at hl 2 rfl) ?_
        refine lv_iload_n hx hb dX8_laysNets_121 rfl (lv_at hl 3 rfl) ?_
        obtain ⟨r_27, hc_28, hf⟩ := bd1_in hf
        refine rcI (va_runV (As := [.int l2, .int l3]) (rest := []) ⟨hx, hb, hml, hown, hw⟩ ((ctX8_isSlack l G t_h t_a t_thrown t_all t_taped t_at t_behind t_size t_kind t_number t_wrong t_wrongAt t_faultKind t_faultPlace t_x t_wayLong t_bothLeast l2 l3 _ hc_28) _) (kV hw calX8_isSlack kw_22_19 rfl rfl ⟨Nat.le_of_ble_eq_true rfl, Nat.le_of_ble_eq_true rfl⟩) (rpV (hP.sub (ws' := [oX8 t_h t_a t_thrown t_taped t_at t_behind t_size t_kind t_number t_wrong t_wrongAt t_faultKind t_faultPlace t_x t_wayLong t_bothLeast, arI G (t_a 1) 558 t_all]) [0, 1] rfl) hK (ci := 8) (q0 := 0) rfl rfl) rfl rfl hl.1 rfl (lv_room (Nat.le_of_ble_eq_true rfl)) dX8_laysNets_122 ⟨Nat.zero_le _, Nat.zero_le _⟩) hS hA hP (fun H locs hP hS => ?_)
        refine lv_if_ne (tgt := 208) hx hb dX8_laysNets_125 (by decide) (fun c_29 => ?_) (fun c_29 => ?_)
        · have hf := iq c_29 hf
          exact hX _ _ _ _ _ hP hD hS (lv_sub hl [0, 1, 2, 3, 4] rfl) hf
        · have hf := ip c_29 hf
          refine lv_aload_n hx hb dX8_laysNets_128 rfl (lv_at hl 0 rfl) ?_
          refine va_get (D := G.1) (ci := 8) (v := .ref (t_a 24)) (C := RX8) (T := TX8) (N := 33) hx hb hw inW8 hown hK.1 hP 0 rfl rfl 24 (by decide) (hw _ kw_5_22) (fun _ h9 => h9) rfl dX8_laysNets_129 ?_
          refine lv_aload_n hx hb dX8_laysNets_132 rfl (lv_at hl 0 rfl) ?_
          refine va_get (D := G.1) (ci := 8) (v := .ref (t_a 25)) (C := RX8) (T := TX8) (N := 33) hx hb hw inW8 hown hK.1 hP 0 rfl rfl 25 (by decide) (hw _ kw_5_23) (fun _ h9 => h9) rfl dX8_laysNets_133 ?_
          refine lv_iload hx hb dX8_laysNets_136 (lv_at hl 4 rfl) ?_
          refine lv_aload_n hx hb dX8_laysNets_138 rfl (lv_at hl 0 rfl) ?_
          refine va_get (D := G.1) (ci := 8) (v := .ref (t_a 22)) (C := RX8) (T := TX8) (N := 33) hx hb hw inW8 hown hK.1 hP 0 rfl rfl 22 (by decide) (hw _ kw_5_20) (fun _ h9 => h9) rfl dX8_laysNets_139 ?_
          refine lv_bipush (v := 12) hx hb dX8_laysNets_142 (by decide) ?_
          refine lv_iload_n hx hb dX8_laysNets_144 rfl (lv_at hl 2 rfl) ?_
          refine lv_imul hx hb dX8_laysNets_145 ?_
          refine lv_iload hx hb dX8_laysNets_146 (lv_at hl 5 rfl) ?_
          refine lv_iadd hx hb dX8_laysNets_148 ?_
          obtain ⟨hi_31, hf⟩ := rdI_in hf
          refine va_iald hx hb hK.1 hP 2 0 rfl rfl hi_31 dX8_laysNets_149 ?_
          refine lv_topi (fun x_30 ex_30 => ?_)
          have hf := hf x_30 ex_30
          refine lv_aload_n hx hb dX8_laysNets_150 rfl (lv_at hl 0 rfl) ?_
          refine va_get (D := G.1) (ci := 8) (v := .ref (t_a 22)) (C := RX8) (T := TX8) (N := 33) hx hb hw inW8 hown hK.1 hP 0 rfl rfl 22 (by decide) (hw _ kw_5_20) (fun _ h9 => h9) rfl dX8_laysNets_151 ?_
          refine lv_bipush (v := 12) hx hb dX8_laysNets_154 (by decide) ?_
          refine lv_iload hx hb dX8_laysNets_156 (lv_at hl 5 rfl) ?_
          refine lv_iconst (v := 1) hx hb dX8_laysNets_158 (by decide) ?_
          refine lv_iadd hx hb dX8_laysNets_159 ?_
          refine lv_imul hx hb dX8_laysNets_160 ?_
          refine lv_iload_n hx hb dX8_laysNets_161 rfl (lv_at hl 3 rfl) ?_
          refine lv_iadd hx hb dX8_laysNets_162 ?_
          obtain ⟨hi_33, hf⟩ := rdI_in hf
          refine va_iald hx hb hK.1 hP 2 0 rfl rfl hi_33 dX8_laysNets_163 ?_
          refine lv_topi (fun x_32 ex_32 => ?_)
          have hf := hf x_32 ex_32
          refine lv_iadd hx hb dX8_laysNets_164 ?_
          refine lv_aload_n hx hb dX8_laysNets_165 rfl (lv_at hl 0 rfl) ?_
          refine lv_iload_n hx hb dX8_laysNets_166 rfl (lv_at hl 2 rfl) ?_
          refine lv_iload_n hx hb dX8_laysNets_167 rfl (lv_at hl 3 rfl) ?_
          obtain ⟨r_34, hc_35, hf⟩ := bd1_in hf
          refine rcI (va_runV (As := [.int l2, .int l3]) (rest := [.int (x_30 + x_32), .int l4, .ref (t_a 25), .ref (t_a 24)]) ⟨hx, hb, hml, hown, hw⟩ ((ctX8_lengthOf l G t_h t_a t_thrown t_all t_taped t_at t_behind t_size t_kind t_number t_wrong t_wrongAt t_faultKind t_faultPlace t_x t_wayLong t_bothLeast l2 l3 _ hc_35) _) (kV hw calX8_lengthOf kw_22_7 rfl rfl ⟨Nat.le_of_ble_eq_true rfl, Nat.le_of_ble_eq_true rfl⟩) (rpV (hP.sub (ws' := [oX8 t_h t_a t_thrown t_taped t_at t_behind t_size t_kind t_number t_wrong t_wrongAt t_faultKind t_faultPlace t_x t_wayLong t_bothLeast, arI G (t_a 1) 558 t_all]) [0, 1] rfl) hK (ci := 8) (q0 := 0) rfl rfl) rfl rfl hl.1 rfl (lv_room (Nat.le_of_ble_eq_true rfl)) dX8_laysNets_168 ⟨Nat.zero_le _, Nat.zero_le _⟩) hS hA hP (fun H locs hP hS => ?_)
          refine lv_iadd hx hb dX8_laysNets_171 ?_
          refine lv_aload_n hx hb dX8_laysNets_172 rfl (lv_at hl 0 rfl) ?_
          refine va_get (D := G.1) (ci := 8) (v := .ref (t_a 23)) (C := RX8) (T := TX8) (N := 33) hx hb hw inW8 hown hK.1 hP 0 rfl rfl 23 (by decide) (hw _ kw_5_21) (fun _ h9 => h9) rfl dX8_laysNets_173 ?_
          refine lv_bipush (v := 12) hx hb dX8_laysNets_176 (by decide) ?_
          refine lv_iload_n hx hb dX8_laysNets_178 rfl (lv_at hl 2 rfl) ?_
          refine lv_imul hx hb dX8_laysNets_179 ?_
          refine lv_iload hx hb dX8_laysNets_180 (lv_at hl 5 rfl) ?_
          refine lv_iadd hx hb dX8_laysNets_182 ?_
          obtain ⟨hi_37, hf⟩ := rdI_in hf
          refine va_iald hx hb hK.1 hP 3 0 rfl rfl hi_37 dX8_laysNets_183 ?_
          refine lv_topi (fun x_36 ex_36 => ?_)
          have hf := hf x_36 ex_36
          refine lv_aload_n hx hb dX8_laysNets_184 rfl (lv_at hl 0 rfl) ?_
          refine va_get (D := G.1) (ci := 8) (v := .ref (t_a 23)) (C := RX8) (T := TX8) (N := 33) hx hb hw inW8 hown hK.1 hP 0 rfl rfl 23 (by decide) (hw _ kw_5_21) (fun _ h9 => h9) rfl dX8_laysNets_185 ?_
          refine lv_bipush (v := 12) hx hb dX8_laysNets_188 (by decide) ?_
          refine lv_iload hx hb dX8_laysNets_190 (lv_at hl 5 rfl) ?_
          refine lv_iconst (v := 1) hx hb dX8_laysNets_192 (by decide) ?_
          refine lv_iadd hx hb dX8_laysNets_193 ?_
          refine lv_imul hx hb dX8_laysNets_194 ?_
          refine lv_iload_n hx hb dX8_laysNets_195 rfl (lv_at hl 3 rfl) ?_
          refine lv_iadd hx hb dX8_laysNets_196 ?_
          obtain ⟨hi_39, hf⟩ := rdI_in hf
          refine va_iald hx hb hK.1 hP 3 0 rfl rfl hi_39 dX8_laysNets_197 ?_
          refine lv_topi (fun x_38 ex_38 => ?_)
          have hf := hf x_38 ex_38
          refine lv_imul hx hb dX8_laysNets_198 ?_
          obtain ⟨t_boundLength_40, t_boundMany_41, hc_42, hf⟩ := bd2_in hf
          refine wcV (w1 := [arI G (t_a 24) 144 t_boundLength_40, arI G (t_a 25) 144 t_boundMany_41]) (va_runS (As := [.ref (t_a 24), .ref (t_a 25), .int l4, .int ((x_30 + x_32) + r_34), .int (x_36 * x_38)]) (rest := []) ⟨hx, hb, hml, hown, hw⟩ ((ctX8_adds l G 144 (t_a 24) 144 (t_a 25) t_boundLength t_boundMany l4 ((x_30 + x_32) + r_34) (x_36 * x_38) _ _ hc_42) _) (kS hw calX8_adds kw_42_6 rfl rfl ⟨Nat.le_of_ble_eq_true rfl, Nat.le_of_ble_eq_true rfl⟩) (wpS (hP.sub (ws' := [arI G (t_a 24) 144 t_boundLength, arI G (t_a 25) 144 t_boundMany]) [4, 5] rfl) (hD.sub (ws' := [arI G (t_a 24) 144 t_boundLength, arI G (t_a 25) 144 t_boundMany]) [4, 5] (by decide) rfl) hK) rfl rfl hl.1 rfl (lv_room (Nat.le_of_ble_eq_true rfl)) dX8_laysNets_199 ⟨Nat.zero_le _, Nat.zero_le _⟩) hS hA hP hD [4, 5] rfl rfl (fun H locs hP hD hS => ?_)
          have hP : va_P G.1 vwCl [oX8 t_h t_a t_thrown t_taped t_at t_behind t_size t_kind t_number t_wrong t_wrongAt t_faultKind t_faultPlace t_x t_wayLong t_bothLeast, arI G (t_a 1) 558 t_all, arI G (t_a 22) 144 t_netLength, arI G (t_a 23) 144 t_netMany, arI G (t_a 24) 144 t_boundLength_40, arI G (t_a 25) 144 t_boundMany_41] H := hP
          have hD : va_D A [oX8 t_h t_a t_thrown t_taped t_at t_behind t_size t_kind t_number t_wrong t_wrongAt t_faultKind t_faultPlace t_x t_wayLong t_bothLeast, arI G (t_a 1) 558 t_all, arI G (t_a 22) 144 t_netLength, arI G (t_a 23) 144 t_netMany, arI G (t_a 24) 144 t_boundLength_40, arI G (t_a 25) 144 t_boundMany_41] := hD
          refine lv_iinc (v := (l5 + 1)) (lv' := [(5, .int (l5 + 1)), (0, .ref t_h), (1, .int l1), (2, .int l2), (3, .int l3), (4, .int l4)]) hx hb dX8_laysNets_202 hl (k := 5) rfl (by rfl) (by decide) rfl (fun ls hl => ?_)
          refine lv_goto (tgt := 113) hx hb dX8_laysNets_205 (by decide) ?_
          exact ih _ _ _ _ _ _ hP hD hS (lv_sub hl [1, 2, 3, 4, 5, 0] rfl) hf hX
  have L213 : ∀ (l1 : Int32) (l2 : Int32) (l3 : Int32) (l4 : Int32) (t_boundLength : Nat → Int32) (t_boundMany : Nat → Int32) (K : (Nat → Int32) → (Nat → Int32) → Option ((Nat → Int32) × (Nat → Int32) × (Nat → Int32) × (Nat → Int32))) (n : Nat) (l5 : Int32) (t_netLength : Nat → Int32) (t_netMany : Nat → Int32) (H : Heap) (locs : List Loc) (ls : Array Slot), va_P G.1 vwCl [oX8 t_h t_a t_thrown t_taped t_at t_behind t_size t_kind t_number t_wrong t_wrongAt t_faultKind t_faultPlace t_x t_wayLong t_bothLeast, arI G (t_a 1) 558 t_all, arI G (t_a 22) 144 t_netLength, arI G (t_a 23) 144 t_netMany, arI G (t_a 24) 144 t_boundLength, arI G (t_a 25) 144 t_boundMany] H → va_D A [oX8 t_h t_a t_thrown t_taped t_at t_behind t_size t_kind t_number t_wrong t_wrongAt t_faultKind t_faultPlace t_x t_wayLong t_bothLeast, arI G (t_a 1) 558 t_all, arI G (t_a 22) 144 t_netLength, arI G (t_a 23) 144 t_netMany, arI G (t_a 24) 144 t_boundLength, arI G (t_a 25) 144 t_boundMany] → va_S A s.heap H locs → lv_has ls 6 [(0, .ref t_h), (1, .int l1), (2, .int l2), (3, .int l3), (4, .int l4), (5, .int l5)] → fX8_laysNets_213 l2 l3 l4 t_boundLength t_boundMany K n l5 t_netLength t_netMany = some (o_t_netLength, o_t_netMany, o_t_boundLength, o_t_boundMany) → (∀ (kt_netLength : Nat → Int32) (kt_netMany : Nat → Int32) (H : Heap) (locs : List Loc) (ls : Array Slot), va_P G.1 vwCl [oX8 t_h t_a t_thrown t_taped t_at t_behind t_size t_kind t_number t_wrong t_wrongAt t_faultKind t_faultPlace t_x t_wayLong t_bothLeast, arI G (t_a 1) 558 t_all, arI G (t_a 22) 144 kt_netLength, arI G (t_a 23) 144 kt_netMany, arI G (t_a 24) 144 t_boundLength, arI G (t_a 25) 144 t_boundMany] H → va_D A [oX8 t_h t_a t_thrown t_taped t_at t_behind t_size t_kind t_number t_wrong t_wrongAt t_faultKind t_faultPlace t_x t_wayLong t_bothLeast, arI G (t_a 1) 558 t_all, arI G (t_a 22) 144 kt_netLength, arI G (t_a 23) 144 kt_netMany, arI G (t_a 24) 144 t_boundLength, arI G (t_a 25) 144 t_boundMany] → va_S A s.heap H locs → lv_has ls 6 [(0, .ref t_h), (1, .int l1), (2, .int l2)] → K kt_netLength kt_netMany = some (o_t_netLength, o_t_netMany, o_t_boundLength, o_t_boundMany) → W p l e ({ frames := 4, cells := 0, slots := 0, locals := 93 } : Room) s m args below meth c H locs 0 0 Q (F0 m 288 ls [])) → W p l e ({ frames := 4, cells := 0, slots := 0, locals := 93 } : Room) s m args below meth c H locs 0 0 Q (F0 m 213 ls []) := by
    intro l1 l2 l3 l4 t_boundLength t_boundMany K n
    induction n with
    | zero => intro l5 t_netLength t_netMany H locs ls hP hD hS hl hf; rw [fX8_laysNets_213] at hf; cases hf
    | succ n ih =>
      intro l5 t_netLength t_netMany H locs ls hP hD hS hl hf hX
      rw [fX8_laysNets_213] at hf
      refine lv_iload hx hb dX8_laysNets_213 (lv_at hl 5 rfl) ?_
      refine lv_iload_n hx hb dX8_laysNets_215 rfl (lv_at hl 3 rfl) ?_
      refine lv_icmp_gt (tgt := 288) hx hb dX8_laysNets_216 (by decide) (fun c_46 => ?_) (fun c_46 => ?_)
      · have hf := ip c_46 hf
        exact hX _ _ _ _ _ hP hD hS (lv_sub hl [0, 1, 2] rfl) hf
      · have hf := iq c_46 hf
        refine lv_aload_n hx hb dX8_laysNets_219 rfl (lv_at hl 0 rfl) ?_
        refine va_get (D := G.1) (ci := 8) (v := .ref (t_a 22)) (C := RX8) (T := TX8) (N := 33) hx hb hw inW8 hown hK.1 hP 0 rfl rfl 22 (by decide) (hw _ kw_5_20) (fun _ h9 => h9) rfl dX8_laysNets_220 ?_
        refine lv_aload_n hx hb dX8_laysNets_223 rfl (lv_at hl 0 rfl) ?_
        refine va_get (D := G.1) (ci := 8) (v := .ref (t_a 23)) (C := RX8) (T := TX8) (N := 33) hx hb hw inW8 hown hK.1 hP 0 rfl rfl 23 (by decide) (hw _ kw_5_21) (fun _ h9 => h9) rfl dX8_laysNets_224 ?_
        refine lv_iload hx hb dX8_laysNets_227 (lv_at hl 4 rfl) ?_
        refine lv_aload_n hx hb dX8_laysNets_229 rfl (lv_at hl 0 rfl) ?_
        refine va_get (D := G.1) (ci := 8) (v := .ref (t_a 24)) (C := RX8) (T := TX8) (N := 33) hx hb hw inW8 hown hK.1 hP 0 rfl rfl 24 (by decide) (hw _ kw_5_22) (fun _ h9 => h9) rfl dX8_laysNets_230 ?_
        refine lv_bipush (v := 12) hx hb dX8_laysNets_233 (by decide) ?_
        refine lv_iload_n hx hb dX8_laysNets_235 rfl (lv_at hl 2 rfl) ?_
        refine lv_imul hx hb dX8_laysNets_236 ?_
        refine lv_iload hx hb dX8_laysNets_237 (lv_at hl 5 rfl) ?_
        refine lv_iadd hx hb dX8_laysNets_239 ?_
        obtain ⟨hi_48, hf⟩ := rdI_in hf
        refine va_iald hx hb hK.1 hP 4 0 rfl rfl hi_48 dX8_laysNets_240 ?_
        refine lv_topi (fun x_47 ex_47 => ?_)
        have hf := hf x_47 ex_47
        refine lv_aload_n hx hb dX8_laysNets_241 rfl (lv_at hl 0 rfl) ?_
        refine va_get (D := G.1) (ci := 8) (v := .ref (t_a 22)) (C := RX8) (T := TX8) (N := 33) hx hb hw inW8 hown hK.1 hP 0 rfl rfl 22 (by decide) (hw _ kw_5_20) (fun _ h9 => h9) rfl dX8_laysNets_242 ?_
        refine lv_bipush (v := 12) hx hb dX8_laysNets_245 (by decide) ?_
        refine lv_iload hx hb dX8_laysNets_247 (lv_at hl 5 rfl) ?_
        refine lv_imul hx hb dX8_laysNets_249 ?_
        refine lv_iload_n hx hb dX8_laysNets_250 rfl (lv_at hl 3 rfl) ?_
        refine lv_iadd hx hb dX8_laysNets_251 ?_
        obtain ⟨hi_50, hf⟩ := rdI_in hf
        refine va_iald hx hb hK.1 hP 2 0 rfl rfl hi_50 dX8_laysNets_252 ?_
        refine lv_topi (fun x_49 ex_49 => ?_)
        have hf := hf x_49 ex_49
        refine lv_iadd hx hb dX8_laysNets_253 ?_
        refine lv_aload_n hx hb dX8_laysNets_254 rfl (lv_at hl 0 rfl) ?_
        refine va_get (D := G.1) (ci := 8) (v := .ref (t_a 25)) (C := RX8) (T := TX8) (N := 33) hx hb hw inW8 hown hK.1 hP 0 rfl rfl 25 (by decide) (hw _ kw_5_23) (fun _ h9 => h9) rfl dX8_laysNets_255 ?_
        refine lv_bipush (v := 12) hx hb dX8_laysNets_258 (by decide) ?_
        refine lv_iload_n hx hb dX8_laysNets_260 rfl (lv_at hl 2 rfl) ?_
        refine lv_imul hx hb dX8_laysNets_261 ?_
        refine lv_iload hx hb dX8_laysNets_262 (lv_at hl 5 rfl) ?_
        refine lv_iadd hx hb dX8_laysNets_264 ?_
        obtain ⟨hi_52, hf⟩ := rdI_in hf
        refine va_iald hx hb hK.1 hP 5 0 rfl rfl hi_52 dX8_laysNets_265 ?_
        refine lv_topi (fun x_51 ex_51 => ?_)
        have hf := hf x_51 ex_51
        refine lv_aload_n hx hb dX8_laysNets_266 rfl (lv_at hl 0 rfl) ?_
        refine va_get (D := G.1) (ci := 8) (v := .ref (t_a 23)) (C := RX8) (T := TX8) (N := 33) hx hb hw inW8 hown hK.1 hP 0 rfl rfl 23 (by decide) (hw _ kw_5_21) (fun _ h9 => h9) rfl dX8_laysNets_267 ?_
        refine lv_bipush (v := 12) hx hb dX8_laysNets_270 (by decide) ?_
        refine lv_iload hx hb dX8_laysNets_272 (lv_at hl 5 rfl) ?_
        refine lv_imul hx hb dX8_laysNets_274 ?_
        refine lv_iload_n hx hb dX8_laysNets_275 rfl (lv_at hl 3 rfl) ?_
        refine lv_iadd hx hb dX8_laysNets_276 ?_
        obtain ⟨hi_54, hf⟩ := rdI_in hf
        refine va_iald hx hb hK.1 hP 3 0 rfl rfl hi_54 dX8_laysNets_277 ?_
        refine lv_topi (fun x_53 ex_53 => ?_)
        have hf := hf x_53 ex_53
        refine lv_imul hx hb dX8_laysNets_278 ?_
        obtain ⟨t_netLength_55, t_netMany_56, hc_57, hf⟩ := bd2_in hf
        refine wcV (w1 := [arI G (t_a 22) 144 t_netLength_55, arI G (t_a 23) 144 t_netMany_56]) (va_runS (As := [.ref (t_a 22), .ref (t_a 23), .int l4, .int (x_47 + x_49), .int (x_51 * x_53)]) (rest := []) ⟨hx, hb, hml, hown, hw⟩ ((ctX8_adds l G 144 (t_a 22) 144 (t_a 23) t_netLength t_netMany l4 (x_47 + x_49) (x_51 * x_53) _ _ hc_57) _) (kS hw calX8_adds kw_42_6 rfl rfl ⟨Nat.le_of_ble_eq_true rfl, Nat.le_of_ble_eq_true rfl⟩) (wpS (hP.sub (ws' := [arI G (t_a 22) 144 t_netLength, arI G (t_a 23) 144 t_netMany]) [2, 3] rfl) (hD.sub (ws' := [arI G (t_a 22) 144 t_netLength, arI G (t_a 23) 144 t_netMany]) [2, 3] (by decide) rfl) hK) rfl rfl hl.1 rfl (lv_room (Nat.le_of_ble_eq_true rfl)) dX8_laysNets_279 ⟨Nat.zero_le _, Nat.zero_le _⟩) hS hA hP hD [2, 3] rfl rfl (fun H locs hP hD hS => ?_)
        have hP : va_P G.1 vwCl [oX8 t_h t_a t_thrown t_taped t_at t_behind t_size t_kind t_number t_wrong t_wrongAt t_faultKind t_faultPlace t_x t_wayLong t_bothLeast, arI G (t_a 1) 558 t_all, arI G (t_a 22) 144 t_netLength_55, arI G (t_a 23) 144 t_netMany_56, arI G (t_a 24) 144 t_boundLength, arI G (t_a 25) 144 t_boundMany] H := hP
        have hD : va_D A [oX8 t_h t_a t_thrown t_taped t_at t_behind t_size t_kind t_number t_wrong t_wrongAt t_faultKind t_faultPlace t_x t_wayLong t_bothLeast, arI G (t_a 1) 558 t_all, arI G (t_a 22) 144 t_netLength_55, arI G (t_a 23) 144 t_netMany_56, arI G (t_a 24) 144 t_boundLength, arI G (t_a 25) 144 t_boundMany] := hD
        refine lv_iinc (v := (l5 + 1)) (lv' := [(5, .int (l5 + 1)), (0, .ref t_h), (1, .int l1), (2, .int l2), (3, .int l3), (4, .int l4)]) hx hb dX8_laysNets_282 hl (k := 5) rfl (by rfl) (by decide) rfl (fun ls hl => ?_)
        refine lv_goto (tgt := 213) hx hb dX8_laysNets_285 (by decide) ?_
        exact ih _ _ _ _ _ _ hP hD hS (lv_sub hl [1, 2, 3, 4, 5, 0] rfl) hf hX
  have L52 : ∀ (l1 : Int32) (K : (Nat → Int32) → (Nat → Int32) → (Nat → Int32) → (Nat → Int32) → Option ((Nat → Int32) × (Nat → Int32) × (Nat → Int32) × (Nat → Int32))) (n : Nat) (l2 : Int32) (t_netLength : Nat → Int32) (t_netMany : Nat → Int32) (t_boundLength : Nat → Int32) (t_boundMany : Nat → Int32) (H : Heap) (locs : List Loc) (ls : Array Slot), va_P G.1 vwCl [oX8 t_h t_a t_thrown t_taped t_at t_behind t_size t_kind t_number t_wrong t_wrongAt t_faultKind t_faultPlace t_x t_wayLong t_bothLeast, arI G (t_a 1) 558 t_all, arI G (t_a 22) 144 t_netLength, arI G (t_a 23) 144 t_netMany, arI G (t_a 24) 144 t_boundLength, arI G (t_a 25) 144 t_boundMany] H → va_D A [oX8 t_h t_a t_thrown t_taped t_at t_behind t_size t_kind t_number t_wrong t_wrongAt t_faultKind t_faultPlace t_x t_wayLong t_bothLeast, arI G (t_a 1) 558 t_all, arI G (t_a 22) 144 t_netLength, arI G (t_a 23) 144 t_netMany, arI G (t_a 24) 144 t_boundLength, arI G (t_a 25) 144 t_boundMany] → va_S A s.heap H locs → lv_has ls 6 [(0, .ref t_h), (1, .int l1), (2, .int l2)] → fX8_laysNets_52 l1 t_all K n l2 t_netLength t_netMany t_boundLength t_boundMany = some (o_t_netLength, o_t_netMany, o_t_boundLength, o_t_boundMany) → (∀ (kt_netLength : Nat → Int32) (kt_netMany : Nat → Int32) (kt_boundLength : Nat → Int32) (kt_boundMany : Nat → Int32) (H : Heap) (locs : List Loc) (ls : Array Slot), va_P G.1 vwCl [oX8 t_h t_a t_thrown t_taped t_at t_behind t_size t_kind t_number t_wrong t_wrongAt t_faultKind t_faultPlace t_x t_wayLong t_bothLeast, arI G (t_a 1) 558 t_all, arI G (t_a 22) 144 kt_netLength, arI G (t_a 23) 144 kt_netMany, arI G (t_a 24) 144 kt_boundLength, arI G (t_a 25) 144 kt_boundMany] H → va_D A [oX8 t_h t_a t_thrown t_taped t_at t_behind t_size t_kind t_number t_wrong t_wrongAt t_faultKind t_faultPlace t_x t_wayLong t_bothLeast, arI G (t_a 1) 558 t_all, arI G (t_a 22) 144 kt_netLength, arI G (t_a 23) 144 kt_netMany, arI G (t_a 24) 144 kt_boundLength, arI G (t_a 25) 144 kt_boundMany] → va_S A s.heap H locs → lv_has ls 6 [(0, .ref t_h), (1, .int l1)] → K kt_netLength kt_netMany kt_boundLength kt_boundMany = some (o_t_netLength, o_t_netMany, o_t_boundLength, o_t_boundMany) → W p l e ({ frames := 4, cells := 0, slots := 0, locals := 93 } : Room) s m args below meth c H locs 0 0 Q (F0 m 294 ls [])) → W p l e ({ frames := 4, cells := 0, slots := 0, locals := 93 } : Room) s m args below meth c H locs 0 0 Q (F0 m 52 ls []) := by
    intro l1 K n
    induction n with
    | zero => intro l2 t_netLength t_netMany t_boundLength t_boundMany H locs ls hP hD hS hl hf; rw [fX8_laysNets_52] at hf; cases hf
    | succ n ih =>
      intro l2 t_netLength t_netMany t_boundLength t_boundMany H locs ls hP hD hS hl hf hX
      rw [fX8_laysNets_52] at hf
      refine lv_iload_n hx hb dX8_laysNets_52 rfl (lv_at hl 2 rfl) ?_
      refine lv_iload_n hx hb dX8_laysNets_53 rfl (lv_at hl 1 rfl) ?_
      refine lv_iadd hx hb dX8_laysNets_54 ?_
      refine lv_aload_n hx hb dX8_laysNets_55 rfl (lv_at hl 0 rfl) ?_
      refine va_get (D := G.1) (ci := 8) (v := .ref (t_a 1)) (C := RX8) (T := TX8) (N := 33) hx hb hw inW8 hown hK.1 hP 0 rfl rfl 1 (by decide) (hw _ kw_5_11) (fun _ h9 => h9) rfl dX8_laysNets_56 ?_
      refine lv_iconst (v := 0) hx hb dX8_laysNets_59 (by decide) ?_
      obtain ⟨hi_14, hf⟩ := rdI_in hf
      refine va_iald hx hb hK.1 hP 1 0 rfl rfl hi_14 dX8_laysNets_60 ?_
      refine lv_topi (fun x_13 ex_13 => ?_)
      have hf := hf x_13 ex_13
      refine lv_icmp_ge (tgt := 294) hx hb dX8_laysNets_61 (by decide) (fun c_15 => ?_) (fun c_15 => ?_)
      · have hf := ip c_15 hf
        exact hX _ _ _ _ _ _ _ hP hD hS (lv_sub hl [0, 1] rfl) hf
      · have hf := iq c_15 hf
        refine lv_iload_n hx hb dX8_laysNets_64 rfl (lv_at hl 2 rfl) ?_
        refine lv_iload_n hx hb dX8_laysNets_65 rfl (lv_at hl 1 rfl) ?_
        refine lv_iadd hx hb dX8_laysNets_66 ?_
        refine lv_topi (fun y_16 ey_16 => ?_)
        have hf := bnd_all hf y_16 ey_16
        refine lv_istore_n (lv' := [(3, .int y_16), (0, .ref t_h), (1, .int l1), (2, .int l2)]) hx hb dX8_laysNets_67 rfl hl (by decide) rfl (fun ls hl => ?_)
        refine lv_bipush (v := 12) hx hb dX8_laysNets_68 (by decide) ?_
        refine lv_iload_n hx hb dX8_laysNets_70 rfl (lv_at hl 3 rfl) ?_
        refine lv_imul hx hb dX8_laysNets_71 ?_
        refine lv_iload_n hx hb dX8_laysNets_72 rfl (lv_at hl 0 rfl) ?_
        refine lv_iadd hx hb dX8_laysNets_73 ?_
        refine lv_topi (fun y_17 ey_17 => ?_)
        have hf := bnd_all hf y_17 ey_17
        refine lv_istore (lv' := [(4, .int y_17), (3, .int y_16), (0, .ref t_h), (1, .int l1), (2, .int l2)]) hx hb dX8_laysNets_74 hl (by decide) rfl (fun ls hl => ?_)
        refine lv_aload_n hx hb dX8_laysNets_76 rfl (lv_at hl 2 rfl) ?_
        refine va_get (D := G.1) (ci := 8) (v := .ref (t_a 24)) (C := RX8) (T := TX8) (N := 33) hx hb hw inW8 hown hK.1 hP 0 rfl rfl 24 (by decide) (hw _ kw_5_22) (fun _ h9 => h9) rfl dX8_laysNets_77 ?_
        refine lv_iload hx hb dX8_laysNets_80 (lv_at hl 0 rfl) ?_
        refine lv_ldc hx hb hown (hw _ kw_29_22) dX8_laysNets_82 ?_
        obtain ⟨hi_19, hf⟩ := wrI_in hf
        refine xiast hx hb hK.1 hP hD hS 4 0 rfl rfl hi_19 dX8_laysNets_84 (fun t_boundLength_18 H locs et_boundLength_18 hP hD hS => ?_)
        have hf := hf t_boundLength_18 et_boundLength_18
        have hP : va_P G.1 vwCl [oX8 t_h t_a t_thrown t_taped t_at t_behind t_size t_kind t_number t_wrong t_wrongAt t_faultKind t_faultPlace t_x t_wayLong t_bothLeast, arI G (t_a 1) 558 t_all, arI G (t_a 22) 144 t_netLength, arI G (t_a 23) 144 t_netMany, arI G (t_a 24) 144 t_boundLength_18, arI G (t_a 25) 144 t_boundMany] H := hP
        have hD : va_D A [oX8 t_h t_a t_thrown t_taped t_at t_behind t_size t_kind t_number t_wrong t_wrongAt t_faultKind t_faultPlace t_x t_wayLong t_bothLeast, arI G (t_a 1) 558 t_all, arI G (t_a 22) 144 t_netLength, arI G (t_a 23) 144 t_netMany, arI G (t_a 24) 144 t_boundLength_18, arI G (t_a 25) 144 t_boundMany] := hD
        refine lv_aload_n hx hb dX8_laysNets_85 rfl (lv_at hl 2 rfl) ?_
        refine va_get (D := G.1) (ci := 8) (v := .ref (t_a 25)) (C := RX8) (T := TX8) (N := 33) hx hb hw inW8 hown hK.1 hP 0 rfl rfl 25 (by decide) (hw _ kw_5_23) (fun _ h9 => h9) rfl dX8_laysNets_86 ?_
        refine lv_iload hx hb dX8_laysNets_89 (lv_at hl 0 rfl) ?_
        refine lv_iconst (v := 0) hx hb dX8_laysNets_91 (by decide) ?_
        obtain ⟨hi_21, hf⟩ := wrI_in hf
        refine xiast hx hb hK.1 hP hD hS 5 0 rfl rfl hi_21 dX8_laysNets_92 (fun t_boundMany_20 H locs et_boundMany_20 hP hD hS => ?_)
        have hf := hf t_boundMany_20 et_boundMany_20
        have hP : va_P G.1 vwCl [oX8 t_h t_a t_thrown t_taped t_at t_behind t_size t_kind t_number t_wrong t_wrongAt t_faultKind t_faultPlace t_x t_wayLong t_bothLeast, arI G (t_a 1) 558 t_all, arI G (t_a 22) 144 t_netLength, arI G (t_a 23) 144 t_netMany, arI G (t_a 24) 144 t_boundLength_18, arI G (t_a 25) 144 t_boundMany_20] H := hP
        have hD : va_D A [oX8 t_h t_a t_thrown t_taped t_at t_behind t_size t_kind t_number t_wrong t_wrongAt t_faultKind t_faultPlace t_x t_wayLong t_bothLeast, arI G (t_a 1) 558 t_all, arI G (t_a 22) 144 t_netLength, arI G (t_a 23) 144 t_netMany, arI G (t_a 24) 144 t_boundLength_18, arI G (t_a 25) 144 t_boundMany_20] := hD
        refine lv_aload_n hx hb dX8_laysNets_93 rfl (lv_at hl 2 rfl) ?_
        refine va_get (D := G.1) (ci := 8) (v := .ref (t_a 22)) (C := RX8) (T := TX8) (N := 33) hx hb hw inW8 hown hK.1 hP 0 rfl rfl 22 (by decide) (hw _ kw_5_20) (fun _ h9 => h9) rfl dX8_laysNets_94 ?_
        refine lv_iload hx hb dX8_laysNets_97 (lv_at hl 0 rfl) ?_
        refine lv_ldc hx hb hown (hw _ kw_29_22) dX8_laysNets_99 ?_
        obtain ⟨hi_23, hf⟩ := wrI_in hf
        refine xiast hx hb hK.1 hP hD hS 2 0 rfl rfl hi_23 dX8_laysNets_101 (fun t_netLength_22 H locs et_netLength_22 hP hD hS => ?_)
        have hf := hf t_netLength_22 et_netLength_22
        have hP : va_P G.1 vwCl [oX8 t_h t_a t_thrown t_taped t_at t_behind t_size t_kind t_number t_wrong t_wrongAt t_faultKind t_faultPlace t_x t_wayLong t_bothLeast, arI G (t_a 1) 558 t_all, arI G (t_a 22) 144 t_netLength_22, arI G (t_a 23) 144 t_netMany, arI G (t_a 24) 144 t_boundLength_18, arI G (t_a 25) 144 t_boundMany_20] H := hP
        have hD : va_D A [oX8 t_h t_a t_thrown t_taped t_at t_behind t_size t_kind t_number t_wrong t_wrongAt t_faultKind t_faultPlace t_x t_wayLong t_bothLeast, arI G (t_a 1) 558 t_all, arI G (t_a 22) 144 t_netLength_22, arI G (t_a 23) 144 t_netMany, arI G (t_a 24) 144 t_boundLength_18, arI G (t_a 25) 144 t_boundMany_20] := hD
        refine lv_aload_n hx hb dX8_laysNets_102 rfl (lv_at hl 2 rfl) ?_
        refine va_get (D := G.1) (ci := 8) (v := .ref (t_a 23)) (C := RX8) (T := TX8) (N := 33) hx hb hw inW8 hown hK.1 hP 0 rfl rfl 23 (by decide) (hw _ kw_5_21) (fun _ h9 => h9) rfl dX8_laysNets_103 ?_
        refine lv_iload hx hb dX8_laysNets_106 (lv_at hl 0 rfl) ?_
        refine lv_iconst (v := 0) hx hb dX8_laysNets_108 (by decide) ?_
        obtain ⟨hi_25, hf⟩ := wrI_in hf
        refine xiast hx hb hK.1 hP hD hS 3 0 rfl rfl hi_25 dX8_laysNets_109 (fun t_netMany_24 H locs et_netMany_24 hP hD hS => ?_)
        have hf := hf t_netMany_24 et_netMany_24
        have hP : va_P G.1 vwCl [oX8 t_h t_a t_thrown t_taped t_at t_behind t_size t_kind t_number t_wrong t_wrongAt t_faultKind t_faultPlace t_x t_wayLong t_bothLeast, arI G (t_a 1) 558 t_all, arI G (t_a 22) 144 t_netLength_22, arI G (t_a 23) 144 t_netMany_24, arI G (t_a 24) 144 t_boundLength_18, arI G (t_a 25) 144 t_boundMany_20] H := hP
        have hD : va_D A [oX8 t_h t_a t_thrown t_taped t_at t_behind t_size t_kind t_number t_wrong t_wrongAt t_faultKind t_faultPlace t_x t_wayLong t_bothLeast, arI G (t_a 1) 558 t_all, arI G (t_a 22) 144 t_netLength_22, arI G (t_a 23) 144 t_netMany_24, arI G (t_a 24) 144 t_boundLength_18, arI G (t_a 25) 144 t_boundMany_20] := hD
        refine lv_iload_n hx hb dX8_laysNets_110 rfl (lv_at hl 4 rfl) ?_
        refine lv_istore (lv' := [(5, .int l2), (4, .int y_17), (3, .int y_16), (0, .ref t_h), (1, .int l1), (2, .int l2)]) hx hb dX8_laysNets_111 hl (by decide) rfl (fun ls hl => ?_)
        refine L113 _ _ _ _ _ _ _ _ _ _ _ _ _ _ hP hD hS (lv_sub hl [3, 4, 5, 2, 1, 0] rfl) hf (fun t_boundLength_43 t_boundMany_44 H locs ls hP hD hS hl hf => ?_)
        refine lv_iload_n hx hb dX8_laysNets_208 rfl (lv_at hl 2 rfl) ?_
        refine lv_iconst (v := 1) hx hb dX8_laysNets_209 (by decide) ?_
        refine lv_iadd hx hb dX8_laysNets_210 ?_
        refine lv_topi (fun y_45 ey_45 => ?_)
        have hf := bnd_all hf y_45 ey_45
        refine lv_istore (lv' := [(5, .int y_45), (0, .ref t_h), (1, .int l1), (2, .int l2), (3, .int y_16), (4, .int y_17)]) hx hb dX8_laysNets_211 hl (by decide) rfl (fun ls hl => ?_)
        refine L213 _ _ _ _ _ _ _ _ _ _ _ _ _ _ hP hD hS (lv_sub hl [1, 2, 3, 4, 5, 0] rfl) hf (fun t_netLength_58 t_netMany_59 H locs ls hP hD hS hl hf => ?_)
        refine lv_iinc (v := (l2 + 1)) (lv' := [(2, .int (l2 + 1)), (0, .ref t_h), (1, .int l1)]) hx hb dX8_laysNets_288 hl (k := 2) rfl (by rfl) (by decide) rfl (fun ls hl => ?_)
        refine lv_goto (tgt := 52) hx hb dX8_laysNets_291 (by decide) ?_
        exact ih _ _ _ _ _ _ _ _ hP hD hS (lv_sub hl [1, 2, 0] rfl) hf hX
  have L40 : ∀  (K : (Nat → Int32) → (Nat → Int32) → (Nat → Int32) → (Nat → Int32) → Option ((Nat → Int32) × (Nat → Int32) × (Nat → Int32) × (Nat → Int32))) (n : Nat) (l1 : Int32) (t_netLength : Nat → Int32) (t_netMany : Nat → Int32) (t_boundLength : Nat → Int32) (t_boundMany : Nat → Int32) (H : Heap) (locs : List Loc) (ls : Array Slot), va_P G.1 vwCl [oX8 t_h t_a t_thrown t_taped t_at t_behind t_size t_kind t_number t_wrong t_wrongAt t_faultKind t_faultPlace t_x t_wayLong t_bothLeast, arI G (t_a 1) 558 t_all, arI G (t_a 22) 144 t_netLength, arI G (t_a 23) 144 t_netMany, arI G (t_a 24) 144 t_boundLength, arI G (t_a 25) 144 t_boundMany] H → va_D A [oX8 t_h t_a t_thrown t_taped t_at t_behind t_size t_kind t_number t_wrong t_wrongAt t_faultKind t_faultPlace t_x t_wayLong t_bothLeast, arI G (t_a 1) 558 t_all, arI G (t_a 22) 144 t_netLength, arI G (t_a 23) 144 t_netMany, arI G (t_a 24) 144 t_boundLength, arI G (t_a 25) 144 t_boundMany] → va_S A s.heap H locs → lv_has ls 6 [(0, .ref t_h), (1, .int l1)] → fX8_laysNets_40 t_all K n l1 t_netLength t_netMany t_boundLength t_boundMany = some (o_t_netLength, o_t_netMany, o_t_boundLength, o_t_boundMany) → (∀ (kt_netLength : Nat → Int32) (kt_netMany : Nat → Int32) (kt_boundLength : Nat → Int32) (kt_boundMany : Nat → Int32) (H : Heap) (locs : List Loc) (ls : Array Slot), va_P G.1 vwCl [oX8 t_h t_a t_thrown t_taped t_at t_behind t_size t_kind t_number t_wrong t_wrongAt t_faultKind t_faultPlace t_x t_wayLong t_bothLeast, arI G (t_a 1) 558 t_all, arI G (t_a 22) 144 kt_netLength, arI G (t_a 23) 144 kt_netMany, arI G (t_a 24) 144 kt_boundLength, arI G (t_a 25) 144 kt_boundMany] H → va_D A [oX8 t_h t_a t_thrown t_taped t_at t_behind t_size t_kind t_number t_wrong t_wrongAt t_faultKind t_faultPlace t_x t_wayLong t_bothLeast, arI G (t_a 1) 558 t_all, arI G (t_a 22) 144 kt_netLength, arI G (t_a 23) 144 kt_netMany, arI G (t_a 24) 144 kt_boundLength, arI G (t_a 25) 144 kt_boundMany] → va_S A s.heap H locs → lv_has ls 6 [] → K kt_netLength kt_netMany kt_boundLength kt_boundMany = some (o_t_netLength, o_t_netMany, o_t_boundLength, o_t_boundMany) → W p l e ({ frames := 4, cells := 0, slots := 0, locals := 93 } : Room) s m args below meth c H locs 0 0 Q (F0 m 300 ls [])) → W p l e ({ frames := 4, cells := 0, slots := 0, locals := 93 } : Room) s m args below meth c H locs 0 0 Q (F0 m 40 ls []) := by
    intro  K n
    induction n with
    | zero => intro l1 t_netLength t_netMany t_boundLength t_boundMany H locs ls hP hD hS hl hf; rw [fX8_laysNets_40] at hf; cases hf
    | succ n ih =>
      intro l1 t_netLength t_netMany t_boundLength t_boundMany H locs ls hP hD hS hl hf hX
      rw [fX8_laysNets_40] at hf
      refine lv_iload_n hx hb dX8_laysNets_40 rfl (lv_at hl 1 rfl) ?_
      refine lv_aload_n hx hb dX8_laysNets_41 rfl (lv_at hl 0 rfl) ?_
      refine va_get (D := G.1) (ci := 8) (v := .ref (t_a 1)) (C := RX8) (T := TX8) (N := 33) hx hb hw inW8 hown hK.1 hP 0 rfl rfl 1 (by decide) (hw _ kw_5_11) (fun _ h9 => h9) rfl dX8_laysNets_42 ?_
      refine lv_iconst (v := 0) hx hb dX8_laysNets_45 (by decide) ?_
      obtain ⟨hi_11, hf⟩ := rdI_in hf
      refine va_iald hx hb hK.1 hP 1 0 rfl rfl hi_11 dX8_laysNets_46 ?_
      refine lv_topi (fun x_10 ex_10 => ?_)
      have hf := hf x_10 ex_10
      refine lv_icmp_ge (tgt := 300) hx hb dX8_laysNets_47 (by decide) (fun c_12 => ?_) (fun c_12 => ?_)
      · have hf := ip c_12 hf
        exact hX _ _ _ _ _ _ _ hP hD hS (lv_sub hl [] rfl) hf
      · have hf := iq c_12 hf
        refine lv_iconst (v := 0) hx hb dX8_laysNets_50 (by decide) ?_
        refine lv_istore_n (lv' := [(2, .int 0), (0, .ref t_h), (1, .int l1)]) hx hb dX8_laysNets_51 rfl hl (by decide) rfl (fun ls hl => ?_)
        refine L52 _ _ _ _ _ _ _ _ _ _ _ hP hD hS (lv_sub hl [1, 2, 0] rfl) hf (fun t_netLength_60 t_netMany_61 t_boundLength_62 t_boundMany_63 H locs ls hP hD hS hl hf => ?_)
        refine lv_iinc (v := (l1 + 1)) (lv' := [(1, .int (l1 + 1)), (0, .ref t_h)]) hx hb dX8_laysNets_294 hl (k := 1) rfl (by rfl) (by decide) rfl (fun ls hl => ?_)
        refine lv_goto (tgt := 40) hx hb dX8_laysNets_297 (by decide) ?_
        exact ih _ _ _ _ _ _ _ _ hP hD hS (lv_sub hl [1, 0] rfl) hf hX
  unfold fX8_laysNets at hf
  refine lv_iconst (v := 0) hx hb dX8_laysNets_0 (by decide) ?_
  refine lv_istore_n (lv' := [(1, .int 0), (0, .ref t_h)]) hx hb dX8_laysNets_1 rfl hl (by decide) rfl (fun ls hl => ?_)
  refine L2 _ _ _ _ _ _ _ _ _ _ hP hD hS (lv_sub hl [1, 0] rfl) hf (fun t_netLength_8 t_netMany_9 H locs ls hP hD hS hl hf => ?_)
  refine lv_iconst (v := 1) hx hb dX8_laysNets_38 (by decide) ?_
  refine lv_istore_n (lv' := [(1, .int 1), (0, .ref t_h)]) hx hb dX8_laysNets_39 rfl hl (by decide) rfl (fun ls hl => ?_)
  refine L40  _ _ _ _ _ _ _ _ _ _ hP hD hS (lv_sub hl [1, 0] rfl) hf (fun t_netLength_64 t_netMany_65 t_boundLength_66 t_boundMany_67 H locs ls hP hD hS hl hf => ?_)
  exact hRet _ _ _ _ _ _ _ _ hf hP hS dX8_laysNets_300
theorem calX8_web : CalV yX8_web cX8_web 3 (some .int) 1 := ⟨⟨kw_42_1, kw_1_5, by decide +kernel⟩, kw_41_23, kw_42_0⟩
set_option maxHeartbeats 8000000 in
set_option maxRecDepth 100000 in
theorem ctX8_web (l : Launch) (G : GT) (t_h : Nat) (t_a : Nat → Nat) (t_thrown : Int32) (t_all : Nat → Int32) (t_taped : Int32) (t_at : Int32) (t_behind : Int32) (t_size : Int32) (t_kind : Int32) (t_number : Int32) (t_wrong : Int32) (t_wrongAt : Int32) (t_faultKind : Int32) (t_faultPlace : Int32) (t_x : Int32) (t_wayLong : Int32) (t_bothLeast : Int32) (t_netLength : Nat → Int32) (t_netMany : Nat → Int32) (t_boundLength : Nat → Int32) (t_boundMany : Nat → Int32) (v1 : Int32) (r : Int32) (o_t_thrown : Int32) (o_t_netLength : Nat → Int32) (o_t_netMany : Nat → Int32) (o_t_boundLength : Nat → Int32) (o_t_boundMany : Nat → Int32) (hf : fX8_web t_thrown t_all t_netLength t_netMany t_boundLength t_boundMany v1 = some (r, o_t_thrown, o_t_netLength, o_t_netMany, o_t_boundLength, o_t_boundMany)) : WrI l yX8_web (Cond.code yX8_web cX8_web 3 (some .int)) { frames := 5, cells := 0, slots := 0, locals := 118 } G [.ref t_h, .int v1] [oX8 t_h t_a t_thrown t_taped t_at t_behind t_size t_kind t_number t_wrong t_wrongAt t_faultKind t_faultPlace t_x t_wayLong t_bothLeast, arI G (t_a 1) 558 t_all, arI G (t_a 22) 144 t_netLength, arI G (t_a 23) 144 t_netMany, arI G (t_a 24) 144 t_boundLength, arI G (t_a 25) 144 t_boundMany] [oX8 t_h t_a o_t_thrown t_taped t_at t_behind t_size t_kind t_number t_wrong t_wrongAt t_faultKind t_faultPlace t_x t_wayLong t_bothLeast, arI G (t_a 1) 558 t_all, arI G (t_a 22) 144 o_t_netLength, arI G (t_a 23) 144 o_t_netMany, arI G (t_a 24) 144 o_t_boundLength, arI G (t_a 25) 144 o_t_boundMany] r := by
  intro sz
  refine Met.ofW (cc := cX8_web) (maxL := 3) (ret := (some .int)) (by decide) rfl ?_
  intro p e s m args below meth c s₁ B hml hv
  obtain ⟨hargs, hsz, hP, hD0, hK⟩ := hv
  subst hsz
  obtain ⟨hx, hb, hr, hw, hown, hlk⟩ := fwB B
  refine fw_enter hargs (Nat.le_of_ble_eq_true rfl) (fun ls hl => ?_)
  have hl : lv_has ls 3 [(0, .ref t_h), (1, .int v1)] := hl
  refine fw_Q (P := fun Q => ∃ A : Nat → Prop, va_D A [oX8 t_h t_a t_thrown t_taped t_at t_behind t_size t_kind t_number t_wrong t_wrongAt t_faultKind t_faultPlace t_x t_wayLong t_bothLeast, arI G (t_a 1) 558 t_all, arI G (t_a 22) 144 t_netLength, arI G (t_a 23) 144 t_netMany, arI G (t_a 24) 144 t_boundLength, arI G (t_a 25) 144 t_boundMany] ∧ va_S A s.heap s.heap [] ∧ (∀ q, s.heap.size ≤ q → A q) ∧ ∀ (v : Int32) (n_t_thrown : Int32) (n_t_netLength : Nat → Int32) (n_t_netMany : Nat → Int32) (n_t_boundLength : Nat → Int32) (n_t_boundMany : Nat → Int32) (H : Heap) (locs : List Loc) (pc : Nat) (ls : Array Slot), some (v, n_t_thrown, n_t_netLength, n_t_netMany, n_t_boundLength, n_t_boundMany) = some (r, o_t_thrown, o_t_netLength, o_t_netMany, o_t_boundLength, o_t_boundMany) → va_P G.1 vwCl [oX8 t_h t_a n_t_thrown t_taped t_at t_behind t_size t_kind t_number t_wrong t_wrongAt t_faultKind t_faultPlace t_x t_wayLong t_bothLeast, arI G (t_a 1) 558 t_all, arI G (t_a 22) 144 n_t_netLength, arI G (t_a 23) 144 n_t_netMany, arI G (t_a 24) 144 n_t_boundLength, arI G (t_a 25) 144 n_t_boundMany] H → va_S A s.heap H locs → decode cX8_web pc = .ok (.ireturn, 1) → W p l e ({ frames := 5, cells := 0, slots := 0, locals := 118 } : Room) s m args below meth c H locs 0 0 Q (F0 m pc ls [.int v])) ⟨va_A [oX8 t_h t_a t_thrown t_taped t_at t_behind t_size t_kind t_number t_wrong t_wrongAt t_faultKind t_faultPlace t_x t_wayLong t_bothLeast, arI G (t_a 1) 558 t_all, arI G (t_a 22) 144 t_netLength, arI G (t_a 23) 144 t_netMany, arI G (t_a 24) 144 t_boundLength, arI G (t_a 25) 144 t_boundMany] s.heap.size, hD0.self (sz := s.heap.size), va_S.rf, fun q h => Or.inr h, ?_⟩ ?_
  · intro v n_t_thrown n_t_netLength n_t_netMany n_t_boundLength n_t_boundMany H locs pc ls h hP hS hd
    cases h
    exact retWI hx hb hr hlk hS hP rfl hd
  rintro Q ⟨A, hD, hS, hA, hRet⟩
  change W p l e ({ frames := 5, cells := 0, slots := 0, locals := 118 } : Room) s m args below meth c _ _ 0 0 Q _
  unfold fX8_web at hf
  refine lv_aload_n hx hb dX8_web_0 rfl (lv_at hl 0 rfl) ?_
  refine lv_iconst (v := 0) hx hb dX8_web_1 (by decide) ?_
  refine va_put (D := G.1) (ci := 8) (v := .int 0) (ty := .int) (C := RX8) (T := TX8) (N := 33) hx hb hw inW8 tyX8 tyX8_ok nmX8 hown hK.1 hP hD hS 0 rfl rfl 0 (by decide) (hw _ kw_6_21) (fun _ h9 => h9) rfl (by decide +kernel) rfl rfl (Nat.le_of_ble_eq_true rfl) dX8_web_2 (fun H locs hP hD hS => ?_)
  have hP : va_P G.1 vwCl [oX8 t_h t_a 0 t_taped t_at t_behind t_size t_kind t_number t_wrong t_wrongAt t_faultKind t_faultPlace t_x t_wayLong t_bothLeast, arI G (t_a 1) 558 t_all, arI G (t_a 22) 144 t_netLength, arI G (t_a 23) 144 t_netMany, arI G (t_a 24) 144 t_boundLength, arI G (t_a 25) 144 t_boundMany] H := hP
  have hD : va_D A [oX8 t_h t_a 0 t_taped t_at t_behind t_size t_kind t_number t_wrong t_wrongAt t_faultKind t_faultPlace t_x t_wayLong t_bothLeast, arI G (t_a 1) 558 t_all, arI G (t_a 22) 144 t_netLength, arI G (t_a 23) 144 t_netMany, arI G (t_a 24) 144 t_boundLength, arI G (t_a 25) 144 t_boundMany] := hD
  refine lv_iload_n hx hb dX8_web_5 rfl (lv_at hl 1 rfl) ?_
  refine lv_i2l hx hb dX8_web_6 rfl ?_
  refine lv_lconst (v := 0) hx hb dX8_web_7 (by decide) ?_
  refine lv_lconst (v := 1) hx hb dX8_web_8 (by decide) ?_
  obtain ⟨r_1, hc_2, hf⟩ := bd1_in hf
  refine rcI (va_runS (As := [.long (Int32.toInt64 v1), .long 0, .long 1]) (rest := []) ⟨hx, hb, hml, hown, hw⟩ ((ctX8_within l G (Int32.toInt64 v1) 0 1 _ hc_2) _) (kS hw calX8_within kw_14_2 rfl rfl ⟨Nat.le_of_ble_eq_true rfl, Nat.le_of_ble_eq_true rfl⟩) (rpS (hP.sub (ws' := []) [] rfl) hK) rfl rfl hl.1 rfl (lv_room (Nat.le_of_ble_eq_true rfl)) dX8_web_9 ⟨Nat.zero_le _, Nat.zero_le _⟩) hS hA hP (fun H locs hP hS => ?_)
  refine lv_if_ne (tgt := 18) hx hb dX8_web_12 (by decide) (fun c_3 => ?_) (fun c_3 => ?_)
  · have hf := iq c_3 hf
    refine lv_aload_n hx hb dX8_web_18 rfl (lv_at hl 0 rfl) ?_
    refine va_get (D := G.1) (ci := 8) (v := .ref (t_a 1)) (C := RX8) (T := TX8) (N := 33) hx hb hw inW8 hown hK.1 hP 0 rfl rfl 1 (by decide) (hw _ kw_5_11) (fun _ h9 => h9) rfl dX8_web_19 ?_
    refine lv_iconst (v := 0) hx hb dX8_web_22 (by decide) ?_
    obtain ⟨hi_5, hf⟩ := rdI_in hf
    refine va_iald hx hb hK.1 hP 1 0 rfl rfl hi_5 dX8_web_23 ?_
    refine lv_topi (fun x_4 ex_4 => ?_)
    have hf := hf x_4 ex_4
    refine lv_if_ne (tgt := 30) hx hb dX8_web_24 (by decide) (fun c_6 => ?_) (fun c_6 => ?_)
    · have hf := iq c_6 hf
      refine lv_aload_n hx hb dX8_web_30 rfl (lv_at hl 0 rfl) ?_
      obtain ⟨t_netLength_7, t_netMany_8, t_boundLength_9, t_boundMany_10, hc_11, hf⟩ := bd4_in hf
      refine wcV (w1 := [oX8 t_h t_a 0 t_taped t_at t_behind t_size t_kind t_number t_wrong t_wrongAt t_faultKind t_faultPlace t_x t_wayLong t_bothLeast, arI G (t_a 1) 558 t_all, arI G (t_a 22) 144 t_netLength_7, arI G (t_a 23) 144 t_netMany_8, arI G (t_a 24) 144 t_boundLength_9, arI G (t_a 25) 144 t_boundMany_10]) (va_runV (As := []) (rest := []) ⟨hx, hb, hml, hown, hw⟩ ((ctX8_laysNets l G t_h t_a 0 t_all t_taped t_at t_behind t_size t_kind t_number t_wrong t_wrongAt t_faultKind t_faultPlace t_x t_wayLong t_bothLeast t_netLength t_netMany t_boundLength t_boundMany _ _ _ _ hc_11) _) (kV hw calX8_laysNets kw_42_2 rfl rfl ⟨Nat.le_of_ble_eq_true rfl, Nat.le_of_ble_eq_true rfl⟩) (wpV (hP.sub (ws' := [oX8 t_h t_a 0 t_taped t_at t_behind t_size t_kind t_number t_wrong t_wrongAt t_faultKind t_faultPlace t_x t_wayLong t_bothLeast, arI G (t_a 1) 558 t_all, arI G (t_a 22) 144 t_netLength, arI G (t_a 23) 144 t_netMany, arI G (t_a 24) 144 t_boundLength, arI G (t_a 25) 144 t_boundMany]) [0, 1, 2, 3, 4, 5] rfl) (hD.sub (ws' := [oX8 t_h t_a 0 t_taped t_at t_behind t_size t_kind t_number t_wrong t_wrongAt t_faultKind t_faultPlace t_x t_wayLong t_bothLeast, arI G (t_a 1) 558 t_all, arI G (t_a 22) 144 t_netLength, arI G (t_a 23) 144 t_netMany, arI G (t_a 24) 144 t_boundLength, arI G (t_a 25) 144 t_boundMany]) [0, 1, 2, 3, 4, 5] (by decide) rfl) hK (ci := 8) (q0 := 0) rfl rfl) rfl rfl hl.1 rfl (lv_room (Nat.le_of_ble_eq_true rfl)) dX8_web_31 ⟨Nat.zero_le _, Nat.zero_le _⟩) hS hA hP hD [0, 1, 2, 3, 4, 5] rfl rfl (fun H locs hP hD hS => ?_)
      have hP : va_P G.1 vwCl [oX8 t_h t_a 0 t_taped t_at t_behind t_size t_kind t_number t_wrong t_wrongAt t_faultKind t_faultPlace t_x t_wayLong t_bothLeast, arI G (t_a 1) 558 t_all, arI G (t_a 22) 144 t_netLength_7, arI G (t_a 23) 144 t_netMany_8, arI G (t_a 24) 144 t_boundLength_9, arI G (t_a 25) 144 t_boundMany_10] H := hP
      have hD : va_D A [oX8 t_h t_a 0 t_taped t_at t_behind t_size t_kind t_number t_wrong t_wrongAt t_faultKind t_faultPlace t_x t_wayLong t_bothLeast, arI G (t_a 1) 558 t_all, arI G (t_a 22) 144 t_netLength_7, arI G (t_a 23) 144 t_netMany_8, arI G (t_a 24) 144 t_boundLength_9, arI G (t_a 25) 144 t_boundMany_10] := hD
      refine lv_aload_n hx hb dX8_web_34 rfl (lv_at hl 0 rfl) ?_
      refine va_get (D := G.1) (ci := 8) (v := .ref (t_a 1)) (C := RX8) (T := TX8) (N := 33) hx hb hw inW8 hown hK.1 hP 0 rfl rfl 1 (by decide) (hw _ kw_5_11) (fun _ h9 => h9) rfl dX8_web_35 ?_
      refine lv_iconst (v := 0) hx hb dX8_web_38 (by decide) ?_
      obtain ⟨hi_13, hf⟩ := rdI_in hf
      refine va_iald hx hb hK.1 hP 1 0 rfl rfl hi_13 dX8_web_39 ?_
      refine lv_topi (fun x_12 ex_12 => ?_)
      have hf := hf x_12 ex_12
      refine lv_iconst (v := 1) hx hb dX8_web_40 (by decide) ?_
      refine lv_isub hx hb dX8_web_41 ?_
      refine lv_topi (fun y_14 ey_14 => ?_)
      have hf := bnd_all hf y_14 ey_14
      refine lv_istore_n (lv' := [(2, .int y_14), (0, .ref t_h), (1, .int v1)]) hx hb dX8_web_42 rfl hl (by decide) rfl (fun ls hl => ?_)
      refine lv_iload_n hx hb dX8_web_43 rfl (lv_at hl 2 rfl) ?_
      refine lv_iconst (v := 1) hx hb dX8_web_44 (by decide) ?_
      refine lv_icmp_ne (tgt := 57) hx hb dX8_web_45 (by decide) (fun c_15 => ?_) (fun c_15 => ?_)
      · have hf := iq c_15 hf
        refine lv_aload_n hx hb dX8_web_57 rfl (lv_at hl 1 rfl) ?_
        refine va_get (D := G.1) (ci := 8) (v := .ref (t_a 23)) (C := RX8) (T := TX8) (N := 33) hx hb hw inW8 hown hK.1 hP 0 rfl rfl 23 (by decide) (hw _ kw_5_21) (fun _ h9 => h9) rfl dX8_web_58 ?_
        refine lv_iload_n hx hb dX8_web_61 rfl (lv_at hl 0 rfl) ?_
        obtain ⟨hi_17, hf⟩ := rdI_in hf
        refine va_iald hx hb hK.1 hP 3 0 rfl rfl hi_17 dX8_web_62 ?_
        refine lv_topi (fun x_16 ex_16 => ?_)
        have hf := hf x_16 ex_16
        refine lv_if_ne (tgt := 70) hx hb dX8_web_63 (by decide) (fun c_18 => ?_) (fun c_18 => ?_)
        · have hf := iq c_18 hf
          refine lv_aload_n hx hb dX8_web_70 rfl (lv_at hl 1 rfl) ?_
          refine va_get (D := G.1) (ci := 8) (v := .ref (t_a 22)) (C := RX8) (T := TX8) (N := 33) hx hb hw inW8 hown hK.1 hP 0 rfl rfl 22 (by decide) (hw _ kw_5_20) (fun _ h9 => h9) rfl dX8_web_71 ?_
          refine lv_iload_n hx hb dX8_web_74 rfl (lv_at hl 0 rfl) ?_
          obtain ⟨hi_20, hf⟩ := rdI_in hf
          refine va_iald hx hb hK.1 hP 2 0 rfl rfl hi_20 dX8_web_75 ?_
          refine lv_topi (fun x_19 ex_19 => ?_)
          have hf := hf x_19 ex_19
          exact hRet _ _ _ _ _ _ _ _ _ _ hf hP hS dX8_web_76
        · have hf := ip c_18 hf
          refine lv_iconst (v := (-1)) hx hb dX8_web_66 (by decide) ?_
          refine lv_goto (tgt := 76) hx hb dX8_web_67 (by decide) ?_
          exact hRet _ _ _ _ _ _ _ _ _ _ hf hP hS dX8_web_76
      · have hf := ip c_15 hf
        refine lv_aload_n hx hb dX8_web_48 rfl (lv_at hl 1 rfl) ?_
        refine va_get (D := G.1) (ci := 8) (v := .ref (t_a 23)) (C := RX8) (T := TX8) (N := 33) hx hb hw inW8 hown hK.1 hP 0 rfl rfl 23 (by decide) (hw _ kw_5_21) (fun _ h9 => h9) rfl dX8_web_49 ?_
        refine lv_iload_n hx hb dX8_web_52 rfl (lv_at hl 0 rfl) ?_
        obtain ⟨hi_22, hf⟩ := rdI_in hf
        refine va_iald hx hb hK.1 hP 3 0 rfl rfl hi_22 dX8_web_53 ?_
        refine lv_topi (fun x_21 ex_21 => ?_)
        have hf := hf x_21 ex_21
        refine lv_goto (tgt := 76) hx hb dX8_web_54 (by decide) ?_
        exact hRet _ _ _ _ _ _ _ _ _ _ hf hP hS dX8_web_76
    · have hf := ip c_6 hf
      refine lv_bipush (v := (-5)) hx hb dX8_web_27 (by decide) ?_
      exact hRet _ _ _ _ _ _ _ _ _ _ hf hP hS dX8_web_29
  · have hf := ip c_3 hf
    refine lv_bipush (v := (-2)) hx hb dX8_web_15 (by decide) ?_
    exact hRet _ _ _ _ _ _ _ _ _ _ hf hP hS dX8_web_17
theorem calX8_more : CalV yX8_more cX8_more 4 (some .int) 0 := ⟨⟨kw_43_0, kw_1_5, by decide +kernel⟩, kw_42_22, kw_42_23⟩
set_option maxHeartbeats 8000000 in
set_option maxRecDepth 100000 in
theorem ctX8_more (l : Launch) (G : GT) (t_h : Nat) (t_a : Nat → Nat) (t_thrown : Int32) (t_all : Nat → Int32) (t_taped : Int32) (t_at : Int32) (t_behind : Int32) (t_size : Int32) (t_kind : Int32) (t_number : Int32) (t_wrong : Int32) (t_wrongAt : Int32) (t_faultKind : Int32) (t_faultPlace : Int32) (t_x : Int32) (t_wayLong : Int32) (t_bothLeast : Int32) (t_kept : Nat → Int32) (r : Int32) (o_t_thrown : Int32) (o_t_all : Nat → Int32) (o_t_kept : Nat → Int32) (hf : fX8_more t_thrown t_all t_kept = some (r, o_t_thrown, o_t_all, o_t_kept)) : WrI l yX8_more (Cond.code yX8_more cX8_more 4 (some .int)) { frames := 3, cells := 0, slots := 0, locals := 71 } G [.ref t_h] [oX8 t_h t_a t_thrown t_taped t_at t_behind t_size t_kind t_number t_wrong t_wrongAt t_faultKind t_faultPlace t_x t_wayLong t_bothLeast, arI G (t_a 1) 558 t_all, arI G (t_a 26) 186 t_kept] [oX8 t_h t_a o_t_thrown t_taped t_at t_behind t_size t_kind t_number t_wrong t_wrongAt t_faultKind t_faultPlace t_x t_wayLong t_bothLeast, arI G (t_a 1) 558 o_t_all, arI G (t_a 26) 186 o_t_kept] r := by
  intro sz
  refine Met.ofW (cc := cX8_more) (maxL := 4) (ret := (some .int)) (by decide) rfl ?_
  intro p e s m args below meth c s₁ B hml hv
  obtain ⟨hargs, hsz, hP, hD0, hK⟩ := hv
  subst hsz
  obtain ⟨hx, hb, hr, hw, hown, hlk⟩ := fwB B
  refine fw_enter hargs (Nat.le_of_ble_eq_true rfl) (fun ls hl => ?_)
  have hl : lv_has ls 4 [(0, .ref t_h)] := hl
  refine fw_Q (P := fun Q => ∃ A : Nat → Prop, va_D A [oX8 t_h t_a t_thrown t_taped t_at t_behind t_size t_kind t_number t_wrong t_wrongAt t_faultKind t_faultPlace t_x t_wayLong t_bothLeast, arI G (t_a 1) 558 t_all, arI G (t_a 26) 186 t_kept] ∧ va_S A s.heap s.heap [] ∧ (∀ q, s.heap.size ≤ q → A q) ∧ ∀ (v : Int32) (n_t_thrown : Int32) (n_t_all : Nat → Int32) (n_t_kept : Nat → Int32) (H : Heap) (locs : List Loc) (pc : Nat) (ls : Array Slot), some (v, n_t_thrown, n_t_all, n_t_kept) = some (r, o_t_thrown, o_t_all, o_t_kept) → va_P G.1 vwCl [oX8 t_h t_a n_t_thrown t_taped t_at t_behind t_size t_kind t_number t_wrong t_wrongAt t_faultKind t_faultPlace t_x t_wayLong t_bothLeast, arI G (t_a 1) 558 n_t_all, arI G (t_a 26) 186 n_t_kept] H → va_S A s.heap H locs → decode cX8_more pc = .ok (.ireturn, 1) → W p l e ({ frames := 3, cells := 0, slots := 0, locals := 71 } : Room) s m args below meth c H locs 0 0 Q (F0 m pc ls [.int v])) ⟨va_A [oX8 t_h t_a t_thrown t_taped t_at t_behind t_size t_kind t_number t_wrong t_wrongAt t_faultKind t_faultPlace t_x t_wayLong t_bothLeast, arI G (t_a 1) 558 t_all, arI G (t_a 26) 186 t_kept] s.heap.size, hD0.self (sz := s.heap.size), va_S.rf, fun q h => Or.inr h, ?_⟩ ?_
  · intro v n_t_thrown n_t_all n_t_kept H locs pc ls h hP hS hd
    cases h
    exact retWI hx hb hr hlk hS hP rfl hd
  rintro Q ⟨A, hD, hS, hA, hRet⟩
  change W p l e ({ frames := 3, cells := 0, slots := 0, locals := 71 } : Room) s m args below meth c _ _ 0 0 Q _
  have L7 : ∀ (t_thrown : Int32) (t_all : Nat → Int32) (K : (Nat → Int32) → Option (Int32 × Int32 × (Nat → Int32) × (Nat → Int32))) (n : Nat) (l1 : Int32) (t_kept : Nat → Int32) (H : Heap) (locs : List Loc) (ls : Array Slot), va_P G.1 vwCl [oX8 t_h t_a t_thrown t_taped t_at t_behind t_size t_kind t_number t_wrong t_wrongAt t_faultKind t_faultPlace t_x t_wayLong t_bothLeast, arI G (t_a 1) 558 t_all, arI G (t_a 26) 186 t_kept] H → va_D A [oX8 t_h t_a t_thrown t_taped t_at t_behind t_size t_kind t_number t_wrong t_wrongAt t_faultKind t_faultPlace t_x t_wayLong t_bothLeast, arI G (t_a 1) 558 t_all, arI G (t_a 26) 186 t_kept] → va_S A s.heap H locs → lv_has ls 4 [(0, .ref t_h), (1, .int l1)] → fX8_more_7 t_all K n l1 t_kept = some (r, o_t_thrown, o_t_all, o_t_kept) → (∀ (kt_kept : Nat → Int32) (H : Heap) (locs : List Loc) (ls : Array Slot), va_P G.1 vwCl [oX8 t_h t_a t_thrown t_taped t_at t_behind t_size t_kind t_number t_wrong t_wrongAt t_faultKind t_faultPlace t_x t_wayLong t_bothLeast, arI G (t_a 1) 558 t_all, arI G (t_a 26) 186 kt_kept] H → va_D A [oX8 t_h t_a t_thrown t_taped t_at t_behind t_size t_kind t_number t_wrong t_wrongAt t_faultKind t_faultPlace t_x t_wayLong t_bothLeast, arI G (t_a 1) 558 t_all, arI G (t_a 26) 186 kt_kept] → va_S A s.heap H locs → lv_has ls 4 [(0, .ref t_h)] → K kt_kept = some (r, o_t_thrown, o_t_all, o_t_kept) → W p l e ({ frames := 3, cells := 0, slots := 0, locals := 71 } : Room) s m args below meth c H locs 0 0 Q (F0 m 32 ls [])) → W p l e ({ frames := 3, cells := 0, slots := 0, locals := 71 } : Room) s m args below meth c H locs 0 0 Q (F0 m 7 ls []) := by
    intro t_thrown t_all K n
    induction n with
    | zero => intro l1 t_kept H locs ls hP hD hS hl hf; rw [fX8_more_7] at hf; cases hf
    | succ n ih =>
      intro l1 t_kept H locs ls hP hD hS hl hf hX
      rw [fX8_more_7] at hf
      refine lv_iload_n hx hb dX8_more_7 rfl (lv_at hl 1 rfl) ?_
      refine lv_sipush (v := 186) hx hb dX8_more_8 (by decide) ?_
      refine lv_icmp_ge (tgt := 32) hx hb dX8_more_11 (by decide) (fun c_1 => ?_) (fun c_1 => ?_)
      · have hf := ip c_1 hf
        exact hX _ _ _ _ hP hD hS (lv_sub hl [0] rfl) hf
      · have hf := iq c_1 hf
        refine lv_aload_n hx hb dX8_more_14 rfl (lv_at hl 0 rfl) ?_
        refine va_get (D := G.1) (ci := 8) (v := .ref (t_a 26)) (C := RX8) (T := TX8) (N := 33) hx hb hw inW8 hown hK.1 hP 0 rfl rfl 26 (by decide) (hw _ kw_6_0) (fun _ h9 => h9) rfl dX8_more_15 ?_
        refine lv_iload_n hx hb dX8_more_18 rfl (lv_at hl 1 rfl) ?_
        refine lv_aload_n hx hb dX8_more_19 rfl (lv_at hl 0 rfl) ?_
        refine va_get (D := G.1) (ci := 8) (v := .ref (t_a 1)) (C := RX8) (T := TX8) (N := 33) hx hb hw inW8 hown hK.1 hP 0 rfl rfl 1 (by decide) (hw _ kw_5_11) (fun _ h9 => h9) rfl dX8_more_20 ?_
        refine lv_iload_n hx hb dX8_more_23 rfl (lv_at hl 1 rfl) ?_
        obtain ⟨hi_3, hf⟩ := rdI_in hf
        refine va_iald hx hb hK.1 hP 1 0 rfl rfl hi_3 dX8_more_24 ?_
        refine lv_topi (fun x_2 ex_2 => ?_)
        have hf := hf x_2 ex_2
        obtain ⟨hi_5, hf⟩ := wrI_in hf
        refine xiast hx hb hK.1 hP hD hS 2 0 rfl rfl hi_5 dX8_more_25 (fun t_kept_4 H locs et_kept_4 hP hD hS => ?_)
        have hf := hf t_kept_4 et_kept_4
        have hP : va_P G.1 vwCl [oX8 t_h t_a t_thrown t_taped t_at t_behind t_size t_kind t_number t_wrong t_wrongAt t_faultKind t_faultPlace t_x t_wayLong t_bothLeast, arI G (t_a 1) 558 t_all, arI G (t_a 26) 186 t_kept_4] H := hP
        have hD : va_D A [oX8 t_h t_a t_thrown t_taped t_at t_behind t_size t_kind t_number t_wrong t_wrongAt t_faultKind t_faultPlace t_x t_wayLong t_bothLeast, arI G (t_a 1) 558 t_all, arI G (t_a 26) 186 t_kept_4] := hD
        refine lv_iinc (v := (l1 + 1)) (lv' := [(1, .int (l1 + 1)), (0, .ref t_h)]) hx hb dX8_more_26 hl (k := 1) rfl (by rfl) (by decide) rfl (fun ls hl => ?_)
        refine lv_goto (tgt := 7) hx hb dX8_more_29 (by decide) ?_
        exact ih _ _ _ _ _ hP hD hS (lv_sub hl [1, 0] rfl) hf hX
  have L50 : ∀ (l2 : Int32) (t_thrown : Int32) (t_kept : Nat → Int32) (K : Int32 → (Nat → Int32) → Option (Int32 × Int32 × (Nat → Int32) × (Nat → Int32))) (n : Nat) (l1 : Int32) (l3 : Int32) (t_all : Nat → Int32) (H : Heap) (locs : List Loc) (ls : Array Slot), va_P G.1 vwCl [oX8 t_h t_a t_thrown t_taped t_at t_behind t_size t_kind t_number t_wrong t_wrongAt t_faultKind t_faultPlace t_x t_wayLong t_bothLeast, arI G (t_a 1) 558 t_all, arI G (t_a 26) 186 t_kept] H → va_D A [oX8 t_h t_a t_thrown t_taped t_at t_behind t_size t_kind t_number t_wrong t_wrongAt t_faultKind t_faultPlace t_x t_wayLong t_bothLeast, arI G (t_a 1) 558 t_all, arI G (t_a 26) 186 t_kept] → va_S A s.heap H locs → lv_has ls 4 [(0, .ref t_h), (1, .int l1), (2, .int l2), (3, .int l3)] → fX8_more_50 l2 K n l1 l3 t_all = some (r, o_t_thrown, o_t_all, o_t_kept) → (∀ (k1 : Int32) (kt_all : Nat → Int32) (H : Heap) (locs : List Loc) (ls : Array Slot), va_P G.1 vwCl [oX8 t_h t_a t_thrown t_taped t_at t_behind t_size t_kind t_number t_wrong t_wrongAt t_faultKind t_faultPlace t_x t_wayLong t_bothLeast, arI G (t_a 1) 558 kt_all, arI G (t_a 26) 186 t_kept] H → va_D A [oX8 t_h t_a t_thrown t_taped t_at t_behind t_size t_kind t_number t_wrong t_wrongAt t_faultKind t_faultPlace t_x t_wayLong t_bothLeast, arI G (t_a 1) 558 kt_all, arI G (t_a 26) 186 t_kept] → va_S A s.heap H locs → lv_has ls 4 [(0, .ref t_h), (1, .int k1), (2, .int l2)] → K k1 kt_all = some (r, o_t_thrown, o_t_all, o_t_kept) → W p l e ({ frames := 3, cells := 0, slots := 0, locals := 71 } : Room) s m args below meth c H locs 0 0 Q (F0 m 94 ls [])) → W p l e ({ frames := 3, cells := 0, slots := 0, locals := 71 } : Room) s m args below meth c H locs 0 0 Q (F0 m 50 ls []) := by
    intro l2 t_thrown t_kept K n
    induction n with
    | zero => intro l1 l3 t_all H locs ls hP hD hS hl hf; rw [fX8_more_50] at hf; cases hf
    | succ n ih =>
      intro l1 l3 t_all H locs ls hP hD hS hl hf hX
      rw [fX8_more_50] at hf
      refine lv_iload_n hx hb dX8_more_50 rfl (lv_at hl 3 rfl) ?_
      refine lv_aload_n hx hb dX8_more_51 rfl (lv_at hl 0 rfl) ?_
      refine va_get (D := G.1) (ci := 8) (v := .ref (t_a 1)) (C := RX8) (T := TX8) (N := 33) hx hb hw inW8 hown hK.1 hP 0 rfl rfl 1 (by decide) (hw _ kw_5_11) (fun _ h9 => h9) rfl dX8_more_52 ?_
      refine lv_iconst (v := 0) hx hb dX8_more_55 (by decide) ?_
      obtain ⟨hi_12, hf⟩ := rdI_in hf
      refine va_iald hx hb hK.1 hP 1 0 rfl rfl hi_12 dX8_more_56 ?_
      refine lv_topi (fun x_11 ex_11 => ?_)
      have hf := hf x_11 ex_11
      refine lv_icmp_ge (tgt := 94) hx hb dX8_more_57 (by decide) (fun c_13 => ?_) (fun c_13 => ?_)
      · have hf := ip c_13 hf
        exact hX _ _ _ _ _ hP hD hS (lv_sub hl [0, 1, 2] rfl) hf
      · have hf := iq c_13 hf
        refine lv_aload_n hx hb dX8_more_60 rfl (lv_at hl 0 rfl) ?_
        refine va_get (D := G.1) (ci := 8) (v := .ref (t_a 1)) (C := RX8) (T := TX8) (N := 33) hx hb hw inW8 hown hK.1 hP 0 rfl rfl 1 (by decide) (hw _ kw_5_11) (fun _ h9 => h9) rfl dX8_more_61 ?_
        refine lv_iload_n hx hb dX8_more_64 rfl (lv_at hl 2 rfl) ?_
        refine lv_iload_n hx hb dX8_more_65 rfl (lv_at hl 3 rfl) ?_
        obtain ⟨r_14, hc_15, hf⟩ := bd1_in hf
        refine rcI (va_runS (As := [.ref (t_a 1), .int l2, .int l3]) (rest := []) ⟨hx, hb, hml, hown, hw⟩ ((ctX8_refusesIn l G 558 (t_a 1) t_all l2 l3 _ hc_15) _) (kS hw calX8_refusesIn kw_16_22 rfl rfl ⟨Nat.le_of_ble_eq_true rfl, Nat.le_of_ble_eq_true rfl⟩) (rpS (hP.sub (ws' := [arI G (t_a 1) 558 t_all]) [1] rfl) hK) rfl rfl hl.1 rfl (lv_room (Nat.le_of_ble_eq_true rfl)) dX8_more_66 ⟨Nat.zero_le _, Nat.zero_le _⟩) hS hA hP (fun H locs hP hS => ?_)
        refine lv_if_eq (tgt := 75) hx hb dX8_more_69 (by decide) (fun c_16 => ?_) (fun c_16 => ?_)
        · have hf := ip c_16 hf
          refine lv_aload_n hx hb dX8_more_75 rfl (lv_at hl 0 rfl) ?_
          refine va_get (D := G.1) (ci := 8) (v := .ref (t_a 1)) (C := RX8) (T := TX8) (N := 33) hx hb hw inW8 hown hK.1 hP 0 rfl rfl 1 (by decide) (hw _ kw_5_11) (fun _ h9 => h9) rfl dX8_more_76 ?_
          refine lv_iload_n hx hb dX8_more_79 rfl (lv_at hl 2 rfl) ?_
          refine lv_iload_n hx hb dX8_more_80 rfl (lv_at hl 3 rfl) ?_
          refine lv_iconst (v := 1) hx hb dX8_more_81 (by decide) ?_
          obtain ⟨t_all_17, hc_18, hf⟩ := bd1_in hf
          refine wcV (w1 := [arI G (t_a 1) 558 t_all_17]) (va_runS (As := [.ref (t_a 1), .int l2, .int l3, .int 1]) (rest := []) ⟨hx, hb, hml, hown, hw⟩ ((ctX8_sets l G 558 (t_a 1) t_all l2 l3 1 _ hc_18) _) (kS hw calX8_sets kw_17_10 rfl rfl ⟨Nat.le_of_ble_eq_true rfl, Nat.le_of_ble_eq_true rfl⟩) (wpS (hP.sub (ws' := [arI G (t_a 1) 558 t_all]) [1] rfl) (hD.sub (ws' := [arI G (t_a 1) 558 t_all]) [1] (by decide) rfl) hK) rfl rfl hl.1 rfl (lv_room (Nat.le_of_ble_eq_true rfl)) dX8_more_82 ⟨Nat.zero_le _, Nat.zero_le _⟩) hS hA hP hD [1] rfl rfl (fun H locs hP hD hS => ?_)
          have hP : va_P G.1 vwCl [oX8 t_h t_a t_thrown t_taped t_at t_behind t_size t_kind t_number t_wrong t_wrongAt t_faultKind t_faultPlace t_x t_wayLong t_bothLeast, arI G (t_a 1) 558 t_all_17, arI G (t_a 26) 186 t_kept] H := hP
          have hD : va_D A [oX8 t_h t_a t_thrown t_taped t_at t_behind t_size t_kind t_number t_wrong t_wrongAt t_faultKind t_faultPlace t_x t_wayLong t_bothLeast, arI G (t_a 1) 558 t_all_17, arI G (t_a 26) 186 t_kept] := hD
          refine lv_iinc (v := (l1 + 1)) (lv' := [(1, .int (l1 + 1)), (0, .ref t_h), (2, .int l2), (3, .int l3)]) hx hb dX8_more_85 hl (k := 1) rfl (by rfl) (by decide) rfl (fun ls hl => ?_)
          refine lv_iinc (v := (l3 + 1)) (lv' := [(3, .int (l3 + 1)), (1, .int (l1 + 1)), (0, .ref t_h), (2, .int l2)]) hx hb dX8_more_88 hl (k := 3) rfl (by rfl) (by decide) rfl (fun ls hl => ?_)
          refine lv_goto (tgt := 50) hx hb dX8_more_91 (by decide) ?_
          exact ih _ _ _ _ _ _ hP hD hS (lv_sub hl [2, 1, 3, 0] rfl) hf hX
        · have hf := iq c_16 hf
          refine lv_goto (tgt := 88) hx hb dX8_more_72 (by decide) ?_
          refine lv_iinc (v := (l3 + 1)) (lv' := [(3, .int (l3 + 1)), (0, .ref t_h), (1, .int l1), (2, .int l2)]) hx hb dX8_more_88 hl (k := 3) rfl (by rfl) (by decide) rfl (fun ls hl => ?_)
          refine lv_goto (tgt := 50) hx hb dX8_more_91 (by decide) ?_
          exact ih _ _ _ _ _ _ hP hD hS (lv_sub hl [1, 2, 3, 0] rfl) hf hX
  have L36 : ∀ (t_thrown : Int32) (t_kept : Nat → Int32) (K : Int32 → (Nat → Int32) → Option (Int32 × Int32 × (Nat → Int32) × (Nat → Int32))) (n : Nat) (l1 : Int32) (l2 : Int32) (t_all : Nat → Int32) (H : Heap) (locs : List Loc) (ls : Array Slot), va_P G.1 vwCl [oX8 t_h t_a t_thrown t_taped t_at t_behind t_size t_kind t_number t_wrong t_wrongAt t_faultKind t_faultPlace t_x t_wayLong t_bothLeast, arI G (t_a 1) 558 t_all, arI G (t_a 26) 186 t_kept] H → va_D A [oX8 t_h t_a t_thrown t_taped t_at t_behind t_size t_kind t_number t_wrong t_wrongAt t_faultKind t_faultPlace t_x t_wayLong t_bothLeast, arI G (t_a 1) 558 t_all, arI G (t_a 26) 186 t_kept] → va_S A s.heap H locs → lv_has ls 4 [(0, .ref t_h), (1, .int l1), (2, .int l2)] → fX8_more_36  K n l1 l2 t_all = some (r, o_t_thrown, o_t_all, o_t_kept) → (∀ (k1 : Int32) (kt_all : Nat → Int32) (H : Heap) (locs : List Loc) (ls : Array Slot), va_P G.1 vwCl [oX8 t_h t_a t_thrown t_taped t_at t_behind t_size t_kind t_number t_wrong t_wrongAt t_faultKind t_faultPlace t_x t_wayLong t_bothLeast, arI G (t_a 1) 558 kt_all, arI G (t_a 26) 186 t_kept] H → va_D A [oX8 t_h t_a t_thrown t_taped t_at t_behind t_size t_kind t_number t_wrong t_wrongAt t_faultKind t_faultPlace t_x t_wayLong t_bothLeast, arI G (t_a 1) 558 kt_all, arI G (t_a 26) 186 t_kept] → va_S A s.heap H locs → lv_has ls 4 [(0, .ref t_h), (1, .int k1)] → K k1 kt_all = some (r, o_t_thrown, o_t_all, o_t_kept) → W p l e ({ frames := 3, cells := 0, slots := 0, locals := 71 } : Room) s m args below meth c H locs 0 0 Q (F0 m 100 ls [])) → W p l e ({ frames := 3, cells := 0, slots := 0, locals := 71 } : Room) s m args below meth c H locs 0 0 Q (F0 m 36 ls []) := by
    intro t_thrown t_kept K n
    induction n with
    | zero => intro l1 l2 t_all H locs ls hP hD hS hl hf; rw [fX8_more_36] at hf; cases hf
    | succ n ih =>
      intro l1 l2 t_all H locs ls hP hD hS hl hf hX
      rw [fX8_more_36] at hf
      refine lv_iload_n hx hb dX8_more_36 rfl (lv_at hl 2 rfl) ?_
      refine lv_aload_n hx hb dX8_more_37 rfl (lv_at hl 0 rfl) ?_
      refine va_get (D := G.1) (ci := 8) (v := .ref (t_a 1)) (C := RX8) (T := TX8) (N := 33) hx hb hw inW8 hown hK.1 hP 0 rfl rfl 1 (by decide) (hw _ kw_5_11) (fun _ h9 => h9) rfl dX8_more_38 ?_
      refine lv_iconst (v := 0) hx hb dX8_more_41 (by decide) ?_
      obtain ⟨hi_8, hf⟩ := rdI_in hf
      refine va_iald hx hb hK.1 hP 1 0 rfl rfl hi_8 dX8_more_42 ?_
      refine lv_topi (fun x_7 ex_7 => ?_)
      have hf := hf x_7 ex_7
      refine lv_icmp_ge (tgt := 100) hx hb dX8_more_43 (by decide) (fun c_9 => ?_) (fun c_9 => ?_)
      · have hf := ip c_9 hf
        exact hX _ _ _ _ _ hP hD hS (lv_sub hl [0, 1] rfl) hf
      · have hf := iq c_9 hf
        refine lv_iload_n hx hb dX8_more_46 rfl (lv_at hl 2 rfl) ?_
        refine lv_iconst (v := 1) hx hb dX8_more_47 (by decide) ?_
        refine lv_iadd hx hb dX8_more_48 ?_
        refine lv_topi (fun y_10 ey_10 => ?_)
        have hf := bnd_all hf y_10 ey_10
        refine lv_istore_n (lv' := [(3, .int y_10), (0, .ref t_h), (1, .int l1), (2, .int l2)]) hx hb dX8_more_49 rfl hl (by decide) rfl (fun ls hl => ?_)
        refine L50 _ _ _ _ _ _ _ _ _ _ _ hP hD hS (lv_sub hl [1, 2, 3, 0] rfl) hf (fun w_19 t_all_20 H locs ls hP hD hS hl hf => ?_)
        refine lv_iinc (v := (l2 + 1)) (lv' := [(2, .int (l2 + 1)), (0, .ref t_h), (1, .int w_19)]) hx hb dX8_more_94 hl (k := 2) rfl (by rfl) (by decide) rfl (fun ls hl => ?_)
        refine lv_goto (tgt := 36) hx hb dX8_more_97 (by decide) ?_
        exact ih _ _ _ _ _ _ hP hD hS (lv_sub hl [1, 2, 0] rfl) hf hX
  have L102 : ∀ (l1 : Int32) (t_thrown : Int32) (t_kept : Nat → Int32) (K : (Nat → Int32) → Option (Int32 × Int32 × (Nat → Int32) × (Nat → Int32))) (n : Nat) (l2 : Int32) (t_all : Nat → Int32) (H : Heap) (locs : List Loc) (ls : Array Slot), va_P G.1 vwCl [oX8 t_h t_a t_thrown t_taped t_at t_behind t_size t_kind t_number t_wrong t_wrongAt t_faultKind t_faultPlace t_x t_wayLong t_bothLeast, arI G (t_a 1) 558 t_all, arI G (t_a 26) 186 t_kept] H → va_D A [oX8 t_h t_a t_thrown t_taped t_at t_behind t_size t_kind t_number t_wrong t_wrongAt t_faultKind t_faultPlace t_x t_wayLong t_bothLeast, arI G (t_a 1) 558 t_all, arI G (t_a 26) 186 t_kept] → va_S A s.heap H locs → lv_has ls 4 [(0, .ref t_h), (1, .int l1), (2, .int l2)] → fX8_more_102 t_kept K n l2 t_all = some (r, o_t_thrown, o_t_all, o_t_kept) → (∀ (kt_all : Nat → Int32) (H : Heap) (locs : List Loc) (ls : Array Slot), va_P G.1 vwCl [oX8 t_h t_a t_thrown t_taped t_at t_behind t_size t_kind t_number t_wrong t_wrongAt t_faultKind t_faultPlace t_x t_wayLong t_bothLeast, arI G (t_a 1) 558 kt_all, arI G (t_a 26) 186 t_kept] H → va_D A [oX8 t_h t_a t_thrown t_taped t_at t_behind t_size t_kind t_number t_wrong t_wrongAt t_faultKind t_faultPlace t_x t_wayLong t_bothLeast, arI G (t_a 1) 558 kt_all, arI G (t_a 26) 186 t_kept] → va_S A s.heap H locs → lv_has ls 4 [(1, .int l1)] → K kt_all = some (r, o_t_thrown, o_t_all, o_t_kept) → W p l e ({ frames := 3, cells := 0, slots := 0, locals := 71 } : Room) s m args below meth c H locs 0 0 Q (F0 m 127 ls [])) → W p l e ({ frames := 3, cells := 0, slots := 0, locals := 71 } : Room) s m args below meth c H locs 0 0 Q (F0 m 102 ls []) := by
    intro l1 t_thrown t_kept K n
    induction n with
    | zero => intro l2 t_all H locs ls hP hD hS hl hf; rw [fX8_more_102] at hf; cases hf
    | succ n ih =>
      intro l2 t_all H locs ls hP hD hS hl hf hX
      rw [fX8_more_102] at hf
      refine lv_iload_n hx hb dX8_more_102 rfl (lv_at hl 2 rfl) ?_
      refine lv_sipush (v := 186) hx hb dX8_more_103 (by decide) ?_
      refine lv_icmp_ge (tgt := 127) hx hb dX8_more_106 (by decide) (fun c_23 => ?_) (fun c_23 => ?_)
      · have hf := ip c_23 hf
        exact hX _ _ _ _ hP hD hS (lv_sub hl [1] rfl) hf
      · have hf := iq c_23 hf
        refine lv_aload_n hx hb dX8_more_109 rfl (lv_at hl 0 rfl) ?_
        refine va_get (D := G.1) (ci := 8) (v := .ref (t_a 1)) (C := RX8) (T := TX8) (N := 33) hx hb hw inW8 hown hK.1 hP 0 rfl rfl 1 (by decide) (hw _ kw_5_11) (fun _ h9 => h9) rfl dX8_more_110 ?_
        refine lv_iload_n hx hb dX8_more_113 rfl (lv_at hl 2 rfl) ?_
        refine lv_aload_n hx hb dX8_more_114 rfl (lv_at hl 0 rfl) ?_
        refine va_get (D := G.1) (ci := 8) (v := .ref (t_a 26)) (C := RX8) (T := TX8) (N := 33) hx hb hw inW8 hown hK.1 hP 0 rfl rfl 26 (by decide) (hw _ kw_6_0) (fun _ h9 => h9) rfl dX8_more_115 ?_
        refine lv_iload_n hx hb dX8_more_118 rfl (lv_at hl 2 rfl) ?_
        obtain ⟨hi_25, hf⟩ := rdI_in hf
        refine va_iald hx hb hK.1 hP 2 0 rfl rfl hi_25 dX8_more_119 ?_
        refine lv_topi (fun x_24 ex_24 => ?_)
        have hf := hf x_24 ex_24
        obtain ⟨hi_27, hf⟩ := wrI_in hf
        refine xiast hx hb hK.1 hP hD hS 1 0 rfl rfl hi_27 dX8_more_120 (fun t_all_26 H locs et_all_26 hP hD hS => ?_)
        have hf := hf t_all_26 et_all_26
        have hP : va_P G.1 vwCl [oX8 t_h t_a t_thrown t_taped t_at t_behind t_size t_kind t_number t_wrong t_wrongAt t_faultKind t_faultPlace t_x t_wayLong t_bothLeast, arI G (t_a 1) 558 t_all_26, arI G (t_a 26) 186 t_kept] H := hP
        have hD : va_D A [oX8 t_h t_a t_thrown t_taped t_at t_behind t_size t_kind t_number t_wrong t_wrongAt t_faultKind t_faultPlace t_x t_wayLong t_bothLeast, arI G (t_a 1) 558 t_all_26, arI G (t_a 26) 186 t_kept] := hD
        refine lv_iinc (v := (l2 + 1)) (lv' := [(2, .int (l2 + 1)), (0, .ref t_h), (1, .int l1)]) hx hb dX8_more_121 hl (k := 2) rfl (by rfl) (by decide) rfl (fun ls hl => ?_)
        refine lv_goto (tgt := 102) hx hb dX8_more_124 (by decide) ?_
        exact ih _ _ _ _ _ hP hD hS (lv_sub hl [1, 2, 0] rfl) hf hX
  unfold fX8_more at hf
  refine lv_aload_n hx hb dX8_more_0 rfl (lv_at hl 0 rfl) ?_
  refine lv_iconst (v := 0) hx hb dX8_more_1 (by decide) ?_
  refine va_put (D := G.1) (ci := 8) (v := .int 0) (ty := .int) (C := RX8) (T := TX8) (N := 33) hx hb hw inW8 tyX8 tyX8_ok nmX8 hown hK.1 hP hD hS 0 rfl rfl 0 (by decide) (hw _ kw_6_21) (fun _ h9 => h9) rfl (by decide +kernel) rfl rfl (Nat.le_of_ble_eq_true rfl) dX8_more_2 (fun H locs hP hD hS => ?_)
  have hP : va_P G.1 vwCl [oX8 t_h t_a 0 t_taped t_at t_behind t_size t_kind t_number t_wrong t_wrongAt t_faultKind t_faultPlace t_x t_wayLong t_bothLeast, arI G (t_a 1) 558 t_all, arI G (t_a 26) 186 t_kept] H := hP
  have hD : va_D A [oX8 t_h t_a 0 t_taped t_at t_behind t_size t_kind t_number t_wrong t_wrongAt t_faultKind t_faultPlace t_x t_wayLong t_bothLeast, arI G (t_a 1) 558 t_all, arI G (t_a 26) 186 t_kept] := hD
  refine lv_iconst (v := 0) hx hb dX8_more_5 (by decide) ?_
  refine lv_istore_n (lv' := [(1, .int 0), (0, .ref t_h)]) hx hb dX8_more_6 rfl hl (by decide) rfl (fun ls hl => ?_)
  refine L7 _ _ _ _ _ _ _ _ _ hP hD hS (lv_sub hl [1, 0] rfl) hf (fun t_kept_6 H locs ls hP hD hS hl hf => ?_)
  refine lv_iconst (v := 0) hx hb dX8_more_32 (by decide) ?_
  refine lv_istore_n (lv' := [(1, .int 0), (0, .ref t_h)]) hx hb dX8_more_33 rfl hl (by decide) rfl (fun ls hl => ?_)
  refine lv_iconst (v := 0) hx hb dX8_more_34 (by decide) ?_
  refine lv_istore_n (lv' := [(2, .int 0), (1, .int 0), (0, .ref t_h)]) hx hb dX8_more_35 rfl hl (by decide) rfl (fun ls hl => ?_)
  refine L36 _ _ _ _ _ _ _ _ _ _ hP hD hS (lv_sub hl [2, 1, 0] rfl) hf (fun w_21 t_all_22 H locs ls hP hD hS hl hf => ?_)
  refine lv_iconst (v := 0) hx hb dX8_more_100 (by decide) ?_
  refine lv_istore_n (lv' := [(2, .int 0), (0, .ref t_h), (1, .int w_21)]) hx hb dX8_more_101 rfl hl (by decide) rfl (fun ls hl => ?_)
  refine L102 _ _ _ _ _ _ _ _ _ _ hP hD hS (lv_sub hl [1, 2, 0] rfl) hf (fun t_all_28 H locs ls hP hD hS hl hf => ?_)
  refine lv_iload_n hx hb dX8_more_127 rfl (lv_at hl 0 rfl) ?_
  exact hRet _ _ _ _ _ _ _ _ hf hP hS dX8_more_128
theorem calX8_takenAt : CalS yX8_takenAt cX8_takenAt 3 (some .int) 3 := ⟨⟨kw_45_0, kw_1_5, by decide +kernel⟩, kw_44_23⟩
set_option maxHeartbeats 8000000 in
set_option maxRecDepth 100000 in
theorem ctX8_takenAt (l : Launch) (G : GT) (v0 : Int32) (v1 : Int32) (v2 : Int32) (r : Int32) (hf : fX8_takenAt v0 v1 v2 = some r) : RdI l yX8_takenAt (Cond.code yX8_takenAt cX8_takenAt 3 (some .int)) { frames := 0, cells := 0, slots := 0, locals := 0 } G [.int v0, .int v1, .int v2] [] r := by
  intro sz
  refine Met.ofW (cc := cX8_takenAt) (maxL := 3) (ret := (some .int)) (by decide) rfl ?_
  intro p e s m args below meth c s₁ B hml hv
  obtain ⟨hargs, hsz, hP, hK⟩ := hv
  subst hsz
  obtain ⟨hx, hb, hr, hw, hown, hlk⟩ := fwB B
  refine fw_enter hargs (Nat.le_of_ble_eq_true rfl) (fun ls hl => ?_)
  have hl : lv_has ls 3 [(0, .int v0), (1, .int v1), (2, .int v2)] := hl
  refine fw_Q (P := fun Q => ∃ A : Nat → Prop, va_S A s.heap s.heap [] ∧ (∀ q, s.heap.size ≤ q → A q) ∧ ∀ (v : Int32) (H : Heap) (locs : List Loc) (pc : Nat) (ls : Array Slot), some v = some r → va_S A s.heap H locs → decode cX8_takenAt pc = .ok (.ireturn, 1) → W p l e ({ frames := 0, cells := 0, slots := 0, locals := 0 } : Room) s m args below meth c H locs 0 0 Q (F0 m pc ls [.int v])) ⟨fun q => s.heap.size ≤ q, va_S.rf, fun q h => h, fun v H locs pc ls h hS hd => retRI hx hb hr hlk hS h hd⟩ ?_
  rintro Q ⟨A, hS, hA, hRet⟩
  change W p l e ({ frames := 0, cells := 0, slots := 0, locals := 0 } : Room) s m args below meth c _ _ 0 0 Q _
  unfold fX8_takenAt at hf
  refine lv_sipush (v := 512) hx hb dX8_takenAt_0 (by decide) ?_
  refine lv_bipush (v := 12) hx hb dX8_takenAt_3 (by decide) ?_
  refine lv_iload_n hx hb dX8_takenAt_5 rfl (lv_at hl 0 rfl) ?_
  refine lv_iload_n hx hb dX8_takenAt_6 rfl (lv_at hl 1 rfl) ?_
  refine jn_el hf (fun k_2 ek_2 hf => ?_)
  have J15 : ∀ (z_1 : Int32) (H : Heap) (locs : List Loc) (ls : Array Slot), va_P G.1 vwCl [] H → va_S A s.heap H locs → lv_has ls 3 [(0, .int v0), (1, .int v1), (2, .int v2)] → k_2 z_1 = some r → W p l e ({ frames := 0, cells := 0, slots := 0, locals := 0 } : Room) s m args below meth c H locs 0 0 Q (F0 m 15 ls [.int z_1, .int 12, .int 512]) := by
    intro z_1 H locs ls hP hS hl hf
    rw [ek_2] at hf
    refine lv_imul hx hb dX8_takenAt_15 ?_
    refine lv_iload_n hx hb dX8_takenAt_16 rfl (lv_at hl 0 rfl) ?_
    refine lv_iload_n hx hb dX8_takenAt_17 rfl (lv_at hl 1 rfl) ?_
    refine jn_el hf (fun k_4 ek_4 hf => ?_)
    have J26 : ∀ (z_3 : Int32) (H : Heap) (locs : List Loc) (ls : Array Slot), va_P G.1 vwCl [] H → va_S A s.heap H locs → lv_has ls 3 [(2, .int v2)] → k_4 z_3 = some r → W p l e ({ frames := 0, cells := 0, slots := 0, locals := 0 } : Room) s m args below meth c H locs 0 0 Q (F0 m 26 ls [.int z_3, .int (12 * z_1), .int 512]) := by
      intro z_3 H locs ls hP hS hl hf
      rw [ek_4] at hf
      refine lv_iadd hx hb dX8_takenAt_26 ?_
      refine lv_imul hx hb dX8_takenAt_27 ?_
      refine lv_iload_n hx hb dX8_takenAt_28 rfl (lv_at hl 0 rfl) ?_
      refine lv_iadd hx hb dX8_takenAt_29 ?_
      exact hRet _ _ _ _ _ hf hS dX8_takenAt_30
    refine lv_icmp_ge (tgt := 25) hx hb dX8_takenAt_18 (by decide) (fun c_5 => ?_) (fun c_5 => ?_)
    · have hf := ip c_5 hf
      refine lv_iload_n hx hb dX8_takenAt_25 rfl (lv_at hl 0 rfl) ?_
      exact J26 _ _ _ _ hP hS (lv_sub hl [2] rfl) hf
    · have hf := iq c_5 hf
      refine lv_iload_n hx hb dX8_takenAt_21 rfl (lv_at hl 1 rfl) ?_
      refine lv_goto (tgt := 26) hx hb dX8_takenAt_22 (by decide) ?_
      exact J26 _ _ _ _ hP hS (lv_sub hl [2] rfl) hf
  refine lv_icmp_ge (tgt := 14) hx hb dX8_takenAt_7 (by decide) (fun c_6 => ?_) (fun c_6 => ?_)
  · have hf := ip c_6 hf
    refine lv_iload_n hx hb dX8_takenAt_14 rfl (lv_at hl 1 rfl) ?_
    exact J15 _ _ _ _ hP hS (lv_sub hl [0, 1, 2] rfl) hf
  · have hf := iq c_6 hf
    refine lv_iload_n hx hb dX8_takenAt_10 rfl (lv_at hl 0 rfl) ?_
    refine lv_goto (tgt := 15) hx hb dX8_takenAt_11 (by decide) ?_
    exact J15 _ _ _ _ hP hS (lv_sub hl [0, 1, 2] rfl) hf
theorem calX8_canBegin : CalV yX8_canBegin cX8_canBegin 3 (some .boolean) 1 := ⟨⟨kw_44_21, kw_1_5, by decide +kernel⟩, kw_44_19, kw_44_20⟩
set_option maxHeartbeats 8000000 in
set_option maxRecDepth 100000 in
theorem ctX8_canBegin (l : Launch) (G : GT) (t_h : Nat) (t_a : Nat → Nat) (t_thrown : Int32) (t_taped : Int32) (t_at : Int32) (t_behind : Int32) (t_size : Int32) (t_kind : Int32) (t_number : Int32) (t_wrong : Int32) (t_wrongAt : Int32) (t_faultKind : Int32) (t_faultPlace : Int32) (t_x : Int32) (t_way : Nat → Int32) (t_wayLong : Int32) (t_bothLeast : Int32) (t_isTaken : Nat → Int32) (v1 : Int32) (r : Int32) (hf : fX8_canBegin t_way t_wayLong t_isTaken v1 = some r) : RdI l yX8_canBegin (Cond.code yX8_canBegin cX8_canBegin 3 (some .boolean)) { frames := 1, cells := 0, slots := 0, locals := 22 } G [.ref t_h, .int v1] [oX8 t_h t_a t_thrown t_taped t_at t_behind t_size t_kind t_number t_wrong t_wrongAt t_faultKind t_faultPlace t_x t_wayLong t_bothLeast, arI G (t_a 18) 12 t_way, arZ G (t_a 27) 73728 t_isTaken] r := by
  intro sz
  refine Met.ofW (cc := cX8_canBegin) (maxL := 3) (ret := (some .boolean)) (by decide) rfl ?_
  intro p e s m args below meth c s₁ B hml hv
  obtain ⟨hargs, hsz, hP, hK⟩ := hv
  subst hsz
  obtain ⟨hx, hb, hr, hw, hown, hlk⟩ := fwB B
  refine fw_enter hargs (Nat.le_of_ble_eq_true rfl) (fun ls hl => ?_)
  have hl : lv_has ls 3 [(0, .ref t_h), (1, .int v1)] := hl
  refine fw_Q (P := fun Q => ∃ A : Nat → Prop, va_S A s.heap s.heap [] ∧ (∀ q, s.heap.size ≤ q → A q) ∧ ∀ (v : Int32) (H : Heap) (locs : List Loc) (pc : Nat) (ls : Array Slot), some v = some r → va_S A s.heap H locs → narrow .boolean (.int v) = .int v → decode cX8_canBegin pc = .ok (.ireturn, 1) → W p l e ({ frames := 1, cells := 0, slots := 0, locals := 22 } : Room) s m args below meth c H locs 0 0 Q (F0 m pc ls [.int v])) ⟨fun q => s.heap.size ≤ q, va_S.rf, fun q h => h, fun v H locs pc ls h hS hn hd => retRZ hx hb hr hlk hS hn h hd⟩ ?_
  rintro Q ⟨A, hS, hA, hRet⟩
  change W p l e ({ frames := 1, cells := 0, slots := 0, locals := 22 } : Room) s m args below meth c _ _ 0 0 Q _
  have L2 : ∀  (K : Option Int32) (n : Nat) (l2 : Int32) (H : Heap) (locs : List Loc) (ls : Array Slot), va_P G.1 vwCl [oX8 t_h t_a t_thrown t_taped t_at t_behind t_size t_kind t_number t_wrong t_wrongAt t_faultKind t_faultPlace t_x t_wayLong t_bothLeast, arI G (t_a 18) 12 t_way, arZ G (t_a 27) 73728 t_isTaken] H → va_S A s.heap H locs → lv_has ls 3 [(0, .ref t_h), (1, .int v1), (2, .int l2)] → fX8_canBegin_2 v1 t_way t_wayLong t_isTaken K n l2 = some r → (∀  (H : Heap) (locs : List Loc) (ls : Array Slot), va_P G.1 vwCl [oX8 t_h t_a t_thrown t_taped t_at t_behind t_size t_kind t_number t_wrong t_wrongAt t_faultKind t_faultPlace t_x t_wayLong t_bothLeast, arI G (t_a 18) 12 t_way, arZ G (t_a 27) 73728 t_isTaken] H → va_S A s.heap H locs → lv_has ls 3 [] → K = some r → W p l e ({ frames := 1, cells := 0, slots := 0, locals := 22 } : Room) s m args below meth c H locs 0 0 Q (F0 m 46 ls [])) → W p l e ({ frames := 1, cells := 0, slots := 0, locals := 22 } : Room) s m args below meth c H locs 0 0 Q (F0 m 2 ls []) := by
    intro  K n
    induction n with
    | zero => intro l2 H locs ls hP hS hl hf; rw [fX8_canBegin_2] at hf; cases hf
    | succ n ih =>
      intro l2 H locs ls hP hS hl hf hX
      rw [fX8_canBegin_2] at hf
      refine lv_iload_n hx hb dX8_canBegin_2 rfl (lv_at hl 2 rfl) ?_
      refine lv_aload_n hx hb dX8_canBegin_3 rfl (lv_at hl 0 rfl) ?_
      refine va_get (D := G.1) (ci := 8) (v := .int t_wayLong) (C := RX8) (T := TX8) (N := 33) hx hb hw inW8 hown hK.1 hP 0 rfl rfl 19 (by decide) (hw _ kw_29_23) (fun _ h9 => h9) rfl dX8_canBegin_4 ?_
      refine lv_icmp_ge (tgt := 46) hx hb dX8_canBegin_7 (by decide) (fun c_1 => ?_) (fun c_1 => ?_)
      · have hf := ip c_1 hf
        exact hX  _ _ _ hP hS (lv_sub hl [] rfl) hf
      · have hf := iq c_1 hf
        refine lv_aload_n hx hb dX8_canBegin_10 rfl (lv_at hl 0 rfl) ?_
        refine va_get (D := G.1) (ci := 8) (v := .ref (t_a 27)) (C := RX8) (T := TX8) (N := 33) hx hb hw inW8 hown hK.1 hP 0 rfl rfl 27 (by decide) (hw _ kw_6_2) (fun _ h9 => h9) rfl dX8_canBegin_11 ?_
        refine lv_aload_n hx hb dX8_canBegin_14 rfl (lv_at hl 0 rfl) ?_
        refine va_get (D := G.1) (ci := 8) (v := .ref (t_a 18)) (C := RX8) (T := TX8) (N := 33) hx hb hw inW8 hown hK.1 hP 0 rfl rfl 18 (by decide) (hw _ kw_5_18) (fun _ h9 => h9) rfl dX8_canBegin_15 ?_
        refine lv_iload_n hx hb dX8_canBegin_18 rfl (lv_at hl 2 rfl) ?_
        obtain ⟨hi_3, hf⟩ := rdI_in hf
        refine va_iald hx hb hK.1 hP 1 0 rfl rfl hi_3 dX8_canBegin_19 ?_
        refine lv_topi (fun x_2 ex_2 => ?_)
        have hf := hf x_2 ex_2
        refine lv_aload_n hx hb dX8_canBegin_20 rfl (lv_at hl 0 rfl) ?_
        refine va_get (D := G.1) (ci := 8) (v := .ref (t_a 18)) (C := RX8) (T := TX8) (N := 33) hx hb hw inW8 hown hK.1 hP 0 rfl rfl 18 (by decide) (hw _ kw_5_18) (fun _ h9 => h9) rfl dX8_canBegin_21 ?_
        refine lv_iload_n hx hb dX8_canBegin_24 rfl (lv_at hl 2 rfl) ?_
        refine lv_iconst (v := 1) hx hb dX8_canBegin_25 (by decide) ?_
        refine lv_iadd hx hb dX8_canBegin_26 ?_
        obtain ⟨hi_5, hf⟩ := rdI_in hf
        refine va_iald hx hb hK.1 hP 1 0 rfl rfl hi_5 dX8_canBegin_27 ?_
        refine lv_topi (fun x_4 ex_4 => ?_)
        have hf := hf x_4 ex_4
        refine lv_iload_n hx hb dX8_canBegin_28 rfl (lv_at hl 1 rfl) ?_
        refine lv_iload_n hx hb dX8_canBegin_29 rfl (lv_at hl 2 rfl) ?_
        refine lv_iadd hx hb dX8_canBegin_30 ?_
        obtain ⟨r_6, hc_7, hf⟩ := bd1_in hf
        refine rcI (va_runS (As := [.int x_2, .int x_4, .int (v1 + l2)]) (rest := [.ref (t_a 27)]) ⟨hx, hb, hml, hown, hw⟩ ((ctX8_takenAt l G x_2 x_4 (v1 + l2) _ hc_7) _) (kS hw calX8_takenAt kw_44_22 rfl rfl ⟨Nat.le_of_ble_eq_true rfl, Nat.le_of_ble_eq_true rfl⟩) (rpS (hP.sub (ws' := []) [] rfl) hK) rfl rfl hl.1 rfl (lv_room (Nat.le_of_ble_eq_true rfl)) dX8_canBegin_31 ⟨Nat.zero_le _, Nat.zero_le _⟩) hS hA hP (fun H locs hP hS => ?_)
        obtain ⟨hi_9, hf⟩ := rdI_in hf
        refine va_zald hx hb hK.1 hP 2 3 rfl rfl hi_9 dX8_canBegin_34 ?_
        refine lv_topi (fun x_8 ex_8 => ?_)
        have hf := hf x_8 ex_8
        refine lv_if_eq (tgt := 40) hx hb dX8_canBegin_35 (by decide) (fun c_10 => ?_) (fun c_10 => ?_)
        · have hf := ip c_10 hf
          refine lv_iinc (v := (l2 + 1)) (lv' := [(2, .int (l2 + 1)), (0, .ref t_h), (1, .int v1)]) hx hb dX8_canBegin_40 hl (k := 2) rfl (by rfl) (by decide) rfl (fun ls hl => ?_)
          refine lv_goto (tgt := 2) hx hb dX8_canBegin_43 (by decide) ?_
          exact ih _ _ _ _ hP hS (lv_sub hl [1, 2, 0] rfl) hf hX
        · have hf := iq c_10 hf
          refine lv_iconst (v := 0) hx hb dX8_canBegin_38 (by decide) ?_
          exact hRet _ _ _ _ _ hf hS (by decide +kernel) dX8_canBegin_39
  unfold fX8_canBegin at hf
  refine lv_iconst (v := 0) hx hb dX8_canBegin_0 (by decide) ?_
  refine lv_istore_n (lv' := [(2, .int 0), (0, .ref t_h), (1, .int v1)]) hx hb dX8_canBegin_1 rfl hl (by decide) rfl (fun ls hl => ?_)
  refine L2  _ _ _ _ _ _ hP hS (lv_sub hl [1, 2, 0] rfl) hf (fun  H locs ls hP hS hl hf => ?_)
  refine lv_iconst (v := 1) hx hb dX8_canBegin_46 (by decide) ?_
  exact hRet _ _ _ _ _ hf hS (by decide +kernel) dX8_canBegin_47
theorem calX8_calls : CalV yX8_calls cX8_calls 10 (some .int) 2 := ⟨⟨kw_44_16, kw_1_5, by decide +kernel⟩, kw_44_14, kw_44_15⟩
set_option maxHeartbeats 8000000 in
set_option maxRecDepth 100000 in
theorem ctX8_calls (l : Launch) (G : GT) (t_h : Nat) (t_a : Nat → Nat) (t_thrown : Int32) (t_all : Nat → Int32) (t_taped : Int32) (t_at : Int32) (t_behind : Int32) (t_size : Int32) (t_kind : Int32) (t_number : Int32) (t_wrong : Int32) (t_wrongAt : Int32) (t_faultKind : Int32) (t_faultPlace : Int32) (t_x : Int32) (t_loss : Nat → Int32) (t_hops : Nat → Int32) (t_way : Nat → Int32) (t_wayLong : Int32) (t_bothLeast : Int32) (t_isTaken : Nat → Int32) (t_begins : Nat → Int32) (t_rowSort : Nat → Int32) (t_rowMany : Nat → Int32) (t_numbers : Nat → Int64) (v1 : Int32) (v2 : Int32) (r : Int32) (o_t_thrown : Int32) (o_t_loss : Nat → Int32) (o_t_hops : Nat → Int32) (o_t_way : Nat → Int32) (o_t_wayLong : Int32) (o_t_isTaken : Nat → Int32) (o_t_begins : Nat → Int32) (hf : fX8_calls t_thrown t_all t_loss t_hops t_way t_wayLong t_isTaken t_begins t_rowSort t_rowMany t_numbers v1 v2 = some (r, o_t_thrown, o_t_loss, o_t_hops, o_t_way, o_t_wayLong, o_t_isTaken, o_t_begins)) : WrI l yX8_calls (Cond.code yX8_calls cX8_calls 10 (some .int)) { frames := 6, cells := 0, slots := 0, locals := 145 } G [.ref t_h, .int v1, .int v2] [oX8 t_h t_a t_thrown t_taped t_at t_behind t_size t_kind t_number t_wrong t_wrongAt t_faultKind t_faultPlace t_x t_wayLong t_bothLeast, arI G (t_a 1) 558 t_all, arI G (t_a 16) 12 t_loss, arI G (t_a 17) 12 t_hops, arI G (t_a 18) 12 t_way, arZ G (t_a 27) 73728 t_isTaken, arI G (t_a 28) 40 t_begins, arI G (t_a 30) 4 t_rowSort, arI G (t_a 31) 4 t_rowMany, arJ G (t_a 32) 160 t_numbers] [oX8 t_h t_a o_t_thrown t_taped t_at t_behind t_size t_kind t_number t_wrong t_wrongAt t_faultKind t_faultPlace t_x o_t_wayLong t_bothLeast, arI G (t_a 1) 558 t_all, arI G (t_a 16) 12 o_t_loss, arI G (t_a 17) 12 o_t_hops, arI G (t_a 18) 12 o_t_way, arZ G (t_a 27) 73728 o_t_isTaken, arI G (t_a 28) 40 o_t_begins, arI G (t_a 30) 4 t_rowSort, arI G (t_a 31) 4 t_rowMany, arJ G (t_a 32) 160 t_numbers] r := by
  intro sz
  refine Met.ofW (cc := cX8_calls) (maxL := 10) (ret := (some .int)) (by decide) rfl ?_
  intro p e s m args below meth c s₁ B hml hv
  obtain ⟨hargs, hsz, hP, hD0, hK⟩ := hv
  subst hsz
  obtain ⟨hx, hb, hr, hw, hown, hlk⟩ := fwB B
  refine fw_enter hargs (Nat.le_of_ble_eq_true rfl) (fun ls hl => ?_)
  have hl : lv_has ls 10 [(0, .ref t_h), (1, .int v1), (2, .int v2)] := hl
  refine fw_Q (P := fun Q => ∃ A : Nat → Prop, va_D A [oX8 t_h t_a t_thrown t_taped t_at t_behind t_size t_kind t_number t_wrong t_wrongAt t_faultKind t_faultPlace t_x t_wayLong t_bothLeast, arI G (t_a 1) 558 t_all, arI G (t_a 16) 12 t_loss, arI G (t_a 17) 12 t_hops, arI G (t_a 18) 12 t_way, arZ G (t_a 27) 73728 t_isTaken, arI G (t_a 28) 40 t_begins, arI G (t_a 30) 4 t_rowSort, arI G (t_a 31) 4 t_rowMany, arJ G (t_a 32) 160 t_numbers] ∧ va_S A s.heap s.heap [] ∧ (∀ q, s.heap.size ≤ q → A q) ∧ ∀ (v : Int32) (n_t_thrown : Int32) (n_t_loss : Nat → Int32) (n_t_hops : Nat → Int32) (n_t_way : Nat → Int32) (n_t_wayLong : Int32) (n_t_isTaken : Nat → Int32) (n_t_begins : Nat → Int32) (H : Heap) (locs : List Loc) (pc : Nat) (ls : Array Slot), some (v, n_t_thrown, n_t_loss, n_t_hops, n_t_way, n_t_wayLong, n_t_isTaken, n_t_begins) = some (r, o_t_thrown, o_t_loss, o_t_hops, o_t_way, o_t_wayLong, o_t_isTaken, o_t_begins) → va_P G.1 vwCl [oX8 t_h t_a n_t_thrown t_taped t_at t_behind t_size t_kind t_number t_wrong t_wrongAt t_faultKind t_faultPlace t_x n_t_wayLong t_bothLeast, arI G (t_a 1) 558 t_all, arI G (t_a 16) 12 n_t_loss, arI G (t_a 17) 12 n_t_hops, arI G (t_a 18) 12 n_t_way, arZ G (t_a 27) 73728 n_t_isTaken, arI G (t_a 28) 40 n_t_begins, arI G (t_a 30) 4 t_rowSort, arI G (t_a 31) 4 t_rowMany, arJ G (t_a 32) 160 t_numbers] H → va_S A s.heap H locs → decode cX8_calls pc = .ok (.ireturn, 1) → W p l e ({ frames := 6, cells := 0, slots := 0, locals := 145 } : Room) s m args below meth c H locs 0 0 Q (F0 m pc ls [.int v])) ⟨va_A [oX8 t_h t_a t_thrown t_taped t_at t_behind t_size t_kind t_number t_wrong t_wrongAt t_faultKind t_faultPlace t_x t_wayLong t_bothLeast, arI G (t_a 1) 558 t_all, arI G (t_a 16) 12 t_loss, arI G (t_a 17) 12 t_hops, arI G (t_a 18) 12 t_way, arZ G (t_a 27) 73728 t_isTaken, arI G (t_a 28) 40 t_begins, arI G (t_a 30) 4 t_rowSort, arI G (t_a 31) 4 t_rowMany, arJ G (t_a 32) 160 t_numbers] s.heap.size, hD0.self (sz := s.heap.size), va_S.rf, fun q h => Or.inr h, ?_⟩ ?_
  · intro v n_t_thrown n_t_loss n_t_hops n_t_way n_t_wayLong n_t_isTaken n_t_begins H locs pc ls h hP hS hd
    cases h
    exact retWI hx hb hr hlk hS hP rfl hd
  rintro Q ⟨A, hD, hS, hA, hRet⟩
  change W p l e ({ frames := 6, cells := 0, slots := 0, locals := 145 } : Room) s m args below meth c _ _ 0 0 Q _
  have L72 : ∀ (t_thrown : Int32) (t_loss : Nat → Int32) (t_hops : Nat → Int32) (t_way : Nat → Int32) (t_wayLong : Int32) (t_begins : Nat → Int32) (K : (Nat → Int32) → Option (Int32 × Int32 × (Nat → Int32) × (Nat → Int32) × (Nat → Int32) × Int32 × (Nat → Int32) × (Nat → Int32))) (n : Nat) (l3 : Int32) (t_isTaken : Nat → Int32) (H : Heap) (locs : List Loc) (ls : Array Slot), va_P G.1 vwCl [oX8 t_h t_a t_thrown t_taped t_at t_behind t_size t_kind t_number t_wrong t_wrongAt t_faultKind t_faultPlace t_x t_wayLong t_bothLeast, arI G (t_a 1) 558 t_all, arI G (t_a 16) 12 t_loss, arI G (t_a 17) 12 t_hops, arI G (t_a 18) 12 t_way, arZ G (t_a 27) 73728 t_isTaken, arI G (t_a 28) 40 t_begins, arI G (t_a 30) 4 t_rowSort, arI G (t_a 31) 4 t_rowMany, arJ G (t_a 32) 160 t_numbers] H → va_D A [oX8 t_h t_a t_thrown t_taped t_at t_behind t_size t_kind t_number t_wrong t_wrongAt t_faultKind t_faultPlace t_x t_wayLong t_bothLeast, arI G (t_a 1) 558 t_all, arI G (t_a 16) 12 t_loss, arI G (t_a 17) 12 t_hops, arI G (t_a 18) 12 t_way, arZ G (t_a 27) 73728 t_isTaken, arI G (t_a 28) 40 t_begins, arI G (t_a 30) 4 t_rowSort, arI G (t_a 31) 4 t_rowMany, arJ G (t_a 32) 160 t_numbers] → va_S A s.heap H locs → lv_has ls 10 [(0, .ref t_h), (1, .int v1), (2, .int v2), (3, .int l3)] → fX8_calls_72  K n l3 t_isTaken = some (r, o_t_thrown, o_t_loss, o_t_hops, o_t_way, o_t_wayLong, o_t_isTaken, o_t_begins) → (∀ (kt_isTaken : Nat → Int32) (H : Heap) (locs : List Loc) (ls : Array Slot), va_P G.1 vwCl [oX8 t_h t_a t_thrown t_taped t_at t_behind t_size t_kind t_number t_wrong t_wrongAt t_faultKind t_faultPlace t_x t_wayLong t_bothLeast, arI G (t_a 1) 558 t_all, arI G (t_a 16) 12 t_loss, arI G (t_a 17) 12 t_hops, arI G (t_a 18) 12 t_way, arZ G (t_a 27) 73728 kt_isTaken, arI G (t_a 28) 40 t_begins, arI G (t_a 30) 4 t_rowSort, arI G (t_a 31) 4 t_rowMany, arJ G (t_a 32) 160 t_numbers] H → va_D A [oX8 t_h t_a t_thrown t_taped t_at t_behind t_size t_kind t_number t_wrong t_wrongAt t_faultKind t_faultPlace t_x t_wayLong t_bothLeast, arI G (t_a 1) 558 t_all, arI G (t_a 16) 12 t_loss, arI G (t_a 17) 12 t_hops, arI G (t_a 18) 12 t_way, arZ G (t_a 27) 73728 kt_isTaken, arI G (t_a 28) 40 t_begins, arI G (t_a 30) 4 t_rowSort, arI G (t_a 31) 4 t_rowMany, arJ G (t_a 32) 160 t_numbers] → va_S A s.heap H locs → lv_has ls 10 [(0, .ref t_h), (1, .int v1), (2, .int v2)] → K kt_isTaken = some (r, o_t_thrown, o_t_loss, o_t_hops, o_t_way, o_t_wayLong, o_t_isTaken, o_t_begins) → W p l e ({ frames := 6, cells := 0, slots := 0, locals := 145 } : Room) s m args below meth c H locs 0 0 Q (F0 m 91 ls [])) → W p l e ({ frames := 6, cells := 0, slots := 0, locals := 145 } : Room) s m args below meth c H locs 0 0 Q (F0 m 72 ls []) := by
    intro t_thrown t_loss t_hops t_way t_wayLong t_begins K n
    induction n with
    | zero => intro l3 t_isTaken H locs ls hP hD hS hl hf; rw [fX8_calls_72] at hf; cases hf
    | succ n ih =>
      intro l3 t_isTaken H locs ls hP hD hS hl hf hX
      rw [fX8_calls_72] at hf
      refine lv_iload_n hx hb dX8_calls_72 rfl (lv_at hl 3 rfl) ?_
      refine lv_ldc hx hb hown (hw _ kw_6_1) dX8_calls_73 ?_
      refine lv_icmp_ge (tgt := 91) hx hb dX8_calls_75 (by decide) (fun c_13 => ?_) (fun c_13 => ?_)
      · have hf := ip c_13 hf
        exact hX _ _ _ _ hP hD hS (lv_sub hl [0, 1, 2] rfl) hf
      · have hf := iq c_13 hf
        refine lv_aload_n hx hb dX8_calls_78 rfl (lv_at hl 0 rfl) ?_
        refine va_get (D := G.1) (ci := 8) (v := .ref (t_a 27)) (C := RX8) (T := TX8) (N := 33) hx hb hw inW8 hown hK.1 hP 0 rfl rfl 27 (by decide) (hw _ kw_6_2) (fun _ h9 => h9) rfl dX8_calls_79 ?_
        refine lv_iload_n hx hb dX8_calls_82 rfl (lv_at hl 3 rfl) ?_
        refine lv_iconst (v := 0) hx hb dX8_calls_83 (by decide) ?_
        obtain ⟨hi_15, hf⟩ := wrI_in hf
        refine xzast hx hb hK.1 hP hD hS 5 3 rfl rfl hi_15 dX8_calls_84 (fun t_isTaken_14 H locs et_isTaken_14 hP hD hS => ?_)
        have hf := hf t_isTaken_14 et_isTaken_14
        have hP : va_P G.1 vwCl [oX8 t_h t_a t_thrown t_taped t_at t_behind t_size t_kind t_number t_wrong t_wrongAt t_faultKind t_faultPlace t_x t_wayLong t_bothLeast, arI G (t_a 1) 558 t_all, arI G (t_a 16) 12 t_loss, arI G (t_a 17) 12 t_hops, arI G (t_a 18) 12 t_way, arZ G (t_a 27) 73728 t_isTaken_14, arI G (t_a 28) 40 t_begins, arI G (t_a 30) 4 t_rowSort, arI G (t_a 31) 4 t_rowMany, arJ G (t_a 32) 160 t_numbers] H := hP
        have hD : va_D A [oX8 t_h t_a t_thrown t_taped t_at t_behind t_size t_kind t_number t_wrong t_wrongAt t_faultKind t_faultPlace t_x t_wayLong t_bothLeast, arI G (t_a 1) 558 t_all, arI G (t_a 16) 12 t_loss, arI G (t_a 17) 12 t_hops, arI G (t_a 18) 12 t_way, arZ G (t_a 27) 73728 t_isTaken_14, arI G (t_a 28) 40 t_begins, arI G (t_a 30) 4 t_rowSort, arI G (t_a 31) 4 t_rowMany, arJ G (t_a 32) 160 t_numbers] := hD
        refine lv_iinc (v := (l3 + 1)) (lv' := [(3, .int (l3 + 1)), (0, .ref t_h), (1, .int v1), (2, .int v2)]) hx hb dX8_calls_85 hl (k := 3) rfl (by rfl) (by decide) rfl (fun ls hl => ?_)
        refine lv_goto (tgt := 72) hx hb dX8_calls_88 (by decide) ?_
        exact ih _ _ _ _ _ hP hD hS (lv_sub hl [1, 2, 3, 0] rfl) hf hX
  have L176 : ∀ (l3 : Int32) (l4 : Int32) (l5 : Int32) (l6 : Int32) (t_thrown : Int32) (t_loss : Nat → Int32) (t_hops : Nat → Int32) (t_way : Nat → Int32) (t_wayLong : Int32) (t_isTaken : Nat → Int32) (t_begins : Nat → Int32) (K : Int32 → Option (Int32 × Int32 × (Nat → Int32) × (Nat → Int32) × (Nat → Int32) × Int32 × (Nat → Int32) × (Nat → Int32))) (n : Nat) (l8 : Int32) (H : Heap) (locs : List Loc) (ls : Array Slot), va_P G.1 vwCl [oX8 t_h t_a t_thrown t_taped t_at t_behind t_size t_kind t_number t_wrong t_wrongAt t_faultKind t_faultPlace t_x t_wayLong t_bothLeast, arI G (t_a 1) 558 t_all, arI G (t_a 16) 12 t_loss, arI G (t_a 17) 12 t_hops, arI G (t_a 18) 12 t_way, arZ G (t_a 27) 73728 t_isTaken, arI G (t_a 28) 40 t_begins, arI G (t_a 30) 4 t_rowSort, arI G (t_a 31) 4 t_rowMany, arJ G (t_a 32) 160 t_numbers] H → va_D A [oX8 t_h t_a t_thrown t_taped t_at t_behind t_size t_kind t_number t_wrong t_wrongAt t_faultKind t_faultPlace t_x t_wayLong t_bothLeast, arI G (t_a 1) 558 t_all, arI G (t_a 16) 12 t_loss, arI G (t_a 17) 12 t_hops, arI G (t_a 18) 12 t_way, arZ G (t_a 27) 73728 t_isTaken, arI G (t_a 28) 40 t_begins, arI G (t_a 30) 4 t_rowSort, arI G (t_a 31) 4 t_rowMany, arJ G (t_a 32) 160 t_numbers] → va_S A s.heap H locs → lv_has ls 10 [(0, .ref t_h), (1, .int v1), (2, .int v2), (3, .int l3), (4, .int l4), (5, .int l5), (6, .int l6), (8, .int l8)] → fX8_calls_176 t_way t_wayLong t_isTaken K n l8 = some (r, o_t_thrown, o_t_loss, o_t_hops, o_t_way, o_t_wayLong, o_t_isTaken, o_t_begins) → (∀ (k8 : Int32) (H : Heap) (locs : List Loc) (ls : Array Slot), va_P G.1 vwCl [oX8 t_h t_a t_thrown t_taped t_at t_behind t_size t_kind t_number t_wrong t_wrongAt t_faultKind t_faultPlace t_x t_wayLong t_bothLeast, arI G (t_a 1) 558 t_all, arI G (t_a 16) 12 t_loss, arI G (t_a 17) 12 t_hops, arI G (t_a 18) 12 t_way, arZ G (t_a 27) 73728 t_isTaken, arI G (t_a 28) 40 t_begins, arI G (t_a 30) 4 t_rowSort, arI G (t_a 31) 4 t_rowMany, arJ G (t_a 32) 160 t_numbers] H → va_D A [oX8 t_h t_a t_thrown t_taped t_at t_behind t_size t_kind t_number t_wrong t_wrongAt t_faultKind t_faultPlace t_x t_wayLong t_bothLeast, arI G (t_a 1) 558 t_all, arI G (t_a 16) 12 t_loss, arI G (t_a 17) 12 t_hops, arI G (t_a 18) 12 t_way, arZ G (t_a 27) 73728 t_isTaken, arI G (t_a 28) 40 t_begins, arI G (t_a 30) 4 t_rowSort, arI G (t_a 31) 4 t_rowMany, arJ G (t_a 32) 160 t_numbers] → va_S A s.heap H locs → lv_has ls 10 [(0, .ref t_h), (1, .int v1), (2, .int v2), (3, .int l3), (4, .int l4), (5, .int l5), (6, .int l6), (8, .int k8)] → K k8 = some (r, o_t_thrown, o_t_loss, o_t_hops, o_t_way, o_t_wayLong, o_t_isTaken, o_t_begins) → W p l e ({ frames := 6, cells := 0, slots := 0, locals := 145 } : Room) s m args below meth c H locs 0 0 Q (F0 m 191 ls [])) → W p l e ({ frames := 6, cells := 0, slots := 0, locals := 145 } : Room) s m args below meth c H locs 0 0 Q (F0 m 176 ls []) := by
    intro l3 l4 l5 l6 t_thrown t_loss t_hops t_way t_wayLong t_isTaken t_begins K n
    induction n with
    | zero => intro l8 H locs ls hP hD hS hl hf; rw [fX8_calls_176] at hf; cases hf
    | succ n ih =>
      intro l8 H locs ls hP hD hS hl hf hX
      rw [fX8_calls_176] at hf
      refine lv_aload_n hx hb dX8_calls_176 rfl (lv_at hl 0 rfl) ?_
      refine lv_iload hx hb dX8_calls_177 (lv_at hl 7 rfl) ?_
      obtain ⟨r_35, hc_36, hf⟩ := bd1_in hf
      refine rcI (va_runV (As := [.int l8]) (rest := []) ⟨hx, hb, hml, hown, hw⟩ ((ctX8_canBegin l G t_h t_a t_thrown t_taped t_at t_behind t_size t_kind t_number t_wrong t_wrongAt t_faultKind t_faultPlace t_x t_way t_wayLong t_bothLeast t_isTaken l8 _ hc_36) _) (kV hw calX8_canBegin kw_44_18 rfl rfl ⟨Nat.le_of_ble_eq_true rfl, Nat.le_of_ble_eq_true rfl⟩) (rpV (hP.sub (ws' := [oX8 t_h t_a t_thrown t_taped t_at t_behind t_size t_kind t_number t_wrong t_wrongAt t_faultKind t_faultPlace t_x t_wayLong t_bothLeast, arI G (t_a 18) 12 t_way, arZ G (t_a 27) 73728 t_isTaken]) [0, 4, 5] rfl) hK (ci := 8) (q0 := 0) rfl rfl) rfl rfl hl.1 rfl (lv_room (Nat.le_of_ble_eq_true rfl)) dX8_calls_179 ⟨Nat.zero_le _, Nat.zero_le _⟩) hS hA hP (fun H locs hP hS => ?_)
      refine lv_if_ne (tgt := 191) hx hb dX8_calls_182 (by decide) (fun c_37 => ?_) (fun c_37 => ?_)
      · have hf := iq c_37 hf
        exact hX _ _ _ _ hP hD hS (lv_sub hl [0, 1, 2, 3, 4, 5, 6, 7] rfl) hf
      · have hf := ip c_37 hf
        refine lv_iinc (v := (l8 + 1)) (lv' := [(8, .int (l8 + 1)), (0, .ref t_h), (1, .int v1), (2, .int v2), (3, .int l3), (4, .int l4), (5, .int l5), (6, .int l6)]) hx hb dX8_calls_185 hl (k := 7) rfl (by rfl) (by decide) rfl (fun ls hl => ?_)
        refine lv_goto (tgt := 176) hx hb dX8_calls_188 (by decide) ?_
        exact ih _ _ _ _ hP hD hS (lv_sub hl [1, 2, 3, 4, 5, 6, 7, 0] rfl) hf hX
  have L194 : ∀ (l3 : Int32) (l4 : Int32) (l5 : Int32) (l6 : Int32) (l8 : Int32) (t_thrown : Int32) (t_loss : Nat → Int32) (t_hops : Nat → Int32) (t_way : Nat → Int32) (t_wayLong : Int32) (t_begins : Nat → Int32) (K : (Nat → Int32) → Option (Int32 × Int32 × (Nat → Int32) × (Nat → Int32) × (Nat → Int32) × Int32 × (Nat → Int32) × (Nat → Int32))) (n : Nat) (l9 : Int32) (t_isTaken : Nat → Int32) (H : Heap) (locs : List Loc) (ls : Array Slot), va_P G.1 vwCl [oX8 t_h t_a t_thrown t_taped t_at t_behind t_size t_kind t_number t_wrong t_wrongAt t_faultKind t_faultPlace t_x t_wayLong t_bothLeast, arI G (t_a 1) 558 t_all, arI G (t_a 16) 12 t_loss, arI G (t_a 17) 12 t_hops, arI G (t_a 18) 12 t_way, arZ G (t_a 27) 73728 t_isTaken, arI G (t_a 28) 40 t_begins, arI G (t_a 30) 4 t_rowSort, arI G (t_a 31) 4 t_rowMany, arJ G (t_a 32) 160 t_numbers] H → va_D A [oX8 t_h t_a t_thrown t_taped t_at t_behind t_size t_kind t_number t_wrong t_wrongAt t_faultKind t_faultPlace t_x t_wayLong t_bothLeast, arI G (t_a 1) 558 t_all, arI G (t_a 16) 12 t_loss, arI G (t_a 17) 12 t_hops, arI G (t_a 18) 12 t_way, arZ G (t_a 27) 73728 t_isTaken, arI G (t_a 28) 40 t_begins, arI G (t_a 30) 4 t_rowSort, arI G (t_a 31) 4 t_rowMany, arJ G (t_a 32) 160 t_numbers] → va_S A s.heap H locs → lv_has ls 10 [(0, .ref t_h), (1, .int v1), (2, .int v2), (3, .int l3), (4, .int l4), (5, .int l5), (6, .int l6), (8, .int l8), (9, .int l9)] → fX8_calls_194 l8 t_way t_wayLong K n l9 t_isTaken = some (r, o_t_thrown, o_t_loss, o_t_hops, o_t_way, o_t_wayLong, o_t_isTaken, o_t_begins) → (∀ (kt_isTaken : Nat → Int32) (H : Heap) (locs : List Loc) (ls : Array Slot), va_P G.1 vwCl [oX8 t_h t_a t_thrown t_taped t_at t_behind t_size t_kind t_number t_wrong t_wrongAt t_faultKind t_faultPlace t_x t_wayLong t_bothLeast, arI G (t_a 1) 558 t_all, arI G (t_a 16) 12 t_loss, arI G (t_a 17) 12 t_hops, arI G (t_a 18) 12 t_way, arZ G (t_a 27) 73728 kt_isTaken, arI G (t_a 28) 40 t_begins, arI G (t_a 30) 4 t_rowSort, arI G (t_a 31) 4 t_rowMany, arJ G (t_a 32) 160 t_numbers] H → va_D A [oX8 t_h t_a t_thrown t_taped t_at t_behind t_size t_kind t_number t_wrong t_wrongAt t_faultKind t_faultPlace t_x t_wayLong t_bothLeast, arI G (t_a 1) 558 t_all, arI G (t_a 16) 12 t_loss, arI G (t_a 17) 12 t_hops, arI G (t_a 18) 12 t_way, arZ G (t_a 27) 73728 kt_isTaken, arI G (t_a 28) 40 t_begins, arI G (t_a 30) 4 t_rowSort, arI G (t_a 31) 4 t_rowMany, arJ G (t_a 32) 160 t_numbers] → va_S A s.heap H locs → lv_has ls 10 [(0, .ref t_h), (1, .int v1), (2, .int v2), (3, .int l3), (4, .int l4), (5, .int l5), (6, .int l6), (8, .int l8)] → K kt_isTaken = some (r, o_t_thrown, o_t_loss, o_t_hops, o_t_way, o_t_wayLong, o_t_isTaken, o_t_begins) → W p l e ({ frames := 6, cells := 0, slots := 0, locals := 145 } : Room) s m args below meth c H locs 0 0 Q (F0 m 239 ls [])) → W p l e ({ frames := 6, cells := 0, slots := 0, locals := 145 } : Room) s m args below meth c H locs 0 0 Q (F0 m 194 ls []) := by
    intro l3 l4 l5 l6 l8 t_thrown t_loss t_hops t_way t_wayLong t_begins K n
    induction n with
    | zero => intro l9 t_isTaken H locs ls hP hD hS hl hf; rw [fX8_calls_194] at hf; cases hf
    | succ n ih =>
      intro l9 t_isTaken H locs ls hP hD hS hl hf hX
      rw [fX8_calls_194] at hf
      refine lv_iload hx hb dX8_calls_194 (lv_at hl 8 rfl) ?_
      refine lv_aload_n hx hb dX8_calls_196 rfl (lv_at hl 0 rfl) ?_
      refine va_get (D := G.1) (ci := 8) (v := .int t_wayLong) (C := RX8) (T := TX8) (N := 33) hx hb hw inW8 hown hK.1 hP 0 rfl rfl 19 (by decide) (hw _ kw_29_23) (fun _ h9 => h9) rfl dX8_calls_197 ?_
      refine lv_icmp_ge (tgt := 239) hx hb dX8_calls_200 (by decide) (fun c_39 => ?_) (fun c_39 => ?_)
      · have hf := ip c_39 hf
        exact hX _ _ _ _ hP hD hS (lv_sub hl [0, 1, 2, 3, 4, 5, 6, 7] rfl) hf
      · have hf := iq c_39 hf
        refine lv_aload_n hx hb dX8_calls_203 rfl (lv_at hl 0 rfl) ?_
        refine va_get (D := G.1) (ci := 8) (v := .ref (t_a 27)) (C := RX8) (T := TX8) (N := 33) hx hb hw inW8 hown hK.1 hP 0 rfl rfl 27 (by decide) (hw _ kw_6_2) (fun _ h9 => h9) rfl dX8_calls_204 ?_
        refine lv_aload_n hx hb dX8_calls_207 rfl (lv_at hl 0 rfl) ?_
        refine va_get (D := G.1) (ci := 8) (v := .ref (t_a 18)) (C := RX8) (T := TX8) (N := 33) hx hb hw inW8 hown hK.1 hP 0 rfl rfl 18 (by decide) (hw _ kw_5_18) (fun _ h9 => h9) rfl dX8_calls_208 ?_
        refine lv_iload hx hb dX8_calls_211 (lv_at hl 8 rfl) ?_
        obtain ⟨hi_41, hf⟩ := rdI_in hf
        refine va_iald hx hb hK.1 hP 4 0 rfl rfl hi_41 dX8_calls_213 ?_
        refine lv_topi (fun x_40 ex_40 => ?_)
        have hf := hf x_40 ex_40
        refine lv_aload_n hx hb dX8_calls_214 rfl (lv_at hl 0 rfl) ?_
        refine va_get (D := G.1) (ci := 8) (v := .ref (t_a 18)) (C := RX8) (T := TX8) (N := 33) hx hb hw inW8 hown hK.1 hP 0 rfl rfl 18 (by decide) (hw _ kw_5_18) (fun _ h9 => h9) rfl dX8_calls_215 ?_
        refine lv_iload hx hb dX8_calls_218 (lv_at hl 8 rfl) ?_
        refine lv_iconst (v := 1) hx hb dX8_calls_220 (by decide) ?_
        refine lv_iadd hx hb dX8_calls_221 ?_
        obtain ⟨hi_43, hf⟩ := rdI_in hf
        refine va_iald hx hb hK.1 hP 4 0 rfl rfl hi_43 dX8_calls_222 ?_
        refine lv_topi (fun x_42 ex_42 => ?_)
        have hf := hf x_42 ex_42
        refine lv_iload hx hb dX8_calls_223 (lv_at hl 7 rfl) ?_
        refine lv_iload hx hb dX8_calls_225 (lv_at hl 8 rfl) ?_
        refine lv_iadd hx hb dX8_calls_227 ?_
        obtain ⟨r_44, hc_45, hf⟩ := bd1_in hf
        refine rcI (va_runS (As := [.int x_40, .int x_42, .int (l8 + l9)]) (rest := [.ref (t_a 27)]) ⟨hx, hb, hml, hown, hw⟩ ((ctX8_takenAt l G x_40 x_42 (l8 + l9) _ hc_45) _) (kS hw calX8_takenAt kw_44_22 rfl rfl ⟨Nat.le_of_ble_eq_true rfl, Nat.le_of_ble_eq_true rfl⟩) (rpS (hP.sub (ws' := []) [] rfl) hK) rfl rfl hl.1 rfl (lv_room (Nat.le_of_ble_eq_true rfl)) dX8_calls_228 ⟨Nat.zero_le _, Nat.zero_le _⟩) hS hA hP (fun H locs hP hS => ?_)
        refine lv_iconst (v := 1) hx hb dX8_calls_231 (by decide) ?_
        obtain ⟨hi_47, hf⟩ := wrI_in hf
        refine xzast hx hb hK.1 hP hD hS 5 3 rfl rfl hi_47 dX8_calls_232 (fun t_isTaken_46 H locs et_isTaken_46 hP hD hS => ?_)
        have hf := hf t_isTaken_46 et_isTaken_46
        have hP : va_P G.1 vwCl [oX8 t_h t_a t_thrown t_taped t_at t_behind t_size t_kind t_number t_wrong t_wrongAt t_faultKind t_faultPlace t_x t_wayLong t_bothLeast, arI G (t_a 1) 558 t_all, arI G (t_a 16) 12 t_loss, arI G (t_a 17) 12 t_hops, arI G (t_a 18) 12 t_way, arZ G (t_a 27) 73728 t_isTaken_46, arI G (t_a 28) 40 t_begins, arI G (t_a 30) 4 t_rowSort, arI G (t_a 31) 4 t_rowMany, arJ G (t_a 32) 160 t_numbers] H := hP
        have hD : va_D A [oX8 t_h t_a t_thrown t_taped t_at t_behind t_size t_kind t_number t_wrong t_wrongAt t_faultKind t_faultPlace t_x t_wayLong t_bothLeast, arI G (t_a 1) 558 t_all, arI G (t_a 16) 12 t_loss, arI G (t_a 17) 12 t_hops, arI G (t_a 18) 12 t_way, arZ G (t_a 27) 73728 t_isTaken_46, arI G (t_a 28) 40 t_begins, arI G (t_a 30) 4 t_rowSort, arI G (t_a 31) 4 t_rowMany, arJ G (t_a 32) 160 t_numbers] := hD
        refine lv_iinc (v := (l9 + 1)) (lv' := [(9, .int (l9 + 1)), (0, .ref t_h), (1, .int v1), (2, .int v2), (3, .int l3), (4, .int l4), (5, .int l5), (6, .int l6), (8, .int l8)]) hx hb dX8_calls_233 hl (k := 8) rfl (by rfl) (by decide) rfl (fun ls hl => ?_)
        refine lv_goto (tgt := 194) hx hb dX8_calls_236 (by decide) ?_
        exact ih _ _ _ _ _ hP hD hS (lv_sub hl [1, 2, 3, 4, 5, 6, 7, 8, 0] rfl) hf hX
  have L102 : ∀ (t_thrown : Int32) (K : Int32 → Int32 → Int32 → (Nat → Int32) → (Nat → Int32) → (Nat → Int32) → Int32 → (Nat → Int32) → (Nat → Int32) → Option (Int32 × Int32 × (Nat → Int32) × (Nat → Int32) × (Nat → Int32) × Int32 × (Nat → Int32) × (Nat → Int32))) (n : Nat) (l3 : Int32) (l4 : Int32) (l5 : Int32) (l6 : Int32) (t_loss : Nat → Int32) (t_hops : Nat → Int32) (t_way : Nat → Int32) (t_wayLong : Int32) (t_isTaken : Nat → Int32) (t_begins : Nat → Int32) (H : Heap) (locs : List Loc) (ls : Array Slot), va_P G.1 vwCl [oX8 t_h t_a t_thrown t_taped t_at t_behind t_size t_kind t_number t_wrong t_wrongAt t_faultKind t_faultPlace t_x t_wayLong t_bothLeast, arI G (t_a 1) 558 t_all, arI G (t_a 16) 12 t_loss, arI G (t_a 17) 12 t_hops, arI G (t_a 18) 12 t_way, arZ G (t_a 27) 73728 t_isTaken, arI G (t_a 28) 40 t_begins, arI G (t_a 30) 4 t_rowSort, arI G (t_a 31) 4 t_rowMany, arJ G (t_a 32) 160 t_numbers] H → va_D A [oX8 t_h t_a t_thrown t_taped t_at t_behind t_size t_kind t_number t_wrong t_wrongAt t_faultKind t_faultPlace t_x t_wayLong t_bothLeast, arI G (t_a 1) 558 t_all, arI G (t_a 16) 12 t_loss, arI G (t_a 17) 12 t_hops, arI G (t_a 18) 12 t_way, arZ G (t_a 27) 73728 t_isTaken, arI G (t_a 28) 40 t_begins, arI G (t_a 30) 4 t_rowSort, arI G (t_a 31) 4 t_rowMany, arJ G (t_a 32) 160 t_numbers] → va_S A s.heap H locs → lv_has ls 10 [(0, .ref t_h), (1, .int v1), (2, .int v2), (3, .int l3), (4, .int l4), (5, .int l5), (6, .int l6)] → fX8_calls_102 v1 t_all t_rowMany t_numbers K n l3 l4 l5 l6 t_loss t_hops t_way t_wayLong t_isTaken t_begins = some (r, o_t_thrown, o_t_loss, o_t_hops, o_t_way, o_t_wayLong, o_t_isTaken, o_t_begins) → (∀ (k3 : Int32) (k4 : Int32) (k5 : Int32) (kt_loss : Nat → Int32) (kt_hops : Nat → Int32) (kt_way : Nat → Int32) (kt_wayLong : Int32) (kt_isTaken : Nat → Int32) (kt_begins : Nat → Int32) (H : Heap) (locs : List Loc) (ls : Array Slot), va_P G.1 vwCl [oX8 t_h t_a t_thrown t_taped t_at t_behind t_size t_kind t_number t_wrong t_wrongAt t_faultKind t_faultPlace t_x kt_wayLong t_bothLeast, arI G (t_a 1) 558 t_all, arI G (t_a 16) 12 kt_loss, arI G (t_a 17) 12 kt_hops, arI G (t_a 18) 12 kt_way, arZ G (t_a 27) 73728 kt_isTaken, arI G (t_a 28) 40 kt_begins, arI G (t_a 30) 4 t_rowSort, arI G (t_a 31) 4 t_rowMany, arJ G (t_a 32) 160 t_numbers] H → va_D A [oX8 t_h t_a t_thrown t_taped t_at t_behind t_size t_kind t_number t_wrong t_wrongAt t_faultKind t_faultPlace t_x kt_wayLong t_bothLeast, arI G (t_a 1) 558 t_all, arI G (t_a 16) 12 kt_loss, arI G (t_a 17) 12 kt_hops, arI G (t_a 18) 12 kt_way, arZ G (t_a 27) 73728 kt_isTaken, arI G (t_a 28) 40 kt_begins, arI G (t_a 30) 4 t_rowSort, arI G (t_a 31) 4 t_rowMany, arJ G (t_a 32) 160 t_numbers] → va_S A s.heap H locs → lv_has ls 10 [(0, .ref t_h), (1, .int v1), (2, .int v2), (3, .int k3), (4, .int k4), (5, .int k5)] → K k3 k4 k5 kt_loss kt_hops kt_way kt_wayLong kt_isTaken kt_begins = some (r, o_t_thrown, o_t_loss, o_t_hops, o_t_way, o_t_wayLong, o_t_isTaken, o_t_begins) → W p l e ({ frames := 6, cells := 0, slots := 0, locals := 145 } : Room) s m args below meth c H locs 0 0 Q (F0 m 290 ls [])) → W p l e ({ frames := 6, cells := 0, slots := 0, locals := 145 } : Room) s m args below meth c H locs 0 0 Q (F0 m 102 ls []) := by
    intro t_thrown K n
    induction n with
    | zero => intro l3 l4 l5 l6 t_loss t_hops t_way t_wayLong t_isTaken t_begins H locs ls hP hD hS hl hf; rw [fX8_calls_102] at hf; cases hf
    | succ n ih =>
      intro l3 l4 l5 l6 t_loss t_hops t_way t_wayLong t_isTaken t_begins H locs ls hP hD hS hl hf hX
      rw [fX8_calls_102] at hf
      refine lv_iload hx hb dX8_calls_102 (lv_at hl 6 rfl) ?_
      refine lv_aload_n hx hb dX8_calls_104 rfl (lv_at hl 0 rfl) ?_
      refine va_get (D := G.1) (ci := 8) (v := .ref (t_a 31)) (C := RX8) (T := TX8) (N := 33) hx hb hw inW8 hown hK.1 hP 0 rfl rfl 31 (by decide) (hw _ kw_6_6) (fun _ h9 => h9) rfl dX8_calls_105 ?_
      refine lv_iload_n hx hb dX8_calls_108 rfl (lv_at hl 1 rfl) ?_
      obtain ⟨hi_18, hf⟩ := rdI_in hf
      refine va_iald hx hb hK.1 hP 8 0 rfl rfl hi_18 dX8_calls_109 ?_
      refine lv_topi (fun x_17 ex_17 => ?_)
      have hf := hf x_17 ex_17
      refine lv_icmp_ge (tgt := 290) hx hb dX8_calls_110 (by decide) (fun c_19 => ?_) (fun c_19 => ?_)
      · have hf := ip c_19 hf
        exact hX _ _ _ _ _ _ _ _ _ _ _ _ hP hD hS (lv_sub hl [0, 1, 2, 3, 4, 5] rfl) hf
      · have hf := iq c_19 hf
        refine lv_aload_n hx hb dX8_calls_113 rfl (lv_at hl 0 rfl) ?_
        refine va_get (D := G.1) (ci := 8) (v := .ref (t_a 32)) (C := RX8) (T := TX8) (N := 33) hx hb hw inW8 hown hK.1 hP 0 rfl rfl 32 (by decide) (hw _ kw_6_7) (fun _ h9 => h9) rfl dX8_calls_114 ?_
        refine lv_bipush (v := 40) hx hb dX8_calls_117 (by decide) ?_
        refine lv_iload_n hx hb dX8_calls_119 rfl (lv_at hl 1 rfl) ?_
        refine lv_imul hx hb dX8_calls_120 ?_
        refine lv_iload hx hb dX8_calls_121 (lv_at hl 6 rfl) ?_
        refine lv_iadd hx hb dX8_calls_123 ?_
        obtain ⟨hi_21, hf⟩ := rdL_in hf
        refine va_lald hx hb hK.1 hP 9 2 rfl rfl hi_21 dX8_calls_124 ?_
        refine lv_topl (fun x_20 ex_20 => ?_)
        have hf := hf x_20 ex_20
        refine lv_l2i hx hb dX8_calls_125 rfl ?_
        refine lv_topi (fun y_22 ey_22 => ?_)
        have hf := bnd_all hf y_22 ey_22
        refine lv_istore (lv' := [(7, .int y_22), (0, .ref t_h), (1, .int v1), (2, .int v2), (3, .int l3), (4, .int l4), (5, .int l5), (6, .int l6)]) hx hb dX8_calls_126 hl (by decide) rfl (fun ls hl => ?_)
        refine lv_aload_n hx hb dX8_calls_128 rfl (lv_at hl 1 rfl) ?_
        refine va_get (D := G.1) (ci := 8) (v := .ref (t_a 28)) (C := RX8) (T := TX8) (N := 33) hx hb hw inW8 hown hK.1 hP 0 rfl rfl 28 (by decide) (hw _ kw_6_3) (fun _ h9 => h9) rfl dX8_calls_129 ?_
        refine lv_iload hx hb dX8_calls_132 (lv_at hl 7 rfl) ?_
        refine lv_iconst (v := (-1)) hx hb dX8_calls_134 (by decide) ?_
        obtain ⟨hi_24, hf⟩ := wrI_in hf
        refine xiast hx hb hK.1 hP hD hS 6 0 rfl rfl hi_24 dX8_calls_135 (fun t_begins_23 H locs et_begins_23 hP hD hS => ?_)
        have hf := hf t_begins_23 et_begins_23
        have hP : va_P G.1 vwCl [oX8 t_h t_a t_thrown t_taped t_at t_behind t_size t_kind t_number t_wrong t_wrongAt t_faultKind t_faultPlace t_x t_wayLong t_bothLeast, arI G (t_a 1) 558 t_all, arI G (t_a 16) 12 t_loss, arI G (t_a 17) 12 t_hops, arI G (t_a 18) 12 t_way, arZ G (t_a 27) 73728 t_isTaken, arI G (t_a 28) 40 t_begins_23, arI G (t_a 30) 4 t_rowSort, arI G (t_a 31) 4 t_rowMany, arJ G (t_a 32) 160 t_numbers] H := hP
        have hD : va_D A [oX8 t_h t_a t_thrown t_taped t_at t_behind t_size t_kind t_number t_wrong t_wrongAt t_faultKind t_faultPlace t_x t_wayLong t_bothLeast, arI G (t_a 1) 558 t_all, arI G (t_a 16) 12 t_loss, arI G (t_a 17) 12 t_hops, arI G (t_a 18) 12 t_way, arZ G (t_a 27) 73728 t_isTaken, arI G (t_a 28) 40 t_begins_23, arI G (t_a 30) 4 t_rowSort, arI G (t_a 31) 4 t_rowMany, arJ G (t_a 32) 160 t_numbers] := hD
        refine lv_aload_n hx hb dX8_calls_136 rfl (lv_at hl 1 rfl) ?_
        refine lv_iload hx hb dX8_calls_137 (lv_at hl 0 rfl) ?_
        refine lv_bipush (v := 20) hx hb dX8_calls_139 (by decide) ?_
        refine lv_idiv hx hb dX8_calls_141 (by decide) ?_
        refine lv_iload hx hb dX8_calls_142 (lv_at hl 0 rfl) ?_
        refine lv_bipush (v := 20) hx hb dX8_calls_144 (by decide) ?_
        refine lv_irem hx hb dX8_calls_146 (by decide) ?_
        refine lv_iconst (v := 0) hx hb dX8_calls_147 (by decide) ?_
        refine lv_aload_n hx hb dX8_calls_148 rfl (lv_at hl 1 rfl) ?_
        refine va_get (D := G.1) (ci := 8) (v := .ref (t_a 1)) (C := RX8) (T := TX8) (N := 33) hx hb hw inW8 hown hK.1 hP 0 rfl rfl 1 (by decide) (hw _ kw_5_11) (fun _ h9 => h9) rfl dX8_calls_149 ?_
        refine lv_iconst (v := 1) hx hb dX8_calls_152 (by decide) ?_
        obtain ⟨hi_26, hf⟩ := rdI_in hf
        refine va_iald hx hb hK.1 hP 1 0 rfl rfl hi_26 dX8_calls_153 ?_
        refine lv_topi (fun x_25 ex_25 => ?_)
        have hf := hf x_25 ex_25
        obtain ⟨r_29, t_loss_27, t_hops_28, hc_30, hf⟩ := bd3_in hf
        refine wcI (w1 := [oX8 t_h t_a t_thrown t_taped t_at t_behind t_size t_kind t_number t_wrong t_wrongAt t_faultKind t_faultPlace t_x t_wayLong t_bothLeast, arI G (t_a 1) 558 t_all, arI G (t_a 16) 12 t_loss_27, arI G (t_a 17) 12 t_hops_28]) (va_runV (As := [.int (y_22 / 20), .int (y_22 - y_22 / 20 * 20), .int 0, .int x_25]) (rest := []) ⟨hx, hb, hml, hown, hw⟩ ((ctX8_isHeard l G t_h t_a t_thrown t_all t_taped t_at t_behind t_size t_kind t_number t_wrong t_wrongAt t_faultKind t_faultPlace t_x t_loss t_hops t_wayLong t_bothLeast (y_22 / 20) (y_22 - y_22 / 20 * 20) 0 x_25 _ _ _ hc_30) _) (kV hw calX8_isHeard kw_31_21 rfl rfl ⟨Nat.le_of_ble_eq_true rfl, Nat.le_of_ble_eq_true rfl⟩) (wpV (hP.sub (ws' := [oX8 t_h t_a t_thrown t_taped t_at t_behind t_size t_kind t_number t_wrong t_wrongAt t_faultKind t_faultPlace t_x t_wayLong t_bothLeast, arI G (t_a 1) 558 t_all, arI G (t_a 16) 12 t_loss, arI G (t_a 17) 12 t_hops]) [0, 1, 2, 3] rfl) (hD.sub (ws' := [oX8 t_h t_a t_thrown t_taped t_at t_behind t_size t_kind t_number t_wrong t_wrongAt t_faultKind t_faultPlace t_x t_wayLong t_bothLeast, arI G (t_a 1) 558 t_all, arI G (t_a 16) 12 t_loss, arI G (t_a 17) 12 t_hops]) [0, 1, 2, 3] (by decide) rfl) hK (ci := 8) (q0 := 0) rfl rfl) rfl rfl hl.1 rfl (lv_room (Nat.le_of_ble_eq_true rfl)) dX8_calls_154 ⟨Nat.zero_le _, Nat.zero_le _⟩) hS hA hP hD [0, 1, 2, 3] rfl rfl (fun H locs hP hD hS => ?_)
        have hP : va_P G.1 vwCl [oX8 t_h t_a t_thrown t_taped t_at t_behind t_size t_kind t_number t_wrong t_wrongAt t_faultKind t_faultPlace t_x t_wayLong t_bothLeast, arI G (t_a 1) 558 t_all, arI G (t_a 16) 12 t_loss_27, arI G (t_a 17) 12 t_hops_28, arI G (t_a 18) 12 t_way, arZ G (t_a 27) 73728 t_isTaken, arI G (t_a 28) 40 t_begins_23, arI G (t_a 30) 4 t_rowSort, arI G (t_a 31) 4 t_rowMany, arJ G (t_a 32) 160 t_numbers] H := hP
        have hD : va_D A [oX8 t_h t_a t_thrown t_taped t_at t_behind t_size t_kind t_number t_wrong t_wrongAt t_faultKind t_faultPlace t_x t_wayLong t_bothLeast, arI G (t_a 1) 558 t_all, arI G (t_a 16) 12 t_loss_27, arI G (t_a 17) 12 t_hops_28, arI G (t_a 18) 12 t_way, arZ G (t_a 27) 73728 t_isTaken, arI G (t_a 28) 40 t_begins_23, arI G (t_a 30) 4 t_rowSort, arI G (t_a 31) 4 t_rowMany, arJ G (t_a 32) 160 t_numbers] := hD
        refine lv_if_ne (tgt := 163) hx hb dX8_calls_157 (by decide) (fun c_31 => ?_) (fun c_31 => ?_)
        · have hf := iq c_31 hf
          refine lv_aload_n hx hb dX8_calls_163 rfl (lv_at hl 1 rfl) ?_
          refine lv_iload hx hb dX8_calls_164 (lv_at hl 0 rfl) ?_
          refine lv_bipush (v := 20) hx hb dX8_calls_166 (by decide) ?_
          refine lv_idiv hx hb dX8_calls_168 (by decide) ?_
          refine lv_iconst (v := 0) hx hb dX8_calls_169 (by decide) ?_
          obtain ⟨t_way_32, t_wayLong_33, hc_34, hf⟩ := bd2_in hf
          refine wcV (w1 := [oX8 t_h t_a t_thrown t_taped t_at t_behind t_size t_kind t_number t_wrong t_wrongAt t_faultKind t_faultPlace t_x t_wayLong_33 t_bothLeast, arI G (t_a 1) 558 t_all, arI G (t_a 16) 12 t_loss_27, arI G (t_a 17) 12 t_hops_28, arI G (t_a 18) 12 t_way_32]) (va_runV (As := [.int (y_22 / 20), .int 0]) (rest := []) ⟨hx, hb, hml, hown, hw⟩ ((ctX8_walks l G t_h t_a t_thrown t_all t_taped t_at t_behind t_size t_kind t_number t_wrong t_wrongAt t_faultKind t_faultPlace t_x t_loss_27 t_hops_28 t_way t_wayLong t_bothLeast (y_22 / 20) 0 _ _ hc_34) _) (kV hw calX8_walks kw_30_8 rfl rfl ⟨Nat.le_of_ble_eq_true rfl, Nat.le_of_ble_eq_true rfl⟩) (wpV (hP.sub (ws' := [oX8 t_h t_a t_thrown t_taped t_at t_behind t_size t_kind t_number t_wrong t_wrongAt t_faultKind t_faultPlace t_x t_wayLong t_bothLeast, arI G (t_a 1) 558 t_all, arI G (t_a 16) 12 t_loss_27, arI G (t_a 17) 12 t_hops_28, arI G (t_a 18) 12 t_way]) [0, 1, 2, 3, 4] rfl) (hD.sub (ws' := [oX8 t_h t_a t_thrown t_taped t_at t_behind t_size t_kind t_number t_wrong t_wrongAt t_faultKind t_faultPlace t_x t_wayLong t_bothLeast, arI G (t_a 1) 558 t_all, arI G (t_a 16) 12 t_loss_27, arI G (t_a 17) 12 t_hops_28, arI G (t_a 18) 12 t_way]) [0, 1, 2, 3, 4] (by decide) rfl) hK (ci := 8) (q0 := 0) rfl rfl) rfl rfl hl.1 rfl (lv_room (Nat.le_of_ble_eq_true rfl)) dX8_calls_170 ⟨Nat.zero_le _, Nat.zero_le _⟩) hS hA hP hD [0, 1, 2, 3, 4] rfl rfl (fun H locs hP hD hS => ?_)
          have hP : va_P G.1 vwCl [oX8 t_h t_a t_thrown t_taped t_at t_behind t_size t_kind t_number t_wrong t_wrongAt t_faultKind t_faultPlace t_x t_wayLong_33 t_bothLeast, arI G (t_a 1) 558 t_all, arI G (t_a 16) 12 t_loss_27, arI G (t_a 17) 12 t_hops_28, arI G (t_a 18) 12 t_way_32, arZ G (t_a 27) 73728 t_isTaken, arI G (t_a 28) 40 t_begins_23, arI G (t_a 30) 4 t_rowSort, arI G (t_a 31) 4 t_rowMany, arJ G (t_a 32) 160 t_numbers] H := hP
          have hD : va_D A [oX8 t_h t_a t_thrown t_taped t_at t_behind t_size t_kind t_number t_wrong t_wrongAt t_faultKind t_faultPlace t_x t_wayLong_33 t_bothLeast, arI G (t_a 1) 558 t_all, arI G (t_a 16) 12 t_loss_27, arI G (t_a 17) 12 t_hops_28, arI G (t_a 18) 12 t_way_32, arZ G (t_a 27) 73728 t_isTaken, arI G (t_a 28) 40 t_begins_23, arI G (t_a 30) 4 t_rowSort, arI G (t_a 31) 4 t_rowMany, arJ G (t_a 32) 160 t_numbers] := hD
          refine lv_iconst (v := 0) hx hb dX8_calls_173 (by decide) ?_
          refine lv_istore (lv' := [(8, .int 0), (7, .int y_22), (0, .ref t_h), (1, .int v1), (2, .int v2), (3, .int l3), (4, .int l4), (5, .int l5), (6, .int l6)]) hx hb dX8_calls_174 hl (by decide) rfl (fun ls hl => ?_)
          refine L176 _ _ _ _ _ _ _ _ _ _ _ _ _ _ _ _ _ hP hD hS (lv_sub hl [2, 3, 4, 5, 6, 7, 8, 0] rfl) hf (fun w_38 H locs ls hP hD hS hl hf => ?_)
          refine lv_iconst (v := 0) hx hb dX8_calls_191 (by decide) ?_
          refine lv_istore (lv' := [(9, .int 0), (0, .ref t_h), (1, .int v1), (2, .int v2), (3, .int l3), (4, .int l4), (5, .int l5), (6, .int l6), (8, .int w_38)]) hx hb dX8_calls_192 hl (by decide) rfl (fun ls hl => ?_)
          refine L194 _ _ _ _ _ _ _ _ _ _ _ _ _ _ _ _ _ _ hP hD hS (lv_sub hl [1, 2, 3, 4, 5, 6, 7, 8, 0] rfl) hf (fun t_isTaken_48 H locs ls hP hD hS hl hf => ?_)
          refine lv_aload_n hx hb dX8_calls_239 rfl (lv_at hl 0 rfl) ?_
          refine va_get (D := G.1) (ci := 8) (v := .ref (t_a 28)) (C := RX8) (T := TX8) (N := 33) hx hb hw inW8 hown hK.1 hP 0 rfl rfl 28 (by decide) (hw _ kw_6_3) (fun _ h9 => h9) rfl dX8_calls_240 ?_
          refine lv_iload hx hb dX8_calls_243 (lv_at hl 6 rfl) ?_
          refine lv_iload hx hb dX8_calls_245 (lv_at hl 7 rfl) ?_
          obtain ⟨hi_50, hf⟩ := wrI_in hf
          refine xiast hx hb hK.1 hP hD hS 6 0 rfl rfl hi_50 dX8_calls_247 (fun t_begins_49 H locs et_begins_49 hP hD hS => ?_)
          have hf := hf t_begins_49 et_begins_49
          have hP : va_P G.1 vwCl [oX8 t_h t_a t_thrown t_taped t_at t_behind t_size t_kind t_number t_wrong t_wrongAt t_faultKind t_faultPlace t_x t_wayLong_33 t_bothLeast, arI G (t_a 1) 558 t_all, arI G (t_a 16) 12 t_loss_27, arI G (t_a 17) 12 t_hops_28, arI G (t_a 18) 12 t_way_32, arZ G (t_a 27) 73728 t_isTaken_48, arI G (t_a 28) 40 t_begins_49, arI G (t_a 30) 4 t_rowSort, arI G (t_a 31) 4 t_rowMany, arJ G (t_a 32) 160 t_numbers] H := hP
          have hD : va_D A [oX8 t_h t_a t_thrown t_taped t_at t_behind t_size t_kind t_number t_wrong t_wrongAt t_faultKind t_faultPlace t_x t_wayLong_33 t_bothLeast, arI G (t_a 1) 558 t_all, arI G (t_a 16) 12 t_loss_27, arI G (t_a 17) 12 t_hops_28, arI G (t_a 18) 12 t_way_32, arZ G (t_a 27) 73728 t_isTaken_48, arI G (t_a 28) 40 t_begins_49, arI G (t_a 30) 4 t_rowSort, arI G (t_a 31) 4 t_rowMany, arJ G (t_a 32) 160 t_numbers] := hD
          refine lv_iinc (v := (l3 + 1)) (lv' := [(3, .int (l3 + 1)), (0, .ref t_h), (1, .int v1), (2, .int v2), (4, .int l4), (5, .int l5), (6, .int l6), (8, .int w_38)]) hx hb dX8_calls_248 hl (k := 3) rfl (by rfl) (by decide) rfl (fun ls hl => ?_)
          refine lv_iload hx hb dX8_calls_251 (lv_at hl 5 rfl) ?_
          refine lv_iload hx hb dX8_calls_253 (lv_at hl 7 rfl) ?_
          refine lv_iadd hx hb dX8_calls_255 ?_
          refine lv_topi (fun y_51 ey_51 => ?_)
          have hf := bnd_all hf y_51 ey_51
          refine lv_istore (lv' := [(5, .int y_51), (3, .int (l3 + 1)), (0, .ref t_h), (1, .int v1), (2, .int v2), (4, .int l4), (6, .int l6), (8, .int w_38)]) hx hb dX8_calls_256 hl (by decide) rfl (fun ls hl => ?_)
          refine lv_iload hx hb dX8_calls_258 (lv_at hl 7 rfl) ?_
          refine lv_aload_n hx hb dX8_calls_260 rfl (lv_at hl 2 rfl) ?_
          refine va_get (D := G.1) (ci := 8) (v := .int t_wayLong_33) (C := RX8) (T := TX8) (N := 33) hx hb hw inW8 hown hK.1 hP 0 rfl rfl 19 (by decide) (hw _ kw_29_23) (fun _ h9 => h9) rfl dX8_calls_261 ?_
          refine lv_iadd hx hb dX8_calls_264 ?_
          refine lv_iload hx hb dX8_calls_265 (lv_at hl 5 rfl) ?_
          refine lv_icmp_le (tgt := 280) hx hb dX8_calls_267 (by decide) (fun c_52 => ?_) (fun c_52 => ?_)
          · have hf := ip c_52 hf
            refine lv_iload hx hb dX8_calls_280 (lv_at hl 5 rfl) ?_
            refine lv_istore (lv' := [(4, .int l4), (5, .int y_51), (3, .int (l3 + 1)), (0, .ref t_h), (1, .int v1), (2, .int v2), (6, .int l6), (8, .int w_38)]) hx hb dX8_calls_282 hl (by decide) rfl (fun ls hl => ?_)
            refine lv_iinc (v := (l6 + 1)) (lv' := [(6, .int (l6 + 1)), (4, .int l4), (5, .int y_51), (3, .int (l3 + 1)), (0, .ref t_h), (1, .int v1), (2, .int v2), (8, .int w_38)]) hx hb dX8_calls_284 hl (k := 6) rfl (by rfl) (by decide) rfl (fun ls hl => ?_)
            refine lv_goto (tgt := 102) hx hb dX8_calls_287 (by decide) ?_
            exact ih _ _ _ _ _ _ _ _ _ _ _ _ _ hP hD hS (lv_sub hl [4, 5, 6, 3, 1, 2, 0] rfl) hf hX
          · have hf := iq c_52 hf
            refine lv_iload hx hb dX8_calls_270 (lv_at hl 7 rfl) ?_
            refine lv_aload_n hx hb dX8_calls_272 rfl (lv_at hl 2 rfl) ?_
            refine va_get (D := G.1) (ci := 8) (v := .int t_wayLong_33) (C := RX8) (T := TX8) (N := 33) hx hb hw inW8 hown hK.1 hP 0 rfl rfl 19 (by decide) (hw _ kw_29_23) (fun _ h9 => h9) rfl dX8_calls_273 ?_
            refine lv_iadd hx hb dX8_calls_276 ?_
            refine lv_goto (tgt := 282) hx hb dX8_calls_277 (by decide) ?_
            refine lv_topi (fun y_53 ey_53 => ?_)
            have hf := bnd_all hf y_53 ey_53
            refine lv_istore (lv' := [(4, .int y_53), (5, .int y_51), (3, .int (l3 + 1)), (0, .ref t_h), (1, .int v1), (2, .int v2), (6, .int l6), (8, .int w_38)]) hx hb dX8_calls_282 hl (by decide) rfl (fun ls hl => ?_)
            refine lv_iinc (v := (l6 + 1)) (lv' := [(6, .int (l6 + 1)), (4, .int y_53), (5, .int y_51), (3, .int (l3 + 1)), (0, .ref t_h), (1, .int v1), (2, .int v2), (8, .int w_38)]) hx hb dX8_calls_284 hl (k := 6) rfl (by rfl) (by decide) rfl (fun ls hl => ?_)
            refine lv_goto (tgt := 102) hx hb dX8_calls_287 (by decide) ?_
            exact ih _ _ _ _ _ _ _ _ _ _ _ _ _ hP hD hS (lv_sub hl [4, 5, 6, 3, 1, 2, 0] rfl) hf hX
        · have hf := ip c_31 hf
          refine lv_goto (tgt := 284) hx hb dX8_calls_160 (by decide) ?_
          refine lv_iinc (v := (l6 + 1)) (lv' := [(6, .int (l6 + 1)), (7, .int y_22), (0, .ref t_h), (1, .int v1), (2, .int v2), (3, .int l3), (4, .int l4), (5, .int l5)]) hx hb dX8_calls_284 hl (k := 7) rfl (by rfl) (by decide) rfl (fun ls hl => ?_)
          refine lv_goto (tgt := 102) hx hb dX8_calls_287 (by decide) ?_
          exact ih _ _ _ _ _ _ _ _ _ _ _ _ _ hP hD hS (lv_sub hl [2, 3, 4, 5, 6, 7, 0] rfl) hf hX
  unfold fX8_calls at hf
  refine lv_aload_n hx hb dX8_calls_0 rfl (lv_at hl 0 rfl) ?_
  refine lv_iconst (v := 0) hx hb dX8_calls_1 (by decide) ?_
  refine va_put (D := G.1) (ci := 8) (v := .int 0) (ty := .int) (C := RX8) (T := TX8) (N := 33) hx hb hw inW8 tyX8 tyX8_ok nmX8 hown hK.1 hP hD hS 0 rfl rfl 0 (by decide) (hw _ kw_6_21) (fun _ h9 => h9) rfl (by decide +kernel) rfl rfl (Nat.le_of_ble_eq_true rfl) dX8_calls_2 (fun H locs hP hD hS => ?_)
  have hP : va_P G.1 vwCl [oX8 t_h t_a 0 t_taped t_at t_behind t_size t_kind t_number t_wrong t_wrongAt t_faultKind t_faultPlace t_x t_wayLong t_bothLeast, arI G (t_a 1) 558 t_all, arI G (t_a 16) 12 t_loss, arI G (t_a 17) 12 t_hops, arI G (t_a 18) 12 t_way, arZ G (t_a 27) 73728 t_isTaken, arI G (t_a 28) 40 t_begins, arI G (t_a 30) 4 t_rowSort, arI G (t_a 31) 4 t_rowMany, arJ G (t_a 32) 160 t_numbers] H := hP
  have hD : va_D A [oX8 t_h t_a 0 t_taped t_at t_behind t_size t_kind t_number t_wrong t_wrongAt t_faultKind t_faultPlace t_x t_wayLong t_bothLeast, arI G (t_a 1) 558 t_all, arI G (t_a 16) 12 t_loss, arI G (t_a 17) 12 t_hops, arI G (t_a 18) 12 t_way, arZ G (t_a 27) 73728 t_isTaken, arI G (t_a 28) 40 t_begins, arI G (t_a 30) 4 t_rowSort, arI G (t_a 31) 4 t_rowMany, arJ G (t_a 32) 160 t_numbers] := hD
  refine lv_iload_n hx hb dX8_calls_5 rfl (lv_at hl 1 rfl) ?_
  refine lv_i2l hx hb dX8_calls_6 rfl ?_
  refine lv_lconst (v := 0) hx hb dX8_calls_7 (by decide) ?_
  refine lv_ldc2 hx hb hown (hw _ kw_20_3) dX8_calls_8 ?_
  obtain ⟨r_1, hc_2, hf⟩ := bd1_in hf
  refine rcI (va_runS (As := [.long (Int32.toInt64 v1), .long 0, .long 3]) (rest := []) ⟨hx, hb, hml, hown, hw⟩ ((ctX8_within l G (Int32.toInt64 v1) 0 3 _ hc_2) _) (kS hw calX8_within kw_14_2 rfl rfl ⟨Nat.le_of_ble_eq_true rfl, Nat.le_of_ble_eq_true rfl⟩) (rpS (hP.sub (ws' := []) [] rfl) hK) rfl rfl hl.1 rfl (lv_room (Nat.le_of_ble_eq_true rfl)) dX8_calls_11 ⟨Nat.zero_le _, Nat.zero_le _⟩) hS hA hP (fun H locs hP hS => ?_)
  refine lv_if_eq (tgt := 43) hx hb dX8_calls_14 (by decide) (fun c_3 => ?_) (fun c_3 => ?_)
  · have hf := ip c_3 hf
    refine lv_bipush (v := (-2)) hx hb dX8_calls_43 (by decide) ?_
    exact hRet _ _ _ _ _ _ _ _ _ _ _ _ hf hP hS dX8_calls_45
  · have hf := iq c_3 hf
    refine lv_iload_n hx hb dX8_calls_17 rfl (lv_at hl 2 rfl) ?_
    refine lv_i2l hx hb dX8_calls_18 rfl ?_
    refine lv_lconst (v := 0) hx hb dX8_calls_19 (by decide) ?_
    refine lv_ldc2 hx hb hown (hw _ kw_38_9) dX8_calls_20 ?_
    obtain ⟨r_4, hc_5, hf⟩ := bd1_in hf
    refine rcI (va_runS (As := [.long (Int32.toInt64 v2), .long 0, .long 2]) (rest := []) ⟨hx, hb, hml, hown, hw⟩ ((ctX8_within l G (Int32.toInt64 v2) 0 2 _ hc_5) _) (kS hw calX8_within kw_14_2 rfl rfl ⟨Nat.le_of_ble_eq_true rfl, Nat.le_of_ble_eq_true rfl⟩) (rpS (hP.sub (ws' := []) [] rfl) hK) rfl rfl hl.1 rfl (lv_room (Nat.le_of_ble_eq_true rfl)) dX8_calls_23 ⟨Nat.zero_le _, Nat.zero_le _⟩) hS hA hP (fun H locs hP hS => ?_)
    refine jn_el hf (fun k_6 ek_6 hf => ?_)
    have J46 : ∀  (H : Heap) (locs : List Loc) (ls : Array Slot), va_P G.1 vwCl [oX8 t_h t_a 0 t_taped t_at t_behind t_size t_kind t_number t_wrong t_wrongAt t_faultKind t_faultPlace t_x t_wayLong t_bothLeast, arI G (t_a 1) 558 t_all, arI G (t_a 16) 12 t_loss, arI G (t_a 17) 12 t_hops, arI G (t_a 18) 12 t_way, arZ G (t_a 27) 73728 t_isTaken, arI G (t_a 28) 40 t_begins, arI G (t_a 30) 4 t_rowSort, arI G (t_a 31) 4 t_rowMany, arJ G (t_a 32) 160 t_numbers] H → va_D A [oX8 t_h t_a 0 t_taped t_at t_behind t_size t_kind t_number t_wrong t_wrongAt t_faultKind t_faultPlace t_x t_wayLong t_bothLeast, arI G (t_a 1) 558 t_all, arI G (t_a 16) 12 t_loss, arI G (t_a 17) 12 t_hops, arI G (t_a 18) 12 t_way, arZ G (t_a 27) 73728 t_isTaken, arI G (t_a 28) 40 t_begins, arI G (t_a 30) 4 t_rowSort, arI G (t_a 31) 4 t_rowMany, arJ G (t_a 32) 160 t_numbers] → va_S A s.heap H locs → lv_has ls 10 [(0, .ref t_h), (1, .int v1), (2, .int v2)] → k_6 = some (r, o_t_thrown, o_t_loss, o_t_hops, o_t_way, o_t_wayLong, o_t_isTaken, o_t_begins) → W p l e ({ frames := 6, cells := 0, slots := 0, locals := 145 } : Room) s m args below meth c H locs 0 0 Q (F0 m 46 ls []) := by
      intro  H locs ls hP hD hS hl hf
      rw [ek_6] at hf
      refine lv_aload_n hx hb dX8_calls_46 rfl (lv_at hl 0 rfl) ?_
      refine va_get (D := G.1) (ci := 8) (v := .ref (t_a 30)) (C := RX8) (T := TX8) (N := 33) hx hb hw inW8 hown hK.1 hP 0 rfl rfl 30 (by decide) (hw _ kw_6_5) (fun _ h9 => h9) rfl dX8_calls_47 ?_
      refine lv_iload_n hx hb dX8_calls_50 rfl (lv_at hl 1 rfl) ?_
      obtain ⟨hi_8, hf⟩ := rdI_in hf
      refine va_iald hx hb hK.1 hP 7 0 rfl rfl hi_8 dX8_calls_51 ?_
      refine lv_topi (fun x_7 ex_7 => ?_)
      have hf := hf x_7 ex_7
      refine lv_iconst (v := (-1)) hx hb dX8_calls_52 (by decide) ?_
      refine lv_icmp_ne (tgt := 59) hx hb dX8_calls_53 (by decide) (fun c_9 => ?_) (fun c_9 => ?_)
      · have hf := iq c_9 hf
        refine lv_aload_n hx hb dX8_calls_59 rfl (lv_at hl 0 rfl) ?_
        refine lv_iload_n hx hb dX8_calls_60 rfl (lv_at hl 1 rfl) ?_
        obtain ⟨r_10, hc_11, hf⟩ := bd1_in hf
        refine rcI (va_runV (As := [.int v1]) (rest := []) ⟨hx, hb, hml, hown, hw⟩ ((ctX8_arePairs l G t_h t_a 0 t_all t_taped t_at t_behind t_size t_kind t_number t_wrong t_wrongAt t_faultKind t_faultPlace t_x t_wayLong t_bothLeast t_rowMany t_numbers v1 _ hc_11) _) (kV hw calX8_arePairs kw_41_2 rfl rfl ⟨Nat.le_of_ble_eq_true rfl, Nat.le_of_ble_eq_true rfl⟩) (rpV (hP.sub (ws' := [oX8 t_h t_a 0 t_taped t_at t_behind t_size t_kind t_number t_wrong t_wrongAt t_faultKind t_faultPlace t_x t_wayLong t_bothLeast, arI G (t_a 1) 558 t_all, arI G (t_a 31) 4 t_rowMany, arJ G (t_a 32) 160 t_numbers]) [0, 1, 8, 9] rfl) hK (ci := 8) (q0 := 0) rfl rfl) rfl rfl hl.1 rfl (lv_room (Nat.le_of_ble_eq_true rfl)) dX8_calls_61 ⟨Nat.zero_le _, Nat.zero_le _⟩) hS hA hP (fun H locs hP hS => ?_)
        refine lv_if_ne (tgt := 70) hx hb dX8_calls_64 (by decide) (fun c_12 => ?_) (fun c_12 => ?_)
        · have hf := iq c_12 hf
          refine lv_iconst (v := 0) hx hb dX8_calls_70 (by decide) ?_
          refine lv_istore_n (lv' := [(3, .int 0), (0, .ref t_h), (1, .int v1), (2, .int v2)]) hx hb dX8_calls_71 rfl hl (by decide) rfl (fun ls hl => ?_)
          refine L72 _ _ _ _ _ _ _ _ _ _ _ _ _ hP hD hS (lv_sub hl [1, 2, 3, 0] rfl) hf (fun t_isTaken_16 H locs ls hP hD hS hl hf => ?_)
          refine lv_iconst (v := 0) hx hb dX8_calls_91 (by decide) ?_
          refine lv_istore_n (lv' := [(3, .int 0), (0, .ref t_h), (1, .int v1), (2, .int v2)]) hx hb dX8_calls_92 rfl hl (by decide) rfl (fun ls hl => ?_)
          refine lv_iconst (v := 0) hx hb dX8_calls_93 (by decide) ?_
          refine lv_istore (lv' := [(4, .int 0), (3, .int 0), (0, .ref t_h), (1, .int v1), (2, .int v2)]) hx hb dX8_calls_94 hl (by decide) rfl (fun ls hl => ?_)
          refine lv_iconst (v := 0) hx hb dX8_calls_96 (by decide) ?_
          refine lv_istore (lv' := [(5, .int 0), (4, .int 0), (3, .int 0), (0, .ref t_h), (1, .int v1), (2, .int v2)]) hx hb dX8_calls_97 hl (by decide) rfl (fun ls hl => ?_)
          refine lv_iconst (v := 0) hx hb dX8_calls_99 (by decide) ?_
          refine lv_istore (lv' := [(6, .int 0), (5, .int 0), (4, .int 0), (3, .int 0), (0, .ref t_h), (1, .int v1), (2, .int v2)]) hx hb dX8_calls_100 hl (by decide) rfl (fun ls hl => ?_)
          refine L102 _ _ _ _ _ _ _ _ _ _ _ _ _ _ _ _ hP hD hS (lv_sub hl [4, 5, 6, 3, 2, 1, 0] rfl) hf (fun w_54 w_55 w_56 t_loss_57 t_hops_58 t_way_59 t_wayLong_60 t_isTaken_61 t_begins_62 H locs ls hP hD hS hl hf => ?_)
          refine lv_iload_n hx hb dX8_calls_290 rfl (lv_at hl 2 rfl) ?_
          refine lv_if_ne (tgt := 298) hx hb dX8_calls_291 (by decide) (fun c_63 => ?_) (fun c_63 => ?_)
          · have hf := iq c_63 hf
            refine lv_iload_n hx hb dX8_calls_298 rfl (lv_at hl 2 rfl) ?_
            refine lv_iconst (v := 1) hx hb dX8_calls_299 (by decide) ?_
            refine lv_icmp_ne (tgt := 308) hx hb dX8_calls_300 (by decide) (fun c_64 => ?_) (fun c_64 => ?_)
            · have hf := iq c_64 hf
              refine lv_iload_n hx hb dX8_calls_308 rfl (lv_at hl 2 rfl) ?_
              refine lv_iconst (v := 2) hx hb dX8_calls_309 (by decide) ?_
              refine lv_icmp_ne (tgt := 318) hx hb dX8_calls_310 (by decide) (fun c_65 => ?_) (fun c_65 => ?_)
              · have hf := iq c_65 hf
                refine lv_iload_n hx hb dX8_calls_318 rfl (lv_at hl 2 rfl) ?_
                refine lv_bipush (v := 10) hx hb dX8_calls_319 (by decide) ?_
                refine lv_isub hx hb dX8_calls_321 ?_
                refine lv_aload_n hx hb dX8_calls_322 rfl (lv_at hl 0 rfl) ?_
                refine va_get (D := G.1) (ci := 8) (v := .ref (t_a 31)) (C := RX8) (T := TX8) (N := 33) hx hb hw inW8 hown hK.1 hP 0 rfl rfl 31 (by decide) (hw _ kw_6_6) (fun _ h9 => h9) rfl dX8_calls_323 ?_
                refine lv_iload_n hx hb dX8_calls_326 rfl (lv_at hl 1 rfl) ?_
                obtain ⟨hi_67, hf⟩ := rdI_in hf
                refine va_iald hx hb hK.1 hP 8 0 rfl rfl hi_67 dX8_calls_327 ?_
                refine lv_topi (fun x_66 ex_66 => ?_)
                have hf := hf x_66 ex_66
                refine lv_icmp_ge (tgt := 343) hx hb dX8_calls_328 (by decide) (fun c_68 => ?_) (fun c_68 => ?_)
                · have hf := ip c_68 hf
                  refine lv_iconst (v := (-1)) hx hb dX8_calls_343 (by decide) ?_
                  exact hRet _ _ _ _ _ _ _ _ _ _ _ _ hf hP hS dX8_calls_344
                · have hf := iq c_68 hf
                  refine lv_aload_n hx hb dX8_calls_331 rfl (lv_at hl 0 rfl) ?_
                  refine va_get (D := G.1) (ci := 8) (v := .ref (t_a 28)) (C := RX8) (T := TX8) (N := 33) hx hb hw inW8 hown hK.1 hP 0 rfl rfl 28 (by decide) (hw _ kw_6_3) (fun _ h9 => h9) rfl dX8_calls_332 ?_
                  refine lv_iload_n hx hb dX8_calls_335 rfl (lv_at hl 2 rfl) ?_
                  refine lv_bipush (v := 10) hx hb dX8_calls_336 (by decide) ?_
                  refine lv_isub hx hb dX8_calls_338 ?_
                  obtain ⟨hi_70, hf⟩ := rdI_in hf
                  refine va_iald hx hb hK.1 hP 6 0 rfl rfl hi_70 dX8_calls_339 ?_
                  refine lv_topi (fun x_69 ex_69 => ?_)
                  have hf := hf x_69 ex_69
                  refine lv_goto (tgt := 344) hx hb dX8_calls_340 (by decide) ?_
                  exact hRet _ _ _ _ _ _ _ _ _ _ _ _ hf hP hS dX8_calls_344
              · have hf := ip c_65 hf
                refine lv_iload hx hb dX8_calls_313 (lv_at hl 5 rfl) ?_
                refine lv_goto (tgt := 344) hx hb dX8_calls_315 (by decide) ?_
                exact hRet _ _ _ _ _ _ _ _ _ _ _ _ hf hP hS dX8_calls_344
            · have hf := ip c_64 hf
              refine lv_iload hx hb dX8_calls_303 (lv_at hl 4 rfl) ?_
              refine lv_goto (tgt := 344) hx hb dX8_calls_305 (by decide) ?_
              exact hRet _ _ _ _ _ _ _ _ _ _ _ _ hf hP hS dX8_calls_344
          · have hf := ip c_63 hf
            refine lv_iload_n hx hb dX8_calls_294 rfl (lv_at hl 3 rfl) ?_
            refine lv_goto (tgt := 344) hx hb dX8_calls_295 (by decide) ?_
            exact hRet _ _ _ _ _ _ _ _ _ _ _ _ hf hP hS dX8_calls_344
        · have hf := ip c_12 hf
          refine lv_bipush (v := (-3)) hx hb dX8_calls_67 (by decide) ?_
          exact hRet _ _ _ _ _ _ _ _ _ _ _ _ hf hP hS dX8_calls_69
      · have hf := ip c_9 hf
        refine lv_bipush (v := (-6)) hx hb dX8_calls_56 (by decide) ?_
        exact hRet _ _ _ _ _ _ _ _ _ _ _ _ hf hP hS dX8_calls_58
    refine lv_if_ne (tgt := 46) hx hb dX8_calls_26 (by decide) (fun c_71 => ?_) (fun c_71 => ?_)
    · have hf := iq c_71 hf
      exact J46  _ _ _ hP hD hS (lv_sub hl [0, 1, 2] rfl) hf
    · have hf := ip c_71 hf
      refine lv_iload_n hx hb dX8_calls_29 rfl (lv_at hl 2 rfl) ?_
      refine lv_i2l hx hb dX8_calls_30 rfl ?_
      refine lv_ldc2 hx hb hown (hw _ kw_29_20) dX8_calls_31 ?_
      refine lv_ldc2 hx hb hown (hw _ kw_44_17) dX8_calls_34 ?_
      obtain ⟨r_72, hc_73, hf⟩ := bd1_in hf
      refine rcI (va_runS (As := [.long (Int32.toInt64 v2), .long 10, .long 49]) (rest := []) ⟨hx, hb, hml, hown, hw⟩ ((ctX8_within l G (Int32.toInt64 v2) 10 49 _ hc_73) _) (kS hw calX8_within kw_14_2 rfl rfl ⟨Nat.le_of_ble_eq_true rfl, Nat.le_of_ble_eq_true rfl⟩) (rpS (hP.sub (ws' := []) [] rfl) hK) rfl rfl hl.1 rfl (lv_room (Nat.le_of_ble_eq_true rfl)) dX8_calls_37 ⟨Nat.zero_le _, Nat.zero_le _⟩) hS hA hP (fun H locs hP hS => ?_)
      refine lv_if_ne (tgt := 46) hx hb dX8_calls_40 (by decide) (fun c_74 => ?_) (fun c_74 => ?_)
      · have hf := iq c_74 hf
        exact J46  _ _ _ hP hD hS (lv_sub hl [0, 1, 2] rfl) hf
      · have hf := ip c_74 hf
        refine lv_bipush (v := (-2)) hx hb dX8_calls_43 (by decide) ?_
        exact hRet _ _ _ _ _ _ _ _ _ _ _ _ hf hP hS dX8_calls_45
theorem calX8_laysEchoes : CalV yX8_laysEchoes cX8_laysEchoes 6 none 1 := ⟨⟨kw_45_16, kw_1_5, by decide +kernel⟩, kw_45_14, kw_45_15⟩
set_option maxHeartbeats 8000000 in
set_option maxRecDepth 100000 in
theorem ctX8_laysEchoes (l : Launch) (G : GT) (t_h : Nat) (t_a : Nat → Nat) (t_thrown : Int32) (t_all : Nat → Int32) (t_taped : Int32) (t_at : Int32) (t_behind : Int32) (t_size : Int32) (t_kind : Int32) (t_number : Int32) (t_wrong : Int32) (t_wrongAt : Int32) (t_faultKind : Int32) (t_faultPlace : Int32) (t_x : Int32) (t_wayLong : Int32) (t_bothLeast : Int32) (t_echoes : Nat → Int32) (v1 : Int32) (o_t_echoes : Nat → Int32) (hf : fX8_laysEchoes t_all t_echoes v1 = some o_t_echoes) : WrV l yX8_laysEchoes (Cond.code yX8_laysEchoes cX8_laysEchoes 6 none) { frames := 5, cells := 0, slots := 0, locals := 117 } G [.ref t_h, .int v1] [oX8 t_h t_a t_thrown t_taped t_at t_behind t_size t_kind t_number t_wrong t_wrongAt t_faultKind t_faultPlace t_x t_wayLong t_bothLeast, arI G (t_a 1) 558 t_all, arI G (t_a 29) 12 t_echoes] [oX8 t_h t_a t_thrown t_taped t_at t_behind t_size t_kind t_number t_wrong t_wrongAt t_faultKind t_faultPlace t_x t_wayLong t_bothLeast, arI G (t_a 1) 558 t_all, arI G (t_a 29) 12 o_t_echoes] := by
  intro sz
  refine Met.ofW (cc := cX8_laysEchoes) (maxL := 6) (ret := none) (by decide) rfl ?_
  intro p e s m args below meth c s₁ B hml hv
  obtain ⟨hargs, hsz, hP, hD0, hK⟩ := hv
  subst hsz
  obtain ⟨hx, hb, hr, hw, hown, hlk⟩ := fwB B
  refine fw_enter hargs (Nat.le_of_ble_eq_true rfl) (fun ls hl => ?_)
  have hl : lv_has ls 6 [(0, .ref t_h), (1, .int v1)] := hl
  refine fw_Q (P := fun Q => ∃ A : Nat → Prop, va_D A [oX8 t_h t_a t_thrown t_taped t_at t_behind t_size t_kind t_number t_wrong t_wrongAt t_faultKind t_faultPlace t_x t_wayLong t_bothLeast, arI G (t_a 1) 558 t_all, arI G (t_a 29) 12 t_echoes] ∧ va_S A s.heap s.heap [] ∧ (∀ q, s.heap.size ≤ q → A q) ∧ ∀ (n_t_echoes : Nat → Int32) (H : Heap) (locs : List Loc) (pc : Nat) (ls : Array Slot), some n_t_echoes = some o_t_echoes → va_P G.1 vwCl [oX8 t_h t_a t_thrown t_taped t_at t_behind t_size t_kind t_number t_wrong t_wrongAt t_faultKind t_faultPlace t_x t_wayLong t_bothLeast, arI G (t_a 1) 558 t_all, arI G (t_a 29) 12 n_t_echoes] H → va_S A s.heap H locs → decode cX8_laysEchoes pc = .ok (.return_, 1) → W p l e ({ frames := 5, cells := 0, slots := 0, locals := 117 } : Room) s m args below meth c H locs 0 0 Q (F0 m pc ls [])) ⟨va_A [oX8 t_h t_a t_thrown t_taped t_at t_behind t_size t_kind t_number t_wrong t_wrongAt t_faultKind t_faultPlace t_x t_wayLong t_bothLeast, arI G (t_a 1) 558 t_all, arI G (t_a 29) 12 t_echoes] s.heap.size, hD0.self (sz := s.heap.size), va_S.rf, fun q h => Or.inr h, ?_⟩ ?_
  · intro n_t_echoes H locs pc ls h hP hS hd
    cases h
    exact retWV hx hb hr hlk hS hP hd
  rintro Q ⟨A, hD, hS, hA, hRet⟩
  change W p l e ({ frames := 5, cells := 0, slots := 0, locals := 117 } : Room) s m args below meth c _ _ 0 0 Q _
  have L2 : ∀  (K : (Nat → Int32) → Option (Nat → Int32)) (n : Nat) (l2 : Int32) (t_echoes : Nat → Int32) (H : Heap) (locs : List Loc) (ls : Array Slot), va_P G.1 vwCl [oX8 t_h t_a t_thrown t_taped t_at t_behind t_size t_kind t_number t_wrong t_wrongAt t_faultKind t_faultPlace t_x t_wayLong t_bothLeast, arI G (t_a 1) 558 t_all, arI G (t_a 29) 12 t_echoes] H → va_D A [oX8 t_h t_a t_thrown t_taped t_at t_behind t_size t_kind t_number t_wrong t_wrongAt t_faultKind t_faultPlace t_x t_wayLong t_bothLeast, arI G (t_a 1) 558 t_all, arI G (t_a 29) 12 t_echoes] → va_S A s.heap H locs → lv_has ls 6 [(0, .ref t_h), (1, .int v1), (2, .int l2)] → fX8_laysEchoes_2 v1 K n l2 t_echoes = some o_t_echoes → (∀ (kt_echoes : Nat → Int32) (H : Heap) (locs : List Loc) (ls : Array Slot), va_P G.1 vwCl [oX8 t_h t_a t_thrown t_taped t_at t_behind t_size t_kind t_number t_wrong t_wrongAt t_faultKind t_faultPlace t_x t_wayLong t_bothLeast, arI G (t_a 1) 558 t_all, arI G (t_a 29) 12 kt_echoes] H → va_D A [oX8 t_h t_a t_thrown t_taped t_at t_behind t_size t_kind t_number t_wrong t_wrongAt t_faultKind t_faultPlace t_x t_wayLong t_bothLeast, arI G (t_a 1) 558 t_all, arI G (t_a 29) 12 kt_echoes] → va_S A s.heap H locs → lv_has ls 6 [(0, .ref t_h)] → K kt_echoes = some o_t_echoes → W p l e ({ frames := 5, cells := 0, slots := 0, locals := 117 } : Room) s m args below meth c H locs 0 0 Q (F0 m 30 ls [])) → W p l e ({ frames := 5, cells := 0, slots := 0, locals := 117 } : Room) s m args below meth c H locs 0 0 Q (F0 m 2 ls []) := by
    intro  K n
    induction n with
    | zero => intro l2 t_echoes H locs ls hP hD hS hl hf; rw [fX8_laysEchoes_2] at hf; cases hf
    | succ n ih =>
      intro l2 t_echoes H locs ls hP hD hS hl hf hX
      rw [fX8_laysEchoes_2] at hf
      refine lv_iload_n hx hb dX8_laysEchoes_2 rfl (lv_at hl 2 rfl) ?_
      refine lv_bipush (v := 12) hx hb dX8_laysEchoes_3 (by decide) ?_
      refine lv_icmp_ge (tgt := 30) hx hb dX8_laysEchoes_5 (by decide) (fun c_1 => ?_) (fun c_1 => ?_)
      · have hf := ip c_1 hf
        exact hX _ _ _ _ hP hD hS (lv_sub hl [0] rfl) hf
      · have hf := iq c_1 hf
        refine lv_aload_n hx hb dX8_laysEchoes_8 rfl (lv_at hl 0 rfl) ?_
        refine va_get (D := G.1) (ci := 8) (v := .ref (t_a 29)) (C := RX8) (T := TX8) (N := 33) hx hb hw inW8 hown hK.1 hP 0 rfl rfl 29 (by decide) (hw _ kw_6_4) (fun _ h9 => h9) rfl dX8_laysEchoes_9 ?_
        refine lv_iload_n hx hb dX8_laysEchoes_12 rfl (lv_at hl 2 rfl) ?_
        refine lv_iload_n hx hb dX8_laysEchoes_13 rfl (lv_at hl 2 rfl) ?_
        refine lv_iload_n hx hb dX8_laysEchoes_14 rfl (lv_at hl 1 rfl) ?_
        refine jn_el hf (fun k_3 ek_3 hf => ?_)
        have J23 : ∀ (z_2 : Int32) (H : Heap) (locs : List Loc) (ls : Array Slot), va_P G.1 vwCl [oX8 t_h t_a t_thrown t_taped t_at t_behind t_size t_kind t_number t_wrong t_wrongAt t_faultKind t_faultPlace t_x t_wayLong t_bothLeast, arI G (t_a 1) 558 t_all, arI G (t_a 29) 12 t_echoes] H → va_D A [oX8 t_h t_a t_thrown t_taped t_at t_behind t_size t_kind t_number t_wrong t_wrongAt t_faultKind t_faultPlace t_x t_wayLong t_bothLeast, arI G (t_a 1) 558 t_all, arI G (t_a 29) 12 t_echoes] → va_S A s.heap H locs → lv_has ls 6 [(0, .ref t_h), (1, .int v1), (2, .int l2)] → k_3 z_2 = some o_t_echoes → W p l e ({ frames := 5, cells := 0, slots := 0, locals := 117 } : Room) s m args below meth c H locs 0 0 Q (F0 m 23 ls [.int z_2, .int l2, .ref (t_a 29)]) := by
          intro z_2 H locs ls hP hD hS hl hf
          rw [ek_3] at hf
          obtain ⟨hi_5, hf⟩ := wrI_in hf
          refine xiast hx hb hK.1 hP hD hS 2 0 rfl rfl hi_5 dX8_laysEchoes_23 (fun t_echoes_4 H locs et_echoes_4 hP hD hS => ?_)
          have hf := hf t_echoes_4 et_echoes_4
          have hP : va_P G.1 vwCl [oX8 t_h t_a t_thrown t_taped t_at t_behind t_size t_kind t_number t_wrong t_wrongAt t_faultKind t_faultPlace t_x t_wayLong t_bothLeast, arI G (t_a 1) 558 t_all, arI G (t_a 29) 12 t_echoes_4] H := hP
          have hD : va_D A [oX8 t_h t_a t_thrown t_taped t_at t_behind t_size t_kind t_number t_wrong t_wrongAt t_faultKind t_faultPlace t_x t_wayLong t_bothLeast, arI G (t_a 1) 558 t_all, arI G (t_a 29) 12 t_echoes_4] := hD
          refine lv_iinc (v := (l2 + 1)) (lv' := [(2, .int (l2 + 1)), (0, .ref t_h), (1, .int v1)]) hx hb dX8_laysEchoes_24 hl (k := 2) rfl (by rfl) (by decide) rfl (fun ls hl => ?_)
          refine lv_goto (tgt := 2) hx hb dX8_laysEchoes_27 (by decide) ?_
          exact ih _ _ _ _ _ hP hD hS (lv_sub hl [1, 2, 0] rfl) hf hX
        refine lv_icmp_ne (tgt := 22) hx hb dX8_laysEchoes_15 (by decide) (fun c_6 => ?_) (fun c_6 => ?_)
        · have hf := iq c_6 hf
          refine lv_iconst (v := (-1)) hx hb dX8_laysEchoes_22 (by decide) ?_
          exact J23 _ _ _ _ hP hD hS (lv_sub hl [0, 1, 2] rfl) hf
        · have hf := ip c_6 hf
          refine lv_iconst (v := 0) hx hb dX8_laysEchoes_18 (by decide) ?_
          refine lv_goto (tgt := 23) hx hb dX8_laysEchoes_19 (by decide) ?_
          exact J23 _ _ _ _ hP hD hS (lv_sub hl [0, 1, 2] rfl) hf
  have L79 : ∀ (l2 : Int32) (l3 : Int32) (l4 : Int32) (K : (Nat → Int32) → Option (Nat → Int32)) (n : Nat) (l5 : Int32) (t_echoes : Nat → Int32) (H : Heap) (locs : List Loc) (ls : Array Slot), va_P G.1 vwCl [oX8 t_h t_a t_thrown t_taped t_at t_behind t_size t_kind t_number t_wrong t_wrongAt t_faultKind t_faultPlace t_x t_wayLong t_bothLeast, arI G (t_a 1) 558 t_all, arI G (t_a 29) 12 t_echoes] H → va_D A [oX8 t_h t_a t_thrown t_taped t_at t_behind t_size t_kind t_number t_wrong t_wrongAt t_faultKind t_faultPlace t_x t_wayLong t_bothLeast, arI G (t_a 1) 558 t_all, arI G (t_a 29) 12 t_echoes] → va_S A s.heap H locs → lv_has ls 6 [(0, .ref t_h), (2, .int l2), (3, .int l3), (4, .int l4), (5, .int l5)] → fX8_laysEchoes_79 l2 l4 t_all K n l5 t_echoes = some o_t_echoes → (∀ (kt_echoes : Nat → Int32) (H : Heap) (locs : List Loc) (ls : Array Slot), va_P G.1 vwCl [oX8 t_h t_a t_thrown t_taped t_at t_behind t_size t_kind t_number t_wrong t_wrongAt t_faultKind t_faultPlace t_x t_wayLong t_bothLeast, arI G (t_a 1) 558 t_all, arI G (t_a 29) 12 kt_echoes] H → va_D A [oX8 t_h t_a t_thrown t_taped t_at t_behind t_size t_kind t_number t_wrong t_wrongAt t_faultKind t_faultPlace t_x t_wayLong t_bothLeast, arI G (t_a 1) 558 t_all, arI G (t_a 29) 12 kt_echoes] → va_S A s.heap H locs → lv_has ls 6 [(0, .ref t_h), (2, .int l2), (3, .int l3)] → K kt_echoes = some o_t_echoes → W p l e ({ frames := 5, cells := 0, slots := 0, locals := 117 } : Room) s m args below meth c H locs 0 0 Q (F0 m 126 ls [])) → W p l e ({ frames := 5, cells := 0, slots := 0, locals := 117 } : Room) s m args below meth c H locs 0 0 Q (F0 m 79 ls []) := by
    intro l2 l3 l4 K n
    induction n with
    | zero => intro l5 t_echoes H locs ls hP hD hS hl hf; rw [fX8_laysEchoes_79] at hf; cases hf
    | succ n ih =>
      intro l5 t_echoes H locs ls hP hD hS hl hf hX
      rw [fX8_laysEchoes_79] at hf
      refine lv_iload hx hb dX8_laysEchoes_79 (lv_at hl 4 rfl) ?_
      refine lv_aload_n hx hb dX8_laysEchoes_81 rfl (lv_at hl 0 rfl) ?_
      refine va_get (D := G.1) (ci := 8) (v := .ref (t_a 1)) (C := RX8) (T := TX8) (N := 33) hx hb hw inW8 hown hK.1 hP 0 rfl rfl 1 (by decide) (hw _ kw_5_11) (fun _ h9 => h9) rfl dX8_laysEchoes_82 ?_
      refine lv_iconst (v := 0) hx hb dX8_laysEchoes_85 (by decide) ?_
      obtain ⟨hi_20, hf⟩ := rdI_in hf
      refine va_iald hx hb hK.1 hP 1 0 rfl rfl hi_20 dX8_laysEchoes_86 ?_
      refine lv_topi (fun x_19 ex_19 => ?_)
      have hf := hf x_19 ex_19
      refine lv_icmp_ge (tgt := 126) hx hb dX8_laysEchoes_87 (by decide) (fun c_21 => ?_) (fun c_21 => ?_)
      · have hf := ip c_21 hf
        exact hX _ _ _ _ hP hD hS (lv_sub hl [0, 1, 2] rfl) hf
      · have hf := iq c_21 hf
        refine lv_iload hx hb dX8_laysEchoes_90 (lv_at hl 3 rfl) ?_
        refine lv_iload hx hb dX8_laysEchoes_92 (lv_at hl 4 rfl) ?_
        refine lv_ishr hx hb dX8_laysEchoes_94 ?_
        refine lv_iconst (v := 1) hx hb dX8_laysEchoes_95 (by decide) ?_
        refine lv_iand hx hb dX8_laysEchoes_96 ?_
        refine lv_iconst (v := 1) hx hb dX8_laysEchoes_97 (by decide) ?_
        refine lv_icmp_ne (tgt := 120) hx hb dX8_laysEchoes_98 (by decide) (fun c_22 => ?_) (fun c_22 => ?_)
        · have hf := iq c_22 hf
          refine lv_iinc (v := (l5 + 1)) (lv' := [(5, .int (l5 + 1)), (0, .ref t_h), (2, .int l2), (3, .int l3), (4, .int l4)]) hx hb dX8_laysEchoes_120 hl (k := 4) rfl (by rfl) (by decide) rfl (fun ls hl => ?_)
          refine lv_goto (tgt := 79) hx hb dX8_laysEchoes_123 (by decide) ?_
          exact ih _ _ _ _ _ hP hD hS (lv_sub hl [1, 2, 3, 4, 0] rfl) hf hX
        · have hf := ip c_22 hf
          refine lv_aload_n hx hb dX8_laysEchoes_101 rfl (lv_at hl 0 rfl) ?_
          refine va_get (D := G.1) (ci := 8) (v := .ref (t_a 29)) (C := RX8) (T := TX8) (N := 33) hx hb hw inW8 hown hK.1 hP 0 rfl rfl 29 (by decide) (hw _ kw_6_4) (fun _ h9 => h9) rfl dX8_laysEchoes_102 ?_
          refine lv_iload hx hb dX8_laysEchoes_105 (lv_at hl 4 rfl) ?_
          obtain ⟨hi_24, hf⟩ := rdI_in hf
          refine va_iald hx hb hK.1 hP 2 0 rfl rfl hi_24 dX8_laysEchoes_107 ?_
          refine lv_topi (fun x_23 ex_23 => ?_)
          have hf := hf x_23 ex_23
          refine lv_iconst (v := (-1)) hx hb dX8_laysEchoes_108 (by decide) ?_
          refine lv_icmp_ne (tgt := 120) hx hb dX8_laysEchoes_109 (by decide) (fun c_25 => ?_) (fun c_25 => ?_)
          · have hf := iq c_25 hf
            refine lv_iinc (v := (l5 + 1)) (lv' := [(5, .int (l5 + 1)), (0, .ref t_h), (2, .int l2), (3, .int l3), (4, .int l4)]) hx hb dX8_laysEchoes_120 hl (k := 4) rfl (by rfl) (by decide) rfl (fun ls hl => ?_)
            refine lv_goto (tgt := 79) hx hb dX8_laysEchoes_123 (by decide) ?_
            exact ih _ _ _ _ _ hP hD hS (lv_sub hl [1, 2, 3, 4, 0] rfl) hf hX
          · have hf := ip c_25 hf
            refine lv_aload_n hx hb dX8_laysEchoes_112 rfl (lv_at hl 0 rfl) ?_
            refine va_get (D := G.1) (ci := 8) (v := .ref (t_a 29)) (C := RX8) (T := TX8) (N := 33) hx hb hw inW8 hown hK.1 hP 0 rfl rfl 29 (by decide) (hw _ kw_6_4) (fun _ h9 => h9) rfl dX8_laysEchoes_113 ?_
            refine lv_iload hx hb dX8_laysEchoes_116 (lv_at hl 4 rfl) ?_
            refine lv_iload_n hx hb dX8_laysEchoes_118 rfl (lv_at hl 1 rfl) ?_
            obtain ⟨hi_27, hf⟩ := wrI_in hf
            refine xiast hx hb hK.1 hP hD hS 2 0 rfl rfl hi_27 dX8_laysEchoes_119 (fun t_echoes_26 H locs et_echoes_26 hP hD hS => ?_)
            have hf := hf t_echoes_26 et_echoes_26
            have hP : va_P G.1 vwCl [oX8 t_h t_a t_thrown t_taped t_at t_behind t_size t_kind t_number t_wrong t_wrongAt t_faultKind t_faultPlace t_x t_wayLong t_bothLeast, arI G (t_a 1) 558 t_all, arI G (t_a 29) 12 t_echoes_26] H := hP
            have hD : va_D A [oX8 t_h t_a t_thrown t_taped t_at t_behind t_size t_kind t_number t_wrong t_wrongAt t_faultKind t_faultPlace t_x t_wayLong t_bothLeast, arI G (t_a 1) 558 t_all, arI G (t_a 29) 12 t_echoes_26] := hD
            refine lv_iinc (v := (l5 + 1)) (lv' := [(5, .int (l5 + 1)), (0, .ref t_h), (2, .int l2), (3, .int l3), (4, .int l4)]) hx hb dX8_laysEchoes_120 hl (k := 4) rfl (by rfl) (by decide) rfl (fun ls hl => ?_)
            refine lv_goto (tgt := 79) hx hb dX8_laysEchoes_123 (by decide) ?_
            exact ih _ _ _ _ _ hP hD hS (lv_sub hl [1, 2, 3, 4, 0] rfl) hf hX
  have L44 : ∀ (l2 : Int32) (K : (Nat → Int32) → Option (Nat → Int32)) (n : Nat) (l3 : Int32) (t_echoes : Nat → Int32) (H : Heap) (locs : List Loc) (ls : Array Slot), va_P G.1 vwCl [oX8 t_h t_a t_thrown t_taped t_at t_behind t_size t_kind t_number t_wrong t_wrongAt t_faultKind t_faultPlace t_x t_wayLong t_bothLeast, arI G (t_a 1) 558 t_all, arI G (t_a 29) 12 t_echoes] H → va_D A [oX8 t_h t_a t_thrown t_taped t_at t_behind t_size t_kind t_number t_wrong t_wrongAt t_faultKind t_faultPlace t_x t_wayLong t_bothLeast, arI G (t_a 1) 558 t_all, arI G (t_a 29) 12 t_echoes] → va_S A s.heap H locs → lv_has ls 6 [(0, .ref t_h), (2, .int l2), (3, .int l3)] → fX8_laysEchoes_44 l2 t_all K n l3 t_echoes = some o_t_echoes → (∀ (kt_echoes : Nat → Int32) (H : Heap) (locs : List Loc) (ls : Array Slot), va_P G.1 vwCl [oX8 t_h t_a t_thrown t_taped t_at t_behind t_size t_kind t_number t_wrong t_wrongAt t_faultKind t_faultPlace t_x t_wayLong t_bothLeast, arI G (t_a 1) 558 t_all, arI G (t_a 29) 12 kt_echoes] H → va_D A [oX8 t_h t_a t_thrown t_taped t_at t_behind t_size t_kind t_number t_wrong t_wrongAt t_faultKind t_faultPlace t_x t_wayLong t_bothLeast, arI G (t_a 1) 558 t_all, arI G (t_a 29) 12 kt_echoes] → va_S A s.heap H locs → lv_has ls 6 [(0, .ref t_h), (2, .int l2)] → K kt_echoes = some o_t_echoes → W p l e ({ frames := 5, cells := 0, slots := 0, locals := 117 } : Room) s m args below meth c H locs 0 0 Q (F0 m 132 ls [])) → W p l e ({ frames := 5, cells := 0, slots := 0, locals := 117 } : Room) s m args below meth c H locs 0 0 Q (F0 m 44 ls []) := by
    intro l2 K n
    induction n with
    | zero => intro l3 t_echoes H locs ls hP hD hS hl hf; rw [fX8_laysEchoes_44] at hf; cases hf
    | succ n ih =>
      intro l3 t_echoes H locs ls hP hD hS hl hf hX
      rw [fX8_laysEchoes_44] at hf
      refine lv_iload_n hx hb dX8_laysEchoes_44 rfl (lv_at hl 2 rfl) ?_
      refine lv_aload_n hx hb dX8_laysEchoes_45 rfl (lv_at hl 0 rfl) ?_
      refine va_get (D := G.1) (ci := 8) (v := .ref (t_a 1)) (C := RX8) (T := TX8) (N := 33) hx hb hw inW8 hown hK.1 hP 0 rfl rfl 1 (by decide) (hw _ kw_5_11) (fun _ h9 => h9) rfl dX8_laysEchoes_46 ?_
      refine lv_iconst (v := 0) hx hb dX8_laysEchoes_49 (by decide) ?_
      obtain ⟨hi_12, hf⟩ := rdI_in hf
      refine va_iald hx hb hK.1 hP 1 0 rfl rfl hi_12 dX8_laysEchoes_50 ?_
      refine lv_topi (fun x_11 ex_11 => ?_)
      have hf := hf x_11 ex_11
      refine lv_icmp_ge (tgt := 132) hx hb dX8_laysEchoes_51 (by decide) (fun c_13 => ?_) (fun c_13 => ?_)
      · have hf := ip c_13 hf
        exact hX _ _ _ _ hP hD hS (lv_sub hl [0, 1] rfl) hf
      · have hf := iq c_13 hf
        refine lv_aload_n hx hb dX8_laysEchoes_54 rfl (lv_at hl 0 rfl) ?_
        refine va_get (D := G.1) (ci := 8) (v := .ref (t_a 29)) (C := RX8) (T := TX8) (N := 33) hx hb hw inW8 hown hK.1 hP 0 rfl rfl 29 (by decide) (hw _ kw_6_4) (fun _ h9 => h9) rfl dX8_laysEchoes_55 ?_
        refine lv_iload_n hx hb dX8_laysEchoes_58 rfl (lv_at hl 2 rfl) ?_
        obtain ⟨hi_15, hf⟩ := rdI_in hf
        refine va_iald hx hb hK.1 hP 2 0 rfl rfl hi_15 dX8_laysEchoes_59 ?_
        refine lv_topi (fun x_14 ex_14 => ?_)
        have hf := hf x_14 ex_14
        refine lv_iload_n hx hb dX8_laysEchoes_60 rfl (lv_at hl 1 rfl) ?_
        refine lv_iconst (v := 1) hx hb dX8_laysEchoes_61 (by decide) ?_
        refine lv_isub hx hb dX8_laysEchoes_62 ?_
        refine lv_icmp_eq (tgt := 69) hx hb dX8_laysEchoes_63 (by decide) (fun c_16 => ?_) (fun c_16 => ?_)
        · have hf := ip c_16 hf
          refine lv_aload_n hx hb dX8_laysEchoes_69 rfl (lv_at hl 0 rfl) ?_
          refine lv_iload_n hx hb dX8_laysEchoes_70 rfl (lv_at hl 2 rfl) ?_
          obtain ⟨r_17, hc_18, hf⟩ := bd1_in hf
          refine rcI (va_runV (As := [.int l3]) (rest := []) ⟨hx, hb, hml, hown, hw⟩ ((ctX8_leadsTo l G t_h t_a t_thrown t_all t_taped t_at t_behind t_size t_kind t_number t_wrong t_wrongAt t_faultKind t_faultPlace t_x t_wayLong t_bothLeast l3 _ hc_18) _) (kV hw calX8_leadsTo kw_20_8 rfl rfl ⟨Nat.le_of_ble_eq_true rfl, Nat.le_of_ble_eq_true rfl⟩) (rpV (hP.sub (ws' := [oX8 t_h t_a t_thrown t_taped t_at t_behind t_size t_kind t_number t_wrong t_wrongAt t_faultKind t_faultPlace t_x t_wayLong t_bothLeast, arI G (t_a 1) 558 t_all]) [0, 1] rfl) hK (ci := 8) (q0 := 0) rfl rfl) rfl rfl hl.1 rfl (lv_room (Nat.le_of_ble_eq_true rfl)) dX8_laysEchoes_71 ⟨Nat.zero_le _, Nat.zero_le _⟩) hS hA hP (fun H locs hP hS => ?_)
          refine lv_istore (lv' := [(4, .int r_17), (0, .ref t_h), (2, .int l2), (3, .int l3)]) hx hb dX8_laysEchoes_74 hl (by decide) rfl (fun ls hl => ?_)
          refine lv_iconst (v := 0) hx hb dX8_laysEchoes_76 (by decide) ?_
          refine lv_istore (lv' := [(5, .int 0), (4, .int r_17), (0, .ref t_h), (2, .int l2), (3, .int l3)]) hx hb dX8_laysEchoes_77 hl (by decide) rfl (fun ls hl => ?_)
          refine L79 _ _ _ _ _ _ _ _ _ _ hP hD hS (lv_sub hl [2, 3, 4, 1, 0] rfl) hf (fun t_echoes_28 H locs ls hP hD hS hl hf => ?_)
          refine lv_iinc (v := (l3 + 1)) (lv' := [(3, .int (l3 + 1)), (0, .ref t_h), (2, .int l2)]) hx hb dX8_laysEchoes_126 hl (k := 2) rfl (by rfl) (by decide) rfl (fun ls hl => ?_)
          refine lv_goto (tgt := 44) hx hb dX8_laysEchoes_129 (by decide) ?_
          exact ih _ _ _ _ _ hP hD hS (lv_sub hl [1, 2, 0] rfl) hf hX
        · have hf := iq c_16 hf
          refine lv_goto (tgt := 126) hx hb dX8_laysEchoes_66 (by decide) ?_
          refine lv_iinc (v := (l3 + 1)) (lv' := [(3, .int (l3 + 1)), (0, .ref t_h), (2, .int l2)]) hx hb dX8_laysEchoes_126 hl (k := 2) rfl (by rfl) (by decide) rfl (fun ls hl => ?_)
          refine lv_goto (tgt := 44) hx hb dX8_laysEchoes_129 (by decide) ?_
          exact ih _ _ _ _ _ hP hD hS (lv_sub hl [1, 2, 0] rfl) hf hX
  have L32 : ∀  (K : (Nat → Int32) → Option (Nat → Int32)) (n : Nat) (l2 : Int32) (t_echoes : Nat → Int32) (H : Heap) (locs : List Loc) (ls : Array Slot), va_P G.1 vwCl [oX8 t_h t_a t_thrown t_taped t_at t_behind t_size t_kind t_number t_wrong t_wrongAt t_faultKind t_faultPlace t_x t_wayLong t_bothLeast, arI G (t_a 1) 558 t_all, arI G (t_a 29) 12 t_echoes] H → va_D A [oX8 t_h t_a t_thrown t_taped t_at t_behind t_size t_kind t_number t_wrong t_wrongAt t_faultKind t_faultPlace t_x t_wayLong t_bothLeast, arI G (t_a 1) 558 t_all, arI G (t_a 29) 12 t_echoes] → va_S A s.heap H locs → lv_has ls 6 [(0, .ref t_h), (2, .int l2)] → fX8_laysEchoes_32 t_all K n l2 t_echoes = some o_t_echoes → (∀ (kt_echoes : Nat → Int32) (H : Heap) (locs : List Loc) (ls : Array Slot), va_P G.1 vwCl [oX8 t_h t_a t_thrown t_taped t_at t_behind t_size t_kind t_number t_wrong t_wrongAt t_faultKind t_faultPlace t_x t_wayLong t_bothLeast, arI G (t_a 1) 558 t_all, arI G (t_a 29) 12 kt_echoes] H → va_D A [oX8 t_h t_a t_thrown t_taped t_at t_behind t_size t_kind t_number t_wrong t_wrongAt t_faultKind t_faultPlace t_x t_wayLong t_bothLeast, arI G (t_a 1) 558 t_all, arI G (t_a 29) 12 kt_echoes] → va_S A s.heap H locs → lv_has ls 6 [] → K kt_echoes = some o_t_echoes → W p l e ({ frames := 5, cells := 0, slots := 0, locals := 117 } : Room) s m args below meth c H locs 0 0 Q (F0 m 138 ls [])) → W p l e ({ frames := 5, cells := 0, slots := 0, locals := 117 } : Room) s m args below meth c H locs 0 0 Q (F0 m 32 ls []) := by
    intro  K n
    induction n with
    | zero => intro l2 t_echoes H locs ls hP hD hS hl hf; rw [fX8_laysEchoes_32] at hf; cases hf
    | succ n ih =>
      intro l2 t_echoes H locs ls hP hD hS hl hf hX
      rw [fX8_laysEchoes_32] at hf
      refine lv_iload_n hx hb dX8_laysEchoes_32 rfl (lv_at hl 1 rfl) ?_
      refine lv_aload_n hx hb dX8_laysEchoes_33 rfl (lv_at hl 0 rfl) ?_
      refine va_get (D := G.1) (ci := 8) (v := .ref (t_a 1)) (C := RX8) (T := TX8) (N := 33) hx hb hw inW8 hown hK.1 hP 0 rfl rfl 1 (by decide) (hw _ kw_5_11) (fun _ h9 => h9) rfl dX8_laysEchoes_34 ?_
      refine lv_iconst (v := 0) hx hb dX8_laysEchoes_37 (by decide) ?_
      obtain ⟨hi_9, hf⟩ := rdI_in hf
      refine va_iald hx hb hK.1 hP 1 0 rfl rfl hi_9 dX8_laysEchoes_38 ?_
      refine lv_topi (fun x_8 ex_8 => ?_)
      have hf := hf x_8 ex_8
      refine lv_icmp_ge (tgt := 138) hx hb dX8_laysEchoes_39 (by decide) (fun c_10 => ?_) (fun c_10 => ?_)
      · have hf := ip c_10 hf
        exact hX _ _ _ _ hP hD hS (lv_sub hl [] rfl) hf
      · have hf := iq c_10 hf
        refine lv_iconst (v := 0) hx hb dX8_laysEchoes_42 (by decide) ?_
        refine lv_istore_n (lv' := [(3, .int 0), (0, .ref t_h), (2, .int l2)]) hx hb dX8_laysEchoes_43 rfl hl (by decide) rfl (fun ls hl => ?_)
        refine L44 _ _ _ _ _ _ _ _ hP hD hS (lv_sub hl [1, 2, 0] rfl) hf (fun t_echoes_29 H locs ls hP hD hS hl hf => ?_)
        refine lv_iinc (v := (l2 + 1)) (lv' := [(2, .int (l2 + 1)), (0, .ref t_h)]) hx hb dX8_laysEchoes_132 hl (k := 1) rfl (by rfl) (by decide) rfl (fun ls hl => ?_)
        refine lv_goto (tgt := 32) hx hb dX8_laysEchoes_135 (by decide) ?_
        exact ih _ _ _ _ _ hP hD hS (lv_sub hl [1, 0] rfl) hf hX
  unfold fX8_laysEchoes at hf
  refine lv_iconst (v := 0) hx hb dX8_laysEchoes_0 (by decide) ?_
  refine lv_istore_n (lv' := [(2, .int 0), (0, .ref t_h), (1, .int v1)]) hx hb dX8_laysEchoes_1 rfl hl (by decide) rfl (fun ls hl => ?_)
  refine L2  _ _ _ _ _ _ _ hP hD hS (lv_sub hl [1, 2, 0] rfl) hf (fun t_echoes_7 H locs ls hP hD hS hl hf => ?_)
  refine lv_iconst (v := 1) hx hb dX8_laysEchoes_30 (by decide) ?_
  refine lv_istore_n (lv' := [(2, .int 1), (0, .ref t_h)]) hx hb dX8_laysEchoes_31 rfl hl (by decide) rfl (fun ls hl => ?_)
  refine L32  _ _ _ _ _ _ _ hP hD hS (lv_sub hl [1, 0] rfl) hf (fun t_echoes_30 H locs ls hP hD hS hl hf => ?_)
  exact hRet _ _ _ _ _ hf hP hS dX8_laysEchoes_138
theorem calX8_echo : CalV yX8_echo cX8_echo 3 (some .int) 2 := ⟨⟨kw_45_12, kw_1_5, by decide +kernel⟩, kw_45_10, kw_45_11⟩
set_option maxHeartbeats 8000000 in
set_option maxRecDepth 100000 in
theorem ctX8_echo (l : Launch) (G : GT) (t_h : Nat) (t_a : Nat → Nat) (t_thrown : Int32) (t_all : Nat → Int32) (t_taped : Int32) (t_at : Int32) (t_behind : Int32) (t_size : Int32) (t_kind : Int32) (t_number : Int32) (t_wrong : Int32) (t_wrongAt : Int32) (t_faultKind : Int32) (t_faultPlace : Int32) (t_x : Int32) (t_wayLong : Int32) (t_bothLeast : Int32) (t_echoes : Nat → Int32) (v1 : Int32) (v2 : Int32) (r : Int32) (o_t_thrown : Int32) (o_t_echoes : Nat → Int32) (hf : fX8_echo t_thrown t_all t_echoes v1 v2 = some (r, o_t_thrown, o_t_echoes)) : WrI l yX8_echo (Cond.code yX8_echo cX8_echo 3 (some .int)) { frames := 6, cells := 0, slots := 0, locals := 142 } G [.ref t_h, .int v1, .int v2] [oX8 t_h t_a t_thrown t_taped t_at t_behind t_size t_kind t_number t_wrong t_wrongAt t_faultKind t_faultPlace t_x t_wayLong t_bothLeast, arI G (t_a 1) 558 t_all, arI G (t_a 29) 12 t_echoes] [oX8 t_h t_a o_t_thrown t_taped t_at t_behind t_size t_kind t_number t_wrong t_wrongAt t_faultKind t_faultPlace t_x t_wayLong t_bothLeast, arI G (t_a 1) 558 t_all, arI G (t_a 29) 12 o_t_echoes] r := by
  intro sz
  refine Met.ofW (cc := cX8_echo) (maxL := 3) (ret := (some .int)) (by decide) rfl ?_
  intro p e s m args below meth c s₁ B hml hv
  obtain ⟨hargs, hsz, hP, hD0, hK⟩ := hv
  subst hsz
  obtain ⟨hx, hb, hr, hw, hown, hlk⟩ := fwB B
  refine fw_enter hargs (Nat.le_of_ble_eq_true rfl) (fun ls hl => ?_)
  have hl : lv_has ls 3 [(0, .ref t_h), (1, .int v1), (2, .int v2)] := hl
  refine fw_Q (P := fun Q => ∃ A : Nat → Prop, va_D A [oX8 t_h t_a t_thrown t_taped t_at t_behind t_size t_kind t_number t_wrong t_wrongAt t_faultKind t_faultPlace t_x t_wayLong t_bothLeast, arI G (t_a 1) 558 t_all, arI G (t_a 29) 12 t_echoes] ∧ va_S A s.heap s.heap [] ∧ (∀ q, s.heap.size ≤ q → A q) ∧ ∀ (v : Int32) (n_t_thrown : Int32) (n_t_echoes : Nat → Int32) (H : Heap) (locs : List Loc) (pc : Nat) (ls : Array Slot), some (v, n_t_thrown, n_t_echoes) = some (r, o_t_thrown, o_t_echoes) → va_P G.1 vwCl [oX8 t_h t_a n_t_thrown t_taped t_at t_behind t_size t_kind t_number t_wrong t_wrongAt t_faultKind t_faultPlace t_x t_wayLong t_bothLeast, arI G (t_a 1) 558 t_all, arI G (t_a 29) 12 n_t_echoes] H → va_S A s.heap H locs → decode cX8_echo pc = .ok (.ireturn, 1) → W p l e ({ frames := 6, cells := 0, slots := 0, locals := 142 } : Room) s m args below meth c H locs 0 0 Q (F0 m pc ls [.int v])) ⟨va_A [oX8 t_h t_a t_thrown t_taped t_at t_behind t_size t_kind t_number t_wrong t_wrongAt t_faultKind t_faultPlace t_x t_wayLong t_bothLeast, arI G (t_a 1) 558 t_all, arI G (t_a 29) 12 t_echoes] s.heap.size, hD0.self (sz := s.heap.size), va_S.rf, fun q h => Or.inr h, ?_⟩ ?_
  · intro v n_t_thrown n_t_echoes H locs pc ls h hP hS hd
    cases h
    exact retWI hx hb hr hlk hS hP rfl hd
  rintro Q ⟨A, hD, hS, hA, hRet⟩
  change W p l e ({ frames := 6, cells := 0, slots := 0, locals := 142 } : Room) s m args below meth c _ _ 0 0 Q _
  unfold fX8_echo at hf
  refine lv_aload_n hx hb dX8_echo_0 rfl (lv_at hl 0 rfl) ?_
  refine lv_iconst (v := 0) hx hb dX8_echo_1 (by decide) ?_
  refine va_put (D := G.1) (ci := 8) (v := .int 0) (ty := .int) (C := RX8) (T := TX8) (N := 33) hx hb hw inW8 tyX8 tyX8_ok nmX8 hown hK.1 hP hD hS 0 rfl rfl 0 (by decide) (hw _ kw_6_21) (fun _ h9 => h9) rfl (by decide +kernel) rfl rfl (Nat.le_of_ble_eq_true rfl) dX8_echo_2 (fun H locs hP hD hS => ?_)
  have hP : va_P G.1 vwCl [oX8 t_h t_a 0 t_taped t_at t_behind t_size t_kind t_number t_wrong t_wrongAt t_faultKind t_faultPlace t_x t_wayLong t_bothLeast, arI G (t_a 1) 558 t_all, arI G (t_a 29) 12 t_echoes] H := hP
  have hD : va_D A [oX8 t_h t_a 0 t_taped t_at t_behind t_size t_kind t_number t_wrong t_wrongAt t_faultKind t_faultPlace t_x t_wayLong t_bothLeast, arI G (t_a 1) 558 t_all, arI G (t_a 29) 12 t_echoes] := hD
  refine lv_aload_n hx hb dX8_echo_5 rfl (lv_at hl 0 rfl) ?_
  refine lv_iload_n hx hb dX8_echo_6 rfl (lv_at hl 1 rfl) ?_
  refine lv_i2l hx hb dX8_echo_7 rfl ?_
  obtain ⟨r_1, hc_2, hf⟩ := bd1_in hf
  refine rcI (va_runV (As := [.long (Int32.toInt64 v1)]) (rest := []) ⟨hx, hb, hml, hown, hw⟩ ((ctX8_isWindow l G t_h t_a 0 t_all t_taped t_at t_behind t_size t_kind t_number t_wrong t_wrongAt t_faultKind t_faultPlace t_x t_wayLong t_bothLeast (Int32.toInt64 v1) _ hc_2) _) (kV hw calX8_isWindow kw_20_4 rfl rfl ⟨Nat.le_of_ble_eq_true rfl, Nat.le_of_ble_eq_true rfl⟩) (rpV (hP.sub (ws' := [oX8 t_h t_a 0 t_taped t_at t_behind t_size t_kind t_number t_wrong t_wrongAt t_faultKind t_faultPlace t_x t_wayLong t_bothLeast, arI G (t_a 1) 558 t_all]) [0, 1] rfl) hK (ci := 8) (q0 := 0) rfl rfl) rfl rfl hl.1 rfl (lv_room (Nat.le_of_ble_eq_true rfl)) dX8_echo_8 ⟨Nat.zero_le _, Nat.zero_le _⟩) hS hA hP (fun H locs hP hS => ?_)
  refine lv_if_eq (tgt := 23) hx hb dX8_echo_11 (by decide) (fun c_3 => ?_) (fun c_3 => ?_)
  · have hf := ip c_3 hf
    refine lv_bipush (v := (-2)) hx hb dX8_echo_23 (by decide) ?_
    exact hRet _ _ _ _ _ _ _ hf hP hS dX8_echo_25
  · have hf := iq c_3 hf
    refine lv_aload_n hx hb dX8_echo_14 rfl (lv_at hl 0 rfl) ?_
    refine lv_iload_n hx hb dX8_echo_15 rfl (lv_at hl 2 rfl) ?_
    refine lv_i2l hx hb dX8_echo_16 rfl ?_
    obtain ⟨r_4, hc_5, hf⟩ := bd1_in hf
    refine rcI (va_runV (As := [.long (Int32.toInt64 v2)]) (rest := []) ⟨hx, hb, hml, hown, hw⟩ ((ctX8_isWindow l G t_h t_a 0 t_all t_taped t_at t_behind t_size t_kind t_number t_wrong t_wrongAt t_faultKind t_faultPlace t_x t_wayLong t_bothLeast (Int32.toInt64 v2) _ hc_5) _) (kV hw calX8_isWindow kw_20_4 rfl rfl ⟨Nat.le_of_ble_eq_true rfl, Nat.le_of_ble_eq_true rfl⟩) (rpV (hP.sub (ws' := [oX8 t_h t_a 0 t_taped t_at t_behind t_size t_kind t_number t_wrong t_wrongAt t_faultKind t_faultPlace t_x t_wayLong t_bothLeast, arI G (t_a 1) 558 t_all]) [0, 1] rfl) hK (ci := 8) (q0 := 0) rfl rfl) rfl rfl hl.1 rfl (lv_room (Nat.le_of_ble_eq_true rfl)) dX8_echo_17 ⟨Nat.zero_le _, Nat.zero_le _⟩) hS hA hP (fun H locs hP hS => ?_)
    refine lv_if_ne (tgt := 26) hx hb dX8_echo_20 (by decide) (fun c_6 => ?_) (fun c_6 => ?_)
    · have hf := iq c_6 hf
      refine lv_aload_n hx hb dX8_echo_26 rfl (lv_at hl 0 rfl) ?_
      refine lv_iload_n hx hb dX8_echo_27 rfl (lv_at hl 1 rfl) ?_
      obtain ⟨t_echoes_7, hc_8, hf⟩ := bd1_in hf
      refine wcV (w1 := [oX8 t_h t_a 0 t_taped t_at t_behind t_size t_kind t_number t_wrong t_wrongAt t_faultKind t_faultPlace t_x t_wayLong t_bothLeast, arI G (t_a 1) 558 t_all, arI G (t_a 29) 12 t_echoes_7]) (va_runV (As := [.int v1]) (rest := []) ⟨hx, hb, hml, hown, hw⟩ ((ctX8_laysEchoes l G t_h t_a 0 t_all t_taped t_at t_behind t_size t_kind t_number t_wrong t_wrongAt t_faultKind t_faultPlace t_x t_wayLong t_bothLeast t_echoes v1 _ hc_8) _) (kV hw calX8_laysEchoes kw_45_13 rfl rfl ⟨Nat.le_of_ble_eq_true rfl, Nat.le_of_ble_eq_true rfl⟩) (wpV (hP.sub (ws' := [oX8 t_h t_a 0 t_taped t_at t_behind t_size t_kind t_number t_wrong t_wrongAt t_faultKind t_faultPlace t_x t_wayLong t_bothLeast, arI G (t_a 1) 558 t_all, arI G (t_a 29) 12 t_echoes]) [0, 1, 2] rfl) (hD.sub (ws' := [oX8 t_h t_a 0 t_taped t_at t_behind t_size t_kind t_number t_wrong t_wrongAt t_faultKind t_faultPlace t_x t_wayLong t_bothLeast, arI G (t_a 1) 558 t_all, arI G (t_a 29) 12 t_echoes]) [0, 1, 2] (by decide) rfl) hK (ci := 8) (q0 := 0) rfl rfl) rfl rfl hl.1 rfl (lv_room (Nat.le_of_ble_eq_true rfl)) dX8_echo_28 ⟨Nat.zero_le _, Nat.zero_le _⟩) hS hA hP hD [0, 1, 2] rfl rfl (fun H locs hP hD hS => ?_)
      have hP : va_P G.1 vwCl [oX8 t_h t_a 0 t_taped t_at t_behind t_size t_kind t_number t_wrong t_wrongAt t_faultKind t_faultPlace t_x t_wayLong t_bothLeast, arI G (t_a 1) 558 t_all, arI G (t_a 29) 12 t_echoes_7] H := hP
      have hD : va_D A [oX8 t_h t_a 0 t_taped t_at t_behind t_size t_kind t_number t_wrong t_wrongAt t_faultKind t_faultPlace t_x t_wayLong t_bothLeast, arI G (t_a 1) 558 t_all, arI G (t_a 29) 12 t_echoes_7] := hD
      refine lv_aload_n hx hb dX8_echo_31 rfl (lv_at hl 0 rfl) ?_
      refine va_get (D := G.1) (ci := 8) (v := .ref (t_a 29)) (C := RX8) (T := TX8) (N := 33) hx hb hw inW8 hown hK.1 hP 0 rfl rfl 29 (by decide) (hw _ kw_6_4) (fun _ h9 => h9) rfl dX8_echo_32 ?_
      refine lv_iload_n hx hb dX8_echo_35 rfl (lv_at hl 2 rfl) ?_
      obtain ⟨hi_10, hf⟩ := rdI_in hf
      refine va_iald hx hb hK.1 hP 2 0 rfl rfl hi_10 dX8_echo_36 ?_
      refine lv_topi (fun x_9 ex_9 => ?_)
      have hf := hf x_9 ex_9
      exact hRet _ _ _ _ _ _ _ hf hP hS dX8_echo_37
    · have hf := ip c_6 hf
      refine lv_bipush (v := (-2)) hx hb dX8_echo_23 (by decide) ?_
      exact hRet _ _ _ _ _ _ _ hf hP hS dX8_echo_25
theorem calX8_isAsTold : CalV yX8_isAsTold cX8_isAsTold 4 (some .boolean) 2 := ⟨⟨kw_46_19, kw_1_5, by decide +kernel⟩, kw_46_17, kw_46_18⟩
set_option maxHeartbeats 8000000 in
set_option maxRecDepth 100000 in
theorem ctX8_isAsTold (l : Launch) (G : GT) (t_h : Nat) (t_a : Nat → Nat) (t_thrown : Int32) (t_all : Nat → Int32) (t_taped : Int32) (t_at : Int32) (t_behind : Int32) (t_size : Int32) (t_kind : Int32) (t_number : Int32) (t_wrong : Int32) (t_wrongAt : Int32) (t_faultKind : Int32) (t_faultPlace : Int32) (t_x : Int32) (t_wayLong : Int32) (t_bothLeast : Int32) (t_echoes : Nat → Int32) (t_numbers : Nat → Int64) (v1 : Int32) (v2 : Int32) (r : Int32) (o_t_echoes : Nat → Int32) (hf : fX8_isAsTold t_all t_echoes t_numbers v1 v2 = some (r, o_t_echoes)) : WrI l yX8_isAsTold (Cond.code yX8_isAsTold cX8_isAsTold 4 (some .boolean)) { frames := 6, cells := 0, slots := 0, locals := 142 } G [.ref t_h, .int v1, .int v2] [oX8 t_h t_a t_thrown t_taped t_at t_behind t_size t_kind t_number t_wrong t_wrongAt t_faultKind t_faultPlace t_x t_wayLong t_bothLeast, arI G (t_a 1) 558 t_all, arI G (t_a 29) 12 t_echoes, arJ G (t_a 32) 160 t_numbers] [oX8 t_h t_a t_thrown t_taped t_at t_behind t_size t_kind t_number t_wrong t_wrongAt t_faultKind t_faultPlace t_x t_wayLong t_bothLeast, arI G (t_a 1) 558 t_all, arI G (t_a 29) 12 o_t_echoes, arJ G (t_a 32) 160 t_numbers] r := by
  intro sz
  refine Met.ofW (cc := cX8_isAsTold) (maxL := 4) (ret := (some .boolean)) (by decide) rfl ?_
  intro p e s m args below meth c s₁ B hml hv
  obtain ⟨hargs, hsz, hP, hD0, hK⟩ := hv
  subst hsz
  obtain ⟨hx, hb, hr, hw, hown, hlk⟩ := fwB B
  refine fw_enter hargs (Nat.le_of_ble_eq_true rfl) (fun ls hl => ?_)
  have hl : lv_has ls 4 [(0, .ref t_h), (1, .int v1), (2, .int v2)] := hl
  refine fw_Q (P := fun Q => ∃ A : Nat → Prop, va_D A [oX8 t_h t_a t_thrown t_taped t_at t_behind t_size t_kind t_number t_wrong t_wrongAt t_faultKind t_faultPlace t_x t_wayLong t_bothLeast, arI G (t_a 1) 558 t_all, arI G (t_a 29) 12 t_echoes, arJ G (t_a 32) 160 t_numbers] ∧ va_S A s.heap s.heap [] ∧ (∀ q, s.heap.size ≤ q → A q) ∧ ∀ (v : Int32) (n_t_echoes : Nat → Int32) (H : Heap) (locs : List Loc) (pc : Nat) (ls : Array Slot), some (v, n_t_echoes) = some (r, o_t_echoes) → va_P G.1 vwCl [oX8 t_h t_a t_thrown t_taped t_at t_behind t_size t_kind t_number t_wrong t_wrongAt t_faultKind t_faultPlace t_x t_wayLong t_bothLeast, arI G (t_a 1) 558 t_all, arI G (t_a 29) 12 n_t_echoes, arJ G (t_a 32) 160 t_numbers] H → va_S A s.heap H locs → narrow .boolean (.int v) = .int v → decode cX8_isAsTold pc = .ok (.ireturn, 1) → W p l e ({ frames := 6, cells := 0, slots := 0, locals := 142 } : Room) s m args below meth c H locs 0 0 Q (F0 m pc ls [.int v])) ⟨va_A [oX8 t_h t_a t_thrown t_taped t_at t_behind t_size t_kind t_number t_wrong t_wrongAt t_faultKind t_faultPlace t_x t_wayLong t_bothLeast, arI G (t_a 1) 558 t_all, arI G (t_a 29) 12 t_echoes, arJ G (t_a 32) 160 t_numbers] s.heap.size, hD0.self (sz := s.heap.size), va_S.rf, fun q h => Or.inr h, ?_⟩ ?_
  · intro v n_t_echoes H locs pc ls h hP hS hn hd
    cases h
    exact retWZ hx hb hr hlk hS hP hn rfl hd
  rintro Q ⟨A, hD, hS, hA, hRet⟩
  change W p l e ({ frames := 6, cells := 0, slots := 0, locals := 142 } : Room) s m args below meth c _ _ 0 0 Q _
  have L7 : ∀ (t_echoes : Nat → Int32) (K : Option (Int32 × (Nat → Int32))) (n : Nat) (l3 : Int32) (H : Heap) (locs : List Loc) (ls : Array Slot), va_P G.1 vwCl [oX8 t_h t_a t_thrown t_taped t_at t_behind t_size t_kind t_number t_wrong t_wrongAt t_faultKind t_faultPlace t_x t_wayLong t_bothLeast, arI G (t_a 1) 558 t_all, arI G (t_a 29) 12 t_echoes, arJ G (t_a 32) 160 t_numbers] H → va_D A [oX8 t_h t_a t_thrown t_taped t_at t_behind t_size t_kind t_number t_wrong t_wrongAt t_faultKind t_faultPlace t_x t_wayLong t_bothLeast, arI G (t_a 1) 558 t_all, arI G (t_a 29) 12 t_echoes, arJ G (t_a 32) 160 t_numbers] → va_S A s.heap H locs → lv_has ls 4 [(0, .ref t_h), (2, .int v2), (3, .int l3)] → fX8_isAsTold_7 v2 t_all t_echoes t_numbers K n l3 = some (r, o_t_echoes) → (∀  (H : Heap) (locs : List Loc) (ls : Array Slot), va_P G.1 vwCl [oX8 t_h t_a t_thrown t_taped t_at t_behind t_size t_kind t_number t_wrong t_wrongAt t_faultKind t_faultPlace t_x t_wayLong t_bothLeast, arI G (t_a 1) 558 t_all, arI G (t_a 29) 12 t_echoes, arJ G (t_a 32) 160 t_numbers] H → va_D A [oX8 t_h t_a t_thrown t_taped t_at t_behind t_size t_kind t_number t_wrong t_wrongAt t_faultKind t_faultPlace t_x t_wayLong t_bothLeast, arI G (t_a 1) 558 t_all, arI G (t_a 29) 12 t_echoes, arJ G (t_a 32) 160 t_numbers] → va_S A s.heap H locs → lv_has ls 4 [] → K = some (r, o_t_echoes) → W p l e ({ frames := 6, cells := 0, slots := 0, locals := 142 } : Room) s m args below meth c H locs 0 0 Q (F0 m 47 ls [])) → W p l e ({ frames := 6, cells := 0, slots := 0, locals := 142 } : Room) s m args below meth c H locs 0 0 Q (F0 m 7 ls []) := by
    intro t_echoes K n
    induction n with
    | zero => intro l3 H locs ls hP hD hS hl hf; rw [fX8_isAsTold_7] at hf; cases hf
    | succ n ih =>
      intro l3 H locs ls hP hD hS hl hf hX
      rw [fX8_isAsTold_7] at hf
      refine lv_iload_n hx hb dX8_isAsTold_7 rfl (lv_at hl 2 rfl) ?_
      refine lv_aload_n hx hb dX8_isAsTold_8 rfl (lv_at hl 0 rfl) ?_
      refine va_get (D := G.1) (ci := 8) (v := .ref (t_a 1)) (C := RX8) (T := TX8) (N := 33) hx hb hw inW8 hown hK.1 hP 0 rfl rfl 1 (by decide) (hw _ kw_5_11) (fun _ h9 => h9) rfl dX8_isAsTold_9 ?_
      refine lv_iconst (v := 0) hx hb dX8_isAsTold_12 (by decide) ?_
      obtain ⟨hi_4, hf⟩ := rdI_in hf
      refine va_iald hx hb hK.1 hP 1 0 rfl rfl hi_4 dX8_isAsTold_13 ?_
      refine lv_topi (fun x_3 ex_3 => ?_)
      have hf := hf x_3 ex_3
      refine lv_icmp_ge (tgt := 47) hx hb dX8_isAsTold_14 (by decide) (fun c_5 => ?_) (fun c_5 => ?_)
      · have hf := ip c_5 hf
        exact hX  _ _ _ hP hD hS (lv_sub hl [] rfl) hf
      · have hf := iq c_5 hf
        refine lv_aload_n hx hb dX8_isAsTold_17 rfl (lv_at hl 0 rfl) ?_
        refine va_get (D := G.1) (ci := 8) (v := .ref (t_a 29)) (C := RX8) (T := TX8) (N := 33) hx hb hw inW8 hown hK.1 hP 0 rfl rfl 29 (by decide) (hw _ kw_6_4) (fun _ h9 => h9) rfl dX8_isAsTold_18 ?_
        refine lv_iload_n hx hb dX8_isAsTold_21 rfl (lv_at hl 2 rfl) ?_
        obtain ⟨hi_7, hf⟩ := rdI_in hf
        refine va_iald hx hb hK.1 hP 2 0 rfl rfl hi_7 dX8_isAsTold_22 ?_
        refine lv_topi (fun x_6 ex_6 => ?_)
        have hf := hf x_6 ex_6
        refine lv_i2l hx hb dX8_isAsTold_23 rfl ?_
        refine lv_aload_n hx hb dX8_isAsTold_24 rfl (lv_at hl 0 rfl) ?_
        refine va_get (D := G.1) (ci := 8) (v := .ref (t_a 32)) (C := RX8) (T := TX8) (N := 33) hx hb hw inW8 hown hK.1 hP 0 rfl rfl 32 (by decide) (hw _ kw_6_7) (fun _ h9 => h9) rfl dX8_isAsTold_25 ?_
        refine lv_bipush (v := 40) hx hb dX8_isAsTold_28 (by decide) ?_
        refine lv_iload_n hx hb dX8_isAsTold_30 rfl (lv_at hl 1 rfl) ?_
        refine lv_imul hx hb dX8_isAsTold_31 ?_
        refine lv_iload_n hx hb dX8_isAsTold_32 rfl (lv_at hl 2 rfl) ?_
        refine lv_iadd hx hb dX8_isAsTold_33 ?_
        obtain ⟨hi_9, hf⟩ := rdL_in hf
        refine va_lald hx hb hK.1 hP 3 2 rfl rfl hi_9 dX8_isAsTold_34 ?_
        refine lv_topl (fun x_8 ex_8 => ?_)
        have hf := hf x_8 ex_8
        refine W.lcmp hx hb dX8_isAsTold_35 ?_
        refine lv_if_eq (tgt := 41) hx hb dX8_isAsTold_36 (by decide) (fun c_10 => ?_) (fun c_10 => ?_)
        · have hf := ip c_10 hf
          refine lv_iinc (v := (l3 + 1)) (lv' := [(3, .int (l3 + 1)), (0, .ref t_h), (2, .int v2)]) hx hb dX8_isAsTold_41 hl (k := 2) rfl (by rfl) (by decide) rfl (fun ls hl => ?_)
          refine lv_goto (tgt := 7) hx hb dX8_isAsTold_44 (by decide) ?_
          exact ih _ _ _ _ hP hD hS (lv_sub hl [1, 2, 0] rfl) hf hX
        · have hf := iq c_10 hf
          refine lv_iconst (v := 0) hx hb dX8_isAsTold_39 (by decide) ?_
          exact hRet _ _ _ _ _ _ hf hP hS (by decide +kernel) dX8_isAsTold_40
  unfold fX8_isAsTold at hf
  refine lv_aload_n hx hb dX8_isAsTold_0 rfl (lv_at hl 0 rfl) ?_
  refine lv_iload_n hx hb dX8_isAsTold_1 rfl (lv_at hl 1 rfl) ?_
  obtain ⟨t_echoes_1, hc_2, hf⟩ := bd1_in hf
  refine wcV (w1 := [oX8 t_h t_a t_thrown t_taped t_at t_behind t_size t_kind t_number t_wrong t_wrongAt t_faultKind t_faultPlace t_x t_wayLong t_bothLeast, arI G (t_a 1) 558 t_all, arI G (t_a 29) 12 t_echoes_1]) (va_runV (As := [.int v1]) (rest := []) ⟨hx, hb, hml, hown, hw⟩ ((ctX8_laysEchoes l G t_h t_a t_thrown t_all t_taped t_at t_behind t_size t_kind t_number t_wrong t_wrongAt t_faultKind t_faultPlace t_x t_wayLong t_bothLeast t_echoes v1 _ hc_2) _) (kV hw calX8_laysEchoes kw_45_13 rfl rfl ⟨Nat.le_of_ble_eq_true rfl, Nat.le_of_ble_eq_true rfl⟩) (wpV (hP.sub (ws' := [oX8 t_h t_a t_thrown t_taped t_at t_behind t_size t_kind t_number t_wrong t_wrongAt t_faultKind t_faultPlace t_x t_wayLong t_bothLeast, arI G (t_a 1) 558 t_all, arI G (t_a 29) 12 t_echoes]) [0, 1, 2] rfl) (hD.sub (ws' := [oX8 t_h t_a t_thrown t_taped t_at t_behind t_size t_kind t_number t_wrong t_wrongAt t_faultKind t_faultPlace t_x t_wayLong t_bothLeast, arI G (t_a 1) 558 t_all, arI G (t_a 29) 12 t_echoes]) [0, 1, 2] (by decide) rfl) hK (ci := 8) (q0 := 0) rfl rfl) rfl rfl hl.1 rfl (lv_room (Nat.le_of_ble_eq_true rfl)) dX8_isAsTold_2 ⟨Nat.zero_le _, Nat.zero_le _⟩) hS hA hP hD [0, 1, 2] rfl rfl (fun H locs hP hD hS => ?_)
  have hP : va_P G.1 vwCl [oX8 t_h t_a t_thrown t_taped t_at t_behind t_size t_kind t_number t_wrong t_wrongAt t_faultKind t_faultPlace t_x t_wayLong t_bothLeast, arI G (t_a 1) 558 t_all, arI G (t_a 29) 12 t_echoes_1, arJ G (t_a 32) 160 t_numbers] H := hP
  have hD : va_D A [oX8 t_h t_a t_thrown t_taped t_at t_behind t_size t_kind t_number t_wrong t_wrongAt t_faultKind t_faultPlace t_x t_wayLong t_bothLeast, arI G (t_a 1) 558 t_all, arI G (t_a 29) 12 t_echoes_1, arJ G (t_a 32) 160 t_numbers] := hD
  refine lv_iconst (v := 0) hx hb dX8_isAsTold_5 (by decide) ?_
  refine lv_istore_n (lv' := [(3, .int 0), (0, .ref t_h), (1, .int v1), (2, .int v2)]) hx hb dX8_isAsTold_6 rfl hl (by decide) rfl (fun ls hl => ?_)
  refine L7 _ _ _ _ _ _ _ hP hD hS (lv_sub hl [1, 3, 0] rfl) hf (fun  H locs ls hP hD hS hl hf => ?_)
  refine lv_iconst (v := 1) hx hb dX8_isAsTold_47 (by decide) ?_
  exact hRet _ _ _ _ _ _ hf hP hS (by decide +kernel) dX8_isAsTold_48
theorem calX8_firstBy : CalV yX8_firstBy cX8_firstBy 8 (some .int) 3 := ⟨⟨kw_46_23, kw_1_5, by decide +kernel⟩, kw_46_21, kw_46_22⟩
set_option maxHeartbeats 8000000 in
set_option maxRecDepth 100000 in
theorem ctX8_firstBy (l : Launch) (G : GT) (t_h : Nat) (t_a : Nat → Nat) (t_thrown : Int32) (t_all : Nat → Int32) (t_taped : Int32) (t_at : Int32) (t_behind : Int32) (t_size : Int32) (t_kind : Int32) (t_number : Int32) (t_wrong : Int32) (t_wrongAt : Int32) (t_faultKind : Int32) (t_faultPlace : Int32) (t_x : Int32) (t_wayLong : Int32) (t_bothLeast : Int32) (t_echoes : Nat → Int32) (t_numbers : Nat → Int64) (v1 : Int32) (v2 : Int32) (v3 : Int32) (r : Int32) (o_t_all : Nat → Int32) (o_t_echoes : Nat → Int32) (hf : fX8_firstBy t_all t_echoes t_numbers v1 v2 v3 = some (r, o_t_all, o_t_echoes)) : WrI l yX8_firstBy (Cond.code yX8_firstBy cX8_firstBy 8 (some .int)) { frames := 7, cells := 0, slots := 0, locals := 165 } G [.ref t_h, .int v1, .int v2, .int v3] [oX8 t_h t_a t_thrown t_taped t_at t_behind t_size t_kind t_number t_wrong t_wrongAt t_faultKind t_faultPlace t_x t_wayLong t_bothLeast, arI G (t_a 1) 558 t_all, arI G (t_a 29) 12 t_echoes, arJ G (t_a 32) 160 t_numbers] [oX8 t_h t_a t_thrown t_taped t_at t_behind t_size t_kind t_number t_wrong t_wrongAt t_faultKind t_faultPlace t_x t_wayLong t_bothLeast, arI G (t_a 1) 558 o_t_all, arI G (t_a 29) 12 o_t_echoes, arJ G (t_a 32) 160 t_numbers] r := by
  intro sz
  refine Met.ofW (cc := cX8_firstBy) (maxL := 8) (ret := (some .int)) (by decide) rfl ?_
  intro p e s m args below meth c s₁ B hml hv
  obtain ⟨hargs, hsz, hP, hD0, hK⟩ := hv
  subst hsz
  obtain ⟨hx, hb, hr, hw, hown, hlk⟩ := fwB B
  refine fw_enter hargs (Nat.le_of_ble_eq_true rfl) (fun ls hl => ?_)
  have hl : lv_has ls 8 [(0, .ref t_h), (1, .int v1), (2, .int v2), (3, .int v3)] := hl
  refine fw_Q (P := fun Q => ∃ A : Nat → Prop, va_D A [oX8 t_h t_a t_thrown t_taped t_at t_behind t_size t_kind t_number t_wrong t_wrongAt t_faultKind t_faultPlace t_x t_wayLong t_bothLeast, arI G (t_a 1) 558 t_all, arI G (t_a 29) 12 t_echoes, arJ G (t_a 32) 160 t_numbers] ∧ va_S A s.heap s.heap [] ∧ (∀ q, s.heap.size ≤ q → A q) ∧ ∀ (v : Int32) (n_t_all : Nat → Int32) (n_t_echoes : Nat → Int32) (H : Heap) (locs : List Loc) (pc : Nat) (ls : Array Slot), some (v, n_t_all, n_t_echoes) = some (r, o_t_all, o_t_echoes) → va_P G.1 vwCl [oX8 t_h t_a t_thrown t_taped t_at t_behind t_size t_kind t_number t_wrong t_wrongAt t_faultKind t_faultPlace t_x t_wayLong t_bothLeast, arI G (t_a 1) 558 n_t_all, arI G (t_a 29) 12 n_t_echoes, arJ G (t_a 32) 160 t_numbers] H → va_S A s.heap H locs → decode cX8_firstBy pc = .ok (.ireturn, 1) → W p l e ({ frames := 7, cells := 0, slots := 0, locals := 165 } : Room) s m args below meth c H locs 0 0 Q (F0 m pc ls [.int v])) ⟨va_A [oX8 t_h t_a t_thrown t_taped t_at t_behind t_size t_kind t_number t_wrong t_wrongAt t_faultKind t_faultPlace t_x t_wayLong t_bothLeast, arI G (t_a 1) 558 t_all, arI G (t_a 29) 12 t_echoes, arJ G (t_a 32) 160 t_numbers] s.heap.size, hD0.self (sz := s.heap.size), va_S.rf, fun q h => Or.inr h, ?_⟩ ?_
  · intro v n_t_all n_t_echoes H locs pc ls h hP hS hd
    cases h
    exact retWI hx hb hr hlk hS hP rfl hd
  rintro Q ⟨A, hD, hS, hA, hRet⟩
  change W p l e ({ frames := 7, cells := 0, slots := 0, locals := 165 } : Room) s m args below meth c _ _ 0 0 Q _
  have L20 : ∀ (l4 : Int32) (K : (Nat → Int32) → (Nat → Int32) → Option (Int32 × (Nat → Int32) × (Nat → Int32))) (n : Nat) (l5 : Int32) (t_all : Nat → Int32) (t_echoes : Nat → Int32) (H : Heap) (locs : List Loc) (ls : Array Slot), va_P G.1 vwCl [oX8 t_h t_a t_thrown t_taped t_at t_behind t_size t_kind t_number t_wrong t_wrongAt t_faultKind t_faultPlace t_x t_wayLong t_bothLeast, arI G (t_a 1) 558 t_all, arI G (t_a 29) 12 t_echoes, arJ G (t_a 32) 160 t_numbers] H → va_D A [oX8 t_h t_a t_thrown t_taped t_at t_behind t_size t_kind t_number t_wrong t_wrongAt t_faultKind t_faultPlace t_x t_wayLong t_bothLeast, arI G (t_a 1) 558 t_all, arI G (t_a 29) 12 t_echoes, arJ G (t_a 32) 160 t_numbers] → va_S A s.heap H locs → lv_has ls 8 [(0, .ref t_h), (1, .int v1), (2, .int v2), (3, .int v3), (4, .int l4), (5, .int l5)] → fX8_firstBy_20 v1 v2 v3 l4 t_numbers K n l5 t_all t_echoes = some (r, o_t_all, o_t_echoes) → (∀ (kt_all : Nat → Int32) (kt_echoes : Nat → Int32) (H : Heap) (locs : List Loc) (ls : Array Slot), va_P G.1 vwCl [oX8 t_h t_a t_thrown t_taped t_at t_behind t_size t_kind t_number t_wrong t_wrongAt t_faultKind t_faultPlace t_x t_wayLong t_bothLeast, arI G (t_a 1) 558 kt_all, arI G (t_a 29) 12 kt_echoes, arJ G (t_a 32) 160 t_numbers] H → va_D A [oX8 t_h t_a t_thrown t_taped t_at t_behind t_size t_kind t_number t_wrong t_wrongAt t_faultKind t_faultPlace t_x t_wayLong t_bothLeast, arI G (t_a 1) 558 kt_all, arI G (t_a 29) 12 kt_echoes, arJ G (t_a 32) 160 t_numbers] → va_S A s.heap H locs → lv_has ls 8 [(0, .ref t_h), (1, .int v1), (2, .int v2), (3, .int v3), (4, .int l4)] → K kt_all kt_echoes = some (r, o_t_all, o_t_echoes) → W p l e ({ frames := 7, cells := 0, slots := 0, locals := 165 } : Room) s m args below meth c H locs 0 0 Q (F0 m 156 ls [])) → W p l e ({ frames := 7, cells := 0, slots := 0, locals := 165 } : Room) s m args below meth c H locs 0 0 Q (F0 m 20 ls []) := by
    intro l4 K n
    induction n with
    | zero => intro l5 t_all t_echoes H locs ls hP hD hS hl hf; rw [fX8_firstBy_20] at hf; cases hf
    | succ n ih =>
      intro l5 t_all t_echoes H locs ls hP hD hS hl hf hX
      rw [fX8_firstBy_20] at hf
      refine lv_iload hx hb dX8_firstBy_20 (lv_at hl 5 rfl) ?_
      refine lv_aload_n hx hb dX8_firstBy_22 rfl (lv_at hl 0 rfl) ?_
      refine va_get (D := G.1) (ci := 8) (v := .ref (t_a 1)) (C := RX8) (T := TX8) (N := 33) hx hb hw inW8 hown hK.1 hP 0 rfl rfl 1 (by decide) (hw _ kw_5_11) (fun _ h9 => h9) rfl dX8_firstBy_23 ?_
      refine lv_iconst (v := 0) hx hb dX8_firstBy_26 (by decide) ?_
      obtain ⟨hi_6, hf⟩ := rdI_in hf
      refine va_iald hx hb hK.1 hP 1 0 rfl rfl hi_6 dX8_firstBy_27 ?_
      refine lv_topi (fun x_5 ex_5 => ?_)
      have hf := hf x_5 ex_5
      refine lv_icmp_ge (tgt := 156) hx hb dX8_firstBy_28 (by decide) (fun c_7 => ?_) (fun c_7 => ?_)
      · have hf := ip c_7 hf
        exact hX _ _ _ _ _ hP hD hS (lv_sub hl [0, 1, 2, 3, 4] rfl) hf
      · have hf := iq c_7 hf
        refine lv_aload_n hx hb dX8_firstBy_31 rfl (lv_at hl 0 rfl) ?_
        refine lv_iload hx hb dX8_firstBy_32 (lv_at hl 4 rfl) ?_
        refine lv_iload hx hb dX8_firstBy_34 (lv_at hl 5 rfl) ?_
        obtain ⟨r_8, hc_9, hf⟩ := bd1_in hf
        refine rcI (va_runV (As := [.int l4, .int l5]) (rest := []) ⟨hx, hb, hml, hown, hw⟩ ((ctX8_isSlack l G t_h t_a t_thrown t_all t_taped t_at t_behind t_size t_kind t_number t_wrong t_wrongAt t_faultKind t_faultPlace t_x t_wayLong t_bothLeast l4 l5 _ hc_9) _) (kV hw calX8_isSlack kw_22_19 rfl rfl ⟨Nat.le_of_ble_eq_true rfl, Nat.le_of_ble_eq_true rfl⟩) (rpV (hP.sub (ws' := [oX8 t_h t_a t_thrown t_taped t_at t_behind t_size t_kind t_number t_wrong t_wrongAt t_faultKind t_faultPlace t_x t_wayLong t_bothLeast, arI G (t_a 1) 558 t_all]) [0, 1] rfl) hK (ci := 8) (q0 := 0) rfl rfl) rfl rfl hl.1 rfl (lv_room (Nat.le_of_ble_eq_true rfl)) dX8_firstBy_36 ⟨Nat.zero_le _, Nat.zero_le _⟩) hS hA hP (fun H locs hP hS => ?_)
        refine lv_if_ne (tgt := 150) hx hb dX8_firstBy_39 (by decide) (fun c_10 => ?_) (fun c_10 => ?_)
        · have hf := iq c_10 hf
          refine lv_iinc (v := (l5 + 1)) (lv' := [(5, .int (l5 + 1)), (0, .ref t_h), (1, .int v1), (2, .int v2), (3, .int v3), (4, .int l4)]) hx hb dX8_firstBy_150 hl (k := 5) rfl (by rfl) (by decide) rfl (fun ls hl => ?_)
          refine lv_goto (tgt := 20) hx hb dX8_firstBy_153 (by decide) ?_
          exact ih _ _ _ _ _ _ hP hD hS (lv_sub hl [1, 2, 3, 4, 5, 0] rfl) hf hX
        · have hf := ip c_10 hf
          refine lv_iload_n hx hb dX8_firstBy_42 rfl (lv_at hl 3 rfl) ?_
          refine jn_el hf (fun k_11 ek_11 hf => ?_)
          have J77 : ∀  (H : Heap) (locs : List Loc) (ls : Array Slot), va_P G.1 vwCl [oX8 t_h t_a t_thrown t_taped t_at t_behind t_size t_kind t_number t_wrong t_wrongAt t_faultKind t_faultPlace t_x t_wayLong t_bothLeast, arI G (t_a 1) 558 t_all, arI G (t_a 29) 12 t_echoes, arJ G (t_a 32) 160 t_numbers] H → va_D A [oX8 t_h t_a t_thrown t_taped t_at t_behind t_size t_kind t_number t_wrong t_wrongAt t_faultKind t_faultPlace t_x t_wayLong t_bothLeast, arI G (t_a 1) 558 t_all, arI G (t_a 29) 12 t_echoes, arJ G (t_a 32) 160 t_numbers] → va_S A s.heap H locs → lv_has ls 8 [(0, .ref t_h), (1, .int v1), (2, .int v2), (3, .int v3), (4, .int l4), (5, .int l5)] → k_11 = some (r, o_t_all, o_t_echoes) → W p l e ({ frames := 7, cells := 0, slots := 0, locals := 165 } : Room) s m args below meth c H locs 0 0 Q (F0 m 77 ls []) := by
            intro  H locs ls hP hD hS hl hf
            rw [ek_11] at hf
            refine lv_aload_n hx hb dX8_firstBy_77 rfl (lv_at hl 0 rfl) ?_
            refine va_get (D := G.1) (ci := 8) (v := .ref (t_a 1)) (C := RX8) (T := TX8) (N := 33) hx hb hw inW8 hown hK.1 hP 0 rfl rfl 1 (by decide) (hw _ kw_5_11) (fun _ h9 => h9) rfl dX8_firstBy_78 ?_
            refine lv_bipush (v := 42) hx hb dX8_firstBy_81 (by decide) ?_
            refine lv_bipush (v := 12) hx hb dX8_firstBy_83 (by decide) ?_
            refine lv_iload hx hb dX8_firstBy_85 (lv_at hl 4 rfl) ?_
            refine lv_imul hx hb dX8_firstBy_87 ?_
            refine lv_iadd hx hb dX8_firstBy_88 ?_
            refine lv_iload hx hb dX8_firstBy_89 (lv_at hl 5 rfl) ?_
            refine lv_iadd hx hb dX8_firstBy_91 ?_
            obtain ⟨hi_13, hf⟩ := rdI_in hf
            refine va_iald hx hb hK.1 hP 1 0 rfl rfl hi_13 dX8_firstBy_92 ?_
            refine lv_topi (fun x_12 ex_12 => ?_)
            have hf := hf x_12 ex_12
            refine lv_istore (lv' := [(6, .int x_12), (0, .ref t_h), (1, .int v1), (2, .int v2), (3, .int v3), (4, .int l4), (5, .int l5)]) hx hb dX8_firstBy_93 hl (by decide) rfl (fun ls hl => ?_)
            refine lv_aload_n hx hb dX8_firstBy_95 rfl (lv_at hl 1 rfl) ?_
            refine va_get (D := G.1) (ci := 8) (v := .ref (t_a 1)) (C := RX8) (T := TX8) (N := 33) hx hb hw inW8 hown hK.1 hP 0 rfl rfl 1 (by decide) (hw _ kw_5_11) (fun _ h9 => h9) rfl dX8_firstBy_96 ?_
            refine lv_iload hx hb dX8_firstBy_99 (lv_at hl 5 rfl) ?_
            refine lv_iload hx hb dX8_firstBy_101 (lv_at hl 6 rfl) ?_
            refine lv_iload_n hx hb dX8_firstBy_103 rfl (lv_at hl 4 rfl) ?_
            refine jn_el hf (fun k_15 ek_15 hf => ?_)
            have J112 : ∀ (z_14 : Int32) (H : Heap) (locs : List Loc) (ls : Array Slot), va_P G.1 vwCl [oX8 t_h t_a t_thrown t_taped t_at t_behind t_size t_kind t_number t_wrong t_wrongAt t_faultKind t_faultPlace t_x t_wayLong t_bothLeast, arI G (t_a 1) 558 t_all, arI G (t_a 29) 12 t_echoes, arJ G (t_a 32) 160 t_numbers] H → va_D A [oX8 t_h t_a t_thrown t_taped t_at t_behind t_size t_kind t_number t_wrong t_wrongAt t_faultKind t_faultPlace t_x t_wayLong t_bothLeast, arI G (t_a 1) 558 t_all, arI G (t_a 29) 12 t_echoes, arJ G (t_a 32) 160 t_numbers] → va_S A s.heap H locs → lv_has ls 8 [(0, .ref t_h), (1, .int v1), (2, .int v2), (3, .int v3), (4, .int l4), (5, .int l5), (6, .int x_12)] → k_15 z_14 = some (r, o_t_all, o_t_echoes) → W p l e ({ frames := 7, cells := 0, slots := 0, locals := 165 } : Room) s m args below meth c H locs 0 0 Q (F0 m 112 ls [.int z_14, .int l5, .int l4, .ref (t_a 1)]) := by
              intro z_14 H locs ls hP hD hS hl hf
              rw [ek_15] at hf
              obtain ⟨t_all_16, hc_17, hf⟩ := bd1_in hf
              refine wcV (w1 := [arI G (t_a 1) 558 t_all_16]) (va_runS (As := [.ref (t_a 1), .int l4, .int l5, .int z_14]) (rest := []) ⟨hx, hb, hml, hown, hw⟩ ((ctX8_sets l G 558 (t_a 1) t_all l4 l5 z_14 _ hc_17) _) (kS hw calX8_sets kw_17_10 rfl rfl ⟨Nat.le_of_ble_eq_true rfl, Nat.le_of_ble_eq_true rfl⟩) (wpS (hP.sub (ws' := [arI G (t_a 1) 558 t_all]) [1] rfl) (hD.sub (ws' := [arI G (t_a 1) 558 t_all]) [1] (by decide) rfl) hK) rfl rfl hl.1 rfl (lv_room (Nat.le_of_ble_eq_true rfl)) dX8_firstBy_112 ⟨Nat.zero_le _, Nat.zero_le _⟩) hS hA hP hD [1] rfl rfl (fun H locs hP hD hS => ?_)
              have hP : va_P G.1 vwCl [oX8 t_h t_a t_thrown t_taped t_at t_behind t_size t_kind t_number t_wrong t_wrongAt t_faultKind t_faultPlace t_x t_wayLong t_bothLeast, arI G (t_a 1) 558 t_all_16, arI G (t_a 29) 12 t_echoes, arJ G (t_a 32) 160 t_numbers] H := hP
              have hD : va_D A [oX8 t_h t_a t_thrown t_taped t_at t_behind t_size t_kind t_number t_wrong t_wrongAt t_faultKind t_faultPlace t_x t_wayLong t_bothLeast, arI G (t_a 1) 558 t_all_16, arI G (t_a 29) 12 t_echoes, arJ G (t_a 32) 160 t_numbers] := hD
              refine lv_aload_n hx hb dX8_firstBy_115 rfl (lv_at hl 0 rfl) ?_
              refine lv_iload_n hx hb dX8_firstBy_116 rfl (lv_at hl 1 rfl) ?_
              refine lv_iload_n hx hb dX8_firstBy_117 rfl (lv_at hl 2 rfl) ?_
              obtain ⟨r_19, t_echoes_18, hc_20, hf⟩ := bd2_in hf
              refine wcI (w1 := [oX8 t_h t_a t_thrown t_taped t_at t_behind t_size t_kind t_number t_wrong t_wrongAt t_faultKind t_faultPlace t_x t_wayLong t_bothLeast, arI G (t_a 1) 558 t_all_16, arI G (t_a 29) 12 t_echoes_18, arJ G (t_a 32) 160 t_numbers]) (va_runV (As := [.int v1, .int v2]) (rest := []) ⟨hx, hb, hml, hown, hw⟩ ((ctX8_isAsTold l G t_h t_a t_thrown t_all_16 t_taped t_at t_behind t_size t_kind t_number t_wrong t_wrongAt t_faultKind t_faultPlace t_x t_wayLong t_bothLeast t_echoes t_numbers v1 v2 _ _ hc_20) _) (kV hw calX8_isAsTold kw_46_16 rfl rfl ⟨Nat.le_of_ble_eq_true rfl, Nat.le_of_ble_eq_true rfl⟩) (wpV (hP.sub (ws' := [oX8 t_h t_a t_thrown t_taped t_at t_behind t_size t_kind t_number t_wrong t_wrongAt t_faultKind t_faultPlace t_x t_wayLong t_bothLeast, arI G (t_a 1) 558 t_all_16, arI G (t_a 29) 12 t_echoes, arJ G (t_a 32) 160 t_numbers]) [0, 1, 2, 3] rfl) (hD.sub (ws' := [oX8 t_h t_a t_thrown t_taped t_at t_behind t_size t_kind t_number t_wrong t_wrongAt t_faultKind t_faultPlace t_x t_wayLong t_bothLeast, arI G (t_a 1) 558 t_all_16, arI G (t_a 29) 12 t_echoes, arJ G (t_a 32) 160 t_numbers]) [0, 1, 2, 3] (by decide) rfl) hK (ci := 8) (q0 := 0) rfl rfl) rfl rfl hl.1 rfl (lv_room (Nat.le_of_ble_eq_true rfl)) dX8_firstBy_118 ⟨Nat.zero_le _, Nat.zero_le _⟩) hS hA hP hD [0, 1, 2, 3] rfl rfl (fun H locs hP hD hS => ?_)
              have hP : va_P G.1 vwCl [oX8 t_h t_a t_thrown t_taped t_at t_behind t_size t_kind t_number t_wrong t_wrongAt t_faultKind t_faultPlace t_x t_wayLong t_bothLeast, arI G (t_a 1) 558 t_all_16, arI G (t_a 29) 12 t_echoes_18, arJ G (t_a 32) 160 t_numbers] H := hP
              have hD : va_D A [oX8 t_h t_a t_thrown t_taped t_at t_behind t_size t_kind t_number t_wrong t_wrongAt t_faultKind t_faultPlace t_x t_wayLong t_bothLeast, arI G (t_a 1) 558 t_all_16, arI G (t_a 29) 12 t_echoes_18, arJ G (t_a 32) 160 t_numbers] := hD
              refine lv_istore (lv' := [(7, .int r_19), (0, .ref t_h), (1, .int v1), (2, .int v2), (3, .int v3), (4, .int l4), (5, .int l5), (6, .int x_12)]) hx hb dX8_firstBy_121 hl (by decide) rfl (fun ls hl => ?_)
              refine lv_aload_n hx hb dX8_firstBy_123 rfl (lv_at hl 1 rfl) ?_
              refine va_get (D := G.1) (ci := 8) (v := .ref (t_a 1)) (C := RX8) (T := TX8) (N := 33) hx hb hw inW8 hown hK.1 hP 0 rfl rfl 1 (by decide) (hw _ kw_5_11) (fun _ h9 => h9) rfl dX8_firstBy_124 ?_
              refine lv_iload hx hb dX8_firstBy_127 (lv_at hl 5 rfl) ?_
              refine lv_iload hx hb dX8_firstBy_129 (lv_at hl 6 rfl) ?_
              refine lv_iload hx hb dX8_firstBy_131 (lv_at hl 7 rfl) ?_
              obtain ⟨t_all_21, hc_22, hf⟩ := bd1_in hf
              refine wcV (w1 := [arI G (t_a 1) 558 t_all_21]) (va_runS (As := [.ref (t_a 1), .int l4, .int l5, .int x_12]) (rest := []) ⟨hx, hb, hml, hown, hw⟩ ((ctX8_sets l G 558 (t_a 1) t_all_16 l4 l5 x_12 _ hc_22) _) (kS hw calX8_sets kw_17_10 rfl rfl ⟨Nat.le_of_ble_eq_true rfl, Nat.le_of_ble_eq_true rfl⟩) (wpS (hP.sub (ws' := [arI G (t_a 1) 558 t_all_16]) [1] rfl) (hD.sub (ws' := [arI G (t_a 1) 558 t_all_16]) [1] (by decide) rfl) hK) rfl rfl hl.1 rfl (lv_room (Nat.le_of_ble_eq_true rfl)) dX8_firstBy_133 ⟨Nat.zero_le _, Nat.zero_le _⟩) hS hA hP hD [1] rfl rfl (fun H locs hP hD hS => ?_)
              have hP : va_P G.1 vwCl [oX8 t_h t_a t_thrown t_taped t_at t_behind t_size t_kind t_number t_wrong t_wrongAt t_faultKind t_faultPlace t_x t_wayLong t_bothLeast, arI G (t_a 1) 558 t_all_21, arI G (t_a 29) 12 t_echoes_18, arJ G (t_a 32) 160 t_numbers] H := hP
              have hD : va_D A [oX8 t_h t_a t_thrown t_taped t_at t_behind t_size t_kind t_number t_wrong t_wrongAt t_faultKind t_faultPlace t_x t_wayLong t_bothLeast, arI G (t_a 1) 558 t_all_21, arI G (t_a 29) 12 t_echoes_18, arJ G (t_a 32) 160 t_numbers] := hD
              refine lv_iload hx hb dX8_firstBy_136 (lv_at hl 0 rfl) ?_
              refine lv_if_eq (tgt := 150) hx hb dX8_firstBy_138 (by decide) (fun c_23 => ?_) (fun c_23 => ?_)
              · have hf := ip c_23 hf
                refine lv_iinc (v := (l5 + 1)) (lv' := [(5, .int (l5 + 1)), (7, .int r_19), (0, .ref t_h), (1, .int v1), (2, .int v2), (3, .int v3), (4, .int l4), (6, .int x_12)]) hx hb dX8_firstBy_150 hl (k := 6) rfl (by rfl) (by decide) rfl (fun ls hl => ?_)
                refine lv_goto (tgt := 20) hx hb dX8_firstBy_153 (by decide) ?_
                exact ih _ _ _ _ _ _ hP hD hS (lv_sub hl [2, 3, 4, 5, 6, 0] rfl) hf hX
              · have hf := iq c_23 hf
                refine lv_bipush (v := 20) hx hb dX8_firstBy_141 (by decide) ?_
                refine lv_iload hx hb dX8_firstBy_143 (lv_at hl 5 rfl) ?_
                refine lv_imul hx hb dX8_firstBy_145 ?_
                refine lv_iload hx hb dX8_firstBy_146 (lv_at hl 6 rfl) ?_
                refine lv_iadd hx hb dX8_firstBy_148 ?_
                exact hRet _ _ _ _ _ _ _ hf hP hS dX8_firstBy_149
            refine lv_if_eq (tgt := 111) hx hb dX8_firstBy_104 (by decide) (fun c_24 => ?_) (fun c_24 => ?_)
            · have hf := ip c_24 hf
              refine lv_iconst (v := 1) hx hb dX8_firstBy_111 (by decide) ?_
              exact J112 _ _ _ _ hP hD hS (lv_sub hl [1, 2, 3, 4, 5, 6, 0] rfl) hf
            · have hf := iq c_24 hf
              refine lv_iconst (v := 0) hx hb dX8_firstBy_107 (by decide) ?_
              refine lv_goto (tgt := 112) hx hb dX8_firstBy_108 (by decide) ?_
              exact J112 _ _ _ _ hP hD hS (lv_sub hl [1, 2, 3, 4, 5, 6, 0] rfl) hf
          refine lv_if_eq (tgt := 60) hx hb dX8_firstBy_43 (by decide) (fun c_25 => ?_) (fun c_25 => ?_)
          · have hf := ip c_25 hf
            refine lv_aload_n hx hb dX8_firstBy_60 rfl (lv_at hl 0 rfl) ?_
            refine va_get (D := G.1) (ci := 8) (v := .ref (t_a 1)) (C := RX8) (T := TX8) (N := 33) hx hb hw inW8 hown hK.1 hP 0 rfl rfl 1 (by decide) (hw _ kw_5_11) (fun _ h9 => h9) rfl dX8_firstBy_61 ?_
            refine lv_iload hx hb dX8_firstBy_64 (lv_at hl 4 rfl) ?_
            refine lv_iload hx hb dX8_firstBy_66 (lv_at hl 5 rfl) ?_
            obtain ⟨r_26, hc_27, hf⟩ := bd1_in hf
            refine rcI (va_runS (As := [.ref (t_a 1), .int l4, .int l5]) (rest := []) ⟨hx, hb, hml, hown, hw⟩ ((ctX8_refusesIn l G 558 (t_a 1) t_all l4 l5 _ hc_27) _) (kS hw calX8_refusesIn kw_16_22 rfl rfl ⟨Nat.le_of_ble_eq_true rfl, Nat.le_of_ble_eq_true rfl⟩) (rpS (hP.sub (ws' := [arI G (t_a 1) 558 t_all]) [1] rfl) hK) rfl rfl hl.1 rfl (lv_room (Nat.le_of_ble_eq_true rfl)) dX8_firstBy_68 ⟨Nat.zero_le _, Nat.zero_le _⟩) hS hA hP (fun H locs hP hS => ?_)
            refine lv_if_eq (tgt := 77) hx hb dX8_firstBy_71 (by decide) (fun c_28 => ?_) (fun c_28 => ?_)
            · have hf := ip c_28 hf
              exact J77  _ _ _ hP hD hS (lv_sub hl [0, 1, 2, 3, 4, 5] rfl) hf
            · have hf := iq c_28 hf
              refine lv_goto (tgt := 150) hx hb dX8_firstBy_74 (by decide) ?_
              refine lv_iinc (v := (l5 + 1)) (lv' := [(5, .int (l5 + 1)), (0, .ref t_h), (1, .int v1), (2, .int v2), (3, .int v3), (4, .int l4)]) hx hb dX8_firstBy_150 hl (k := 5) rfl (by rfl) (by decide) rfl (fun ls hl => ?_)
              refine lv_goto (tgt := 20) hx hb dX8_firstBy_153 (by decide) ?_
              exact ih _ _ _ _ _ _ hP hD hS (lv_sub hl [1, 2, 3, 4, 5, 0] rfl) hf hX
          · have hf := iq c_25 hf
            refine lv_aload_n hx hb dX8_firstBy_46 rfl (lv_at hl 0 rfl) ?_
            refine lv_iload hx hb dX8_firstBy_47 (lv_at hl 4 rfl) ?_
            refine lv_iload hx hb dX8_firstBy_49 (lv_at hl 5 rfl) ?_
            obtain ⟨r_29, hc_30, hf⟩ := bd1_in hf
            refine rcI (va_runV (As := [.int l4, .int l5]) (rest := []) ⟨hx, hb, hml, hown, hw⟩ ((ctX8_isTied l G t_h t_a t_thrown t_all t_taped t_at t_behind t_size t_kind t_number t_wrong t_wrongAt t_faultKind t_faultPlace t_x t_wayLong t_bothLeast l4 l5 _ hc_30) _) (kV hw calX8_isTied kw_20_16 rfl rfl ⟨Nat.le_of_ble_eq_true rfl, Nat.le_of_ble_eq_true rfl⟩) (rpV (hP.sub (ws' := [oX8 t_h t_a t_thrown t_taped t_at t_behind t_size t_kind t_number t_wrong t_wrongAt t_faultKind t_faultPlace t_x t_wayLong t_bothLeast, arI G (t_a 1) 558 t_all]) [0, 1] rfl) hK (ci := 8) (q0 := 0) rfl rfl) rfl rfl hl.1 rfl (lv_room (Nat.le_of_ble_eq_true rfl)) dX8_firstBy_51 ⟨Nat.zero_le _, Nat.zero_le _⟩) hS hA hP (fun H locs hP hS => ?_)
            refine lv_if_ne (tgt := 77) hx hb dX8_firstBy_54 (by decide) (fun c_31 => ?_) (fun c_31 => ?_)
            · have hf := iq c_31 hf
              exact J77  _ _ _ hP hD hS (lv_sub hl [0, 1, 2, 3, 4, 5] rfl) hf
            · have hf := ip c_31 hf
              refine lv_goto (tgt := 150) hx hb dX8_firstBy_57 (by decide) ?_
              refine lv_iinc (v := (l5 + 1)) (lv' := [(5, .int (l5 + 1)), (0, .ref t_h), (1, .int v1), (2, .int v2), (3, .int v3), (4, .int l4)]) hx hb dX8_firstBy_150 hl (k := 5) rfl (by rfl) (by decide) rfl (fun ls hl => ?_)
              refine lv_goto (tgt := 20) hx hb dX8_firstBy_153 (by decide) ?_
              exact ih _ _ _ _ _ _ hP hD hS (lv_sub hl [1, 2, 3, 4, 5, 0] rfl) hf hX
  have L3 : ∀  (K : (Nat → Int32) → (Nat → Int32) → Option (Int32 × (Nat → Int32) × (Nat → Int32))) (n : Nat) (l4 : Int32) (t_all : Nat → Int32) (t_echoes : Nat → Int32) (H : Heap) (locs : List Loc) (ls : Array Slot), va_P G.1 vwCl [oX8 t_h t_a t_thrown t_taped t_at t_behind t_size t_kind t_number t_wrong t_wrongAt t_faultKind t_faultPlace t_x t_wayLong t_bothLeast, arI G (t_a 1) 558 t_all, arI G (t_a 29) 12 t_echoes, arJ G (t_a 32) 160 t_numbers] H → va_D A [oX8 t_h t_a t_thrown t_taped t_at t_behind t_size t_kind t_number t_wrong t_wrongAt t_faultKind t_faultPlace t_x t_wayLong t_bothLeast, arI G (t_a 1) 558 t_all, arI G (t_a 29) 12 t_echoes, arJ G (t_a 32) 160 t_numbers] → va_S A s.heap H locs → lv_has ls 8 [(0, .ref t_h), (1, .int v1), (2, .int v2), (3, .int v3), (4, .int l4)] → fX8_firstBy_3 v1 v2 v3 t_numbers K n l4 t_all t_echoes = some (r, o_t_all, o_t_echoes) → (∀ (kt_all : Nat → Int32) (kt_echoes : Nat → Int32) (H : Heap) (locs : List Loc) (ls : Array Slot), va_P G.1 vwCl [oX8 t_h t_a t_thrown t_taped t_at t_behind t_size t_kind t_number t_wrong t_wrongAt t_faultKind t_faultPlace t_x t_wayLong t_bothLeast, arI G (t_a 1) 558 kt_all, arI G (t_a 29) 12 kt_echoes, arJ G (t_a 32) 160 t_numbers] H → va_D A [oX8 t_h t_a t_thrown t_taped t_at t_behind t_size t_kind t_number t_wrong t_wrongAt t_faultKind t_faultPlace t_x t_wayLong t_bothLeast, arI G (t_a 1) 558 kt_all, arI G (t_a 29) 12 kt_echoes, arJ G (t_a 32) 160 t_numbers] → va_S A s.heap H locs → lv_has ls 8 [] → K kt_all kt_echoes = some (r, o_t_all, o_t_echoes) → W p l e ({ frames := 7, cells := 0, slots := 0, locals := 165 } : Room) s m args below meth c H locs 0 0 Q (F0 m 162 ls [])) → W p l e ({ frames := 7, cells := 0, slots := 0, locals := 165 } : Room) s m args below meth c H locs 0 0 Q (F0 m 3 ls []) := by
    intro  K n
    induction n with
    | zero => intro l4 t_all t_echoes H locs ls hP hD hS hl hf; rw [fX8_firstBy_3] at hf; cases hf
    | succ n ih =>
      intro l4 t_all t_echoes H locs ls hP hD hS hl hf hX
      rw [fX8_firstBy_3] at hf
      refine lv_iload hx hb dX8_firstBy_3 (lv_at hl 4 rfl) ?_
      refine lv_aload_n hx hb dX8_firstBy_5 rfl (lv_at hl 0 rfl) ?_
      refine va_get (D := G.1) (ci := 8) (v := .ref (t_a 1)) (C := RX8) (T := TX8) (N := 33) hx hb hw inW8 hown hK.1 hP 0 rfl rfl 1 (by decide) (hw _ kw_5_11) (fun _ h9 => h9) rfl dX8_firstBy_6 ?_
      refine lv_iconst (v := 0) hx hb dX8_firstBy_9 (by decide) ?_
      obtain ⟨hi_2, hf⟩ := rdI_in hf
      refine va_iald hx hb hK.1 hP 1 0 rfl rfl hi_2 dX8_firstBy_10 ?_
      refine lv_topi (fun x_1 ex_1 => ?_)
      have hf := hf x_1 ex_1
      refine lv_icmp_ge (tgt := 162) hx hb dX8_firstBy_11 (by decide) (fun c_3 => ?_) (fun c_3 => ?_)
      · have hf := ip c_3 hf
        exact hX _ _ _ _ _ hP hD hS (lv_sub hl [] rfl) hf
      · have hf := iq c_3 hf
        refine lv_iload hx hb dX8_firstBy_14 (lv_at hl 4 rfl) ?_
        refine lv_iconst (v := 1) hx hb dX8_firstBy_16 (by decide) ?_
        refine lv_iadd hx hb dX8_firstBy_17 ?_
        refine lv_topi (fun y_4 ey_4 => ?_)
        have hf := bnd_all hf y_4 ey_4
        refine lv_istore (lv' := [(5, .int y_4), (0, .ref t_h), (1, .int v1), (2, .int v2), (3, .int v3), (4, .int l4)]) hx hb dX8_firstBy_18 hl (by decide) rfl (fun ls hl => ?_)
        refine L20 _ _ _ _ _ _ _ _ _ hP hD hS (lv_sub hl [1, 2, 3, 4, 5, 0] rfl) hf (fun t_all_32 t_echoes_33 H locs ls hP hD hS hl hf => ?_)
        refine lv_iinc (v := (l4 + 1)) (lv' := [(4, .int (l4 + 1)), (0, .ref t_h), (1, .int v1), (2, .int v2), (3, .int v3)]) hx hb dX8_firstBy_156 hl (k := 4) rfl (by rfl) (by decide) rfl (fun ls hl => ?_)
        refine lv_goto (tgt := 3) hx hb dX8_firstBy_159 (by decide) ?_
        exact ih _ _ _ _ _ _ hP hD hS (lv_sub hl [1, 2, 3, 4, 0] rfl) hf hX
  unfold fX8_firstBy at hf
  refine lv_iconst (v := 0) hx hb dX8_firstBy_0 (by decide) ?_
  refine lv_istore (lv' := [(4, .int 0), (0, .ref t_h), (1, .int v1), (2, .int v2), (3, .int v3)]) hx hb dX8_firstBy_1 hl (by decide) rfl (fun ls hl => ?_)
  refine L3  _ _ _ _ _ _ _ _ hP hD hS (lv_sub hl [1, 2, 3, 4, 0] rfl) hf (fun t_all_34 t_echoes_35 H locs ls hP hD hS hl hf => ?_)
  refine lv_iconst (v := (-1)) hx hb dX8_firstBy_162 (by decide) ?_
  exact hRet _ _ _ _ _ _ _ hf hP hS dX8_firstBy_163
theorem calX8_explained : CalV yX8_explained cX8_explained 6 (some .int) 3 := ⟨⟨kw_46_15, kw_1_5, by decide +kernel⟩, kw_46_13, kw_46_14⟩
set_option maxHeartbeats 8000000 in
set_option maxRecDepth 100000 in
theorem ctX8_explained (l : Launch) (G : GT) (t_h : Nat) (t_a : Nat → Nat) (t_thrown : Int32) (t_all : Nat → Int32) (t_taped : Int32) (t_at : Int32) (t_behind : Int32) (t_size : Int32) (t_kind : Int32) (t_number : Int32) (t_wrong : Int32) (t_wrongAt : Int32) (t_faultKind : Int32) (t_faultPlace : Int32) (t_x : Int32) (t_wayLong : Int32) (t_bothLeast : Int32) (t_echoes : Nat → Int32) (t_rowSort : Nat → Int32) (t_rowMany : Nat → Int32) (t_numbers : Nat → Int64) (v1 : Int32) (v2 : Int32) (v3 : Int32) (r : Int32) (o_t_thrown : Int32) (o_t_all : Nat → Int32) (o_t_echoes : Nat → Int32) (hf : fX8_explained t_thrown t_all t_echoes t_rowSort t_rowMany t_numbers v1 v2 v3 = some (r, o_t_thrown, o_t_all, o_t_echoes)) : WrI l yX8_explained (Cond.code yX8_explained cX8_explained 6 (some .int)) { frames := 8, cells := 0, slots := 0, locals := 192 } G [.ref t_h, .int v1, .int v2, .int v3] [oX8 t_h t_a t_thrown t_taped t_at t_behind t_size t_kind t_number t_wrong t_wrongAt t_faultKind t_faultPlace t_x t_wayLong t_bothLeast, arI G (t_a 1) 558 t_all, arI G (t_a 29) 12 t_echoes, arI G (t_a 30) 4 t_rowSort, arI G (t_a 31) 4 t_rowMany, arJ G (t_a 32) 160 t_numbers] [oX8 t_h t_a o_t_thrown t_taped t_at t_behind t_size t_kind t_number t_wrong t_wrongAt t_faultKind t_faultPlace t_x t_wayLong t_bothLeast, arI G (t_a 1) 558 o_t_all, arI G (t_a 29) 12 o_t_echoes, arI G (t_a 30) 4 t_rowSort, arI G (t_a 31) 4 t_rowMany, arJ G (t_a 32) 160 t_numbers] r := by
  intro sz
  refine Met.ofW (cc := cX8_explained) (maxL := 6) (ret := (some .int)) (by decide) rfl ?_
  intro p e s m args below meth c s₁ B hml hv
  obtain ⟨hargs, hsz, hP, hD0, hK⟩ := hv
  subst hsz
  obtain ⟨hx, hb, hr, hw, hown, hlk⟩ := fwB B
  refine fw_enter hargs (Nat.le_of_ble_eq_true rfl) (fun ls hl => ?_)
  have hl : lv_has ls 6 [(0, .ref t_h), (1, .int v1), (2, .int v2), (3, .int v3)] := hl
  refine fw_Q (P := fun Q => ∃ A : Nat → Prop, va_D A [oX8 t_h t_a t_thrown t_taped t_at t_behind t_size t_kind t_number t_wrong t_wrongAt t_faultKind t_faultPlace t_x t_wayLong t_bothLeast, arI G (t_a 1) 558 t_all, arI G (t_a 29) 12 t_echoes, arI G (t_a 30) 4 t_rowSort, arI G (t_a 31) 4 t_rowMany, arJ G (t_a 32) 160 t_numbers] ∧ va_S A s.heap s.heap [] ∧ (∀ q, s.heap.size ≤ q → A q) ∧ ∀ (v : Int32) (n_t_thrown : Int32) (n_t_all : Nat → Int32) (n_t_echoes : Nat → Int32) (H : Heap) (locs : List Loc) (pc : Nat) (ls : Array Slot), some (v, n_t_thrown, n_t_all, n_t_echoes) = some (r, o_t_thrown, o_t_all, o_t_echoes) → va_P G.1 vwCl [oX8 t_h t_a n_t_thrown t_taped t_at t_behind t_size t_kind t_number t_wrong t_wrongAt t_faultKind t_faultPlace t_x t_wayLong t_bothLeast, arI G (t_a 1) 558 n_t_all, arI G (t_a 29) 12 n_t_echoes, arI G (t_a 30) 4 t_rowSort, arI G (t_a 31) 4 t_rowMany, arJ G (t_a 32) 160 t_numbers] H → va_S A s.heap H locs → decode cX8_explained pc = .ok (.ireturn, 1) → W p l e ({ frames := 8, cells := 0, slots := 0, locals := 192 } : Room) s m args below meth c H locs 0 0 Q (F0 m pc ls [.int v])) ⟨va_A [oX8 t_h t_a t_thrown t_taped t_at t_behind t_size t_kind t_number t_wrong t_wrongAt t_faultKind t_faultPlace t_x t_wayLong t_bothLeast, arI G (t_a 1) 558 t_all, arI G (t_a 29) 12 t_echoes, arI G (t_a 30) 4 t_rowSort, arI G (t_a 31) 4 t_rowMany, arJ G (t_a 32) 160 t_numbers] s.heap.size, hD0.self (sz := s.heap.size), va_S.rf, fun q h => Or.inr h, ?_⟩ ?_
  · intro v n_t_thrown n_t_all n_t_echoes H locs pc ls h hP hS hd
    cases h
    exact retWI hx hb hr hlk hS hP rfl hd
  rintro Q ⟨A, hD, hS, hA, hRet⟩
  change W p l e ({ frames := 8, cells := 0, slots := 0, locals := 192 } : Room) s m args below meth c _ _ 0 0 Q _
  unfold fX8_explained at hf
  refine lv_aload_n hx hb dX8_explained_0 rfl (lv_at hl 0 rfl) ?_
  refine lv_iconst (v := 0) hx hb dX8_explained_1 (by decide) ?_
  refine va_put (D := G.1) (ci := 8) (v := .int 0) (ty := .int) (C := RX8) (T := TX8) (N := 33) hx hb hw inW8 tyX8 tyX8_ok nmX8 hown hK.1 hP hD hS 0 rfl rfl 0 (by decide) (hw _ kw_6_21) (fun _ h9 => h9) rfl (by decide +kernel) rfl rfl (Nat.le_of_ble_eq_true rfl) dX8_explained_2 (fun H locs hP hD hS => ?_)
  have hP : va_P G.1 vwCl [oX8 t_h t_a 0 t_taped t_at t_behind t_size t_kind t_number t_wrong t_wrongAt t_faultKind t_faultPlace t_x t_wayLong t_bothLeast, arI G (t_a 1) 558 t_all, arI G (t_a 29) 12 t_echoes, arI G (t_a 30) 4 t_rowSort, arI G (t_a 31) 4 t_rowMany, arJ G (t_a 32) 160 t_numbers] H := hP
  have hD : va_D A [oX8 t_h t_a 0 t_taped t_at t_behind t_size t_kind t_number t_wrong t_wrongAt t_faultKind t_faultPlace t_x t_wayLong t_bothLeast, arI G (t_a 1) 558 t_all, arI G (t_a 29) 12 t_echoes, arI G (t_a 30) 4 t_rowSort, arI G (t_a 31) 4 t_rowMany, arJ G (t_a 32) 160 t_numbers] := hD
  refine lv_aload_n hx hb dX8_explained_5 rfl (lv_at hl 0 rfl) ?_
  refine lv_iload_n hx hb dX8_explained_6 rfl (lv_at hl 1 rfl) ?_
  refine lv_i2l hx hb dX8_explained_7 rfl ?_
  obtain ⟨r_1, hc_2, hf⟩ := bd1_in hf
  refine rcI (va_runV (As := [.long (Int32.toInt64 v1)]) (rest := []) ⟨hx, hb, hml, hown, hw⟩ ((ctX8_isWindow l G t_h t_a 0 t_all t_taped t_at t_behind t_size t_kind t_number t_wrong t_wrongAt t_faultKind t_faultPlace t_x t_wayLong t_bothLeast (Int32.toInt64 v1) _ hc_2) _) (kV hw calX8_isWindow kw_20_4 rfl rfl ⟨Nat.le_of_ble_eq_true rfl, Nat.le_of_ble_eq_true rfl⟩) (rpV (hP.sub (ws' := [oX8 t_h t_a 0 t_taped t_at t_behind t_size t_kind t_number t_wrong t_wrongAt t_faultKind t_faultPlace t_x t_wayLong t_bothLeast, arI G (t_a 1) 558 t_all]) [0, 1] rfl) hK (ci := 8) (q0 := 0) rfl rfl) rfl rfl hl.1 rfl (lv_room (Nat.le_of_ble_eq_true rfl)) dX8_explained_8 ⟨Nat.zero_le _, Nat.zero_le _⟩) hS hA hP (fun H locs hP hS => ?_)
  refine lv_if_eq (tgt := 36) hx hb dX8_explained_11 (by decide) (fun c_3 => ?_) (fun c_3 => ?_)
  · have hf := ip c_3 hf
    refine lv_bipush (v := (-2)) hx hb dX8_explained_36 (by decide) ?_
    exact hRet _ _ _ _ _ _ _ _ hf hP hS dX8_explained_38
  · have hf := iq c_3 hf
    refine lv_iload_n hx hb dX8_explained_14 rfl (lv_at hl 2 rfl) ?_
    refine lv_i2l hx hb dX8_explained_15 rfl ?_
    refine lv_lconst (v := 0) hx hb dX8_explained_16 (by decide) ?_
    refine lv_ldc2 hx hb hown (hw _ kw_20_3) dX8_explained_17 ?_
    obtain ⟨r_4, hc_5, hf⟩ := bd1_in hf
    refine rcI (va_runS (As := [.long (Int32.toInt64 v2), .long 0, .long 3]) (rest := []) ⟨hx, hb, hml, hown, hw⟩ ((ctX8_within l G (Int32.toInt64 v2) 0 3 _ hc_5) _) (kS hw calX8_within kw_14_2 rfl rfl ⟨Nat.le_of_ble_eq_true rfl, Nat.le_of_ble_eq_true rfl⟩) (rpS (hP.sub (ws' := []) [] rfl) hK) rfl rfl hl.1 rfl (lv_room (Nat.le_of_ble_eq_true rfl)) dX8_explained_20 ⟨Nat.zero_le _, Nat.zero_le _⟩) hS hA hP (fun H locs hP hS => ?_)
    refine lv_if_eq (tgt := 36) hx hb dX8_explained_23 (by decide) (fun c_6 => ?_) (fun c_6 => ?_)
    · have hf := ip c_6 hf
      refine lv_bipush (v := (-2)) hx hb dX8_explained_36 (by decide) ?_
      exact hRet _ _ _ _ _ _ _ _ hf hP hS dX8_explained_38
    · have hf := iq c_6 hf
      refine lv_iload_n hx hb dX8_explained_26 rfl (lv_at hl 3 rfl) ?_
      refine lv_i2l hx hb dX8_explained_27 rfl ?_
      refine lv_lconst (v := 0) hx hb dX8_explained_28 (by decide) ?_
      refine lv_lconst (v := 1) hx hb dX8_explained_29 (by decide) ?_
      obtain ⟨r_7, hc_8, hf⟩ := bd1_in hf
      refine rcI (va_runS (As := [.long (Int32.toInt64 v3), .long 0, .long 1]) (rest := []) ⟨hx, hb, hml, hown, hw⟩ ((ctX8_within l G (Int32.toInt64 v3) 0 1 _ hc_8) _) (kS hw calX8_within kw_14_2 rfl rfl ⟨Nat.le_of_ble_eq_true rfl, Nat.le_of_ble_eq_true rfl⟩) (rpS (hP.sub (ws' := []) [] rfl) hK) rfl rfl hl.1 rfl (lv_room (Nat.le_of_ble_eq_true rfl)) dX8_explained_30 ⟨Nat.zero_le _, Nat.zero_le _⟩) hS hA hP (fun H locs hP hS => ?_)
      refine lv_if_ne (tgt := 39) hx hb dX8_explained_33 (by decide) (fun c_9 => ?_) (fun c_9 => ?_)
      · have hf := iq c_9 hf
        refine lv_aload_n hx hb dX8_explained_39 rfl (lv_at hl 0 rfl) ?_
        refine va_get (D := G.1) (ci := 8) (v := .ref (t_a 30)) (C := RX8) (T := TX8) (N := 33) hx hb hw inW8 hown hK.1 hP 0 rfl rfl 30 (by decide) (hw _ kw_6_5) (fun _ h9 => h9) rfl dX8_explained_40 ?_
        refine lv_iload_n hx hb dX8_explained_43 rfl (lv_at hl 2 rfl) ?_
        obtain ⟨hi_11, hf⟩ := rdI_in hf
        refine va_iald hx hb hK.1 hP 3 0 rfl rfl hi_11 dX8_explained_44 ?_
        refine lv_topi (fun x_10 ex_10 => ?_)
        have hf := hf x_10 ex_10
        refine lv_iconst (v := (-1)) hx hb dX8_explained_45 (by decide) ?_
        refine lv_icmp_ne (tgt := 52) hx hb dX8_explained_46 (by decide) (fun c_12 => ?_) (fun c_12 => ?_)
        · have hf := iq c_12 hf
          refine lv_aload_n hx hb dX8_explained_52 rfl (lv_at hl 0 rfl) ?_
          refine va_get (D := G.1) (ci := 8) (v := .ref (t_a 31)) (C := RX8) (T := TX8) (N := 33) hx hb hw inW8 hown hK.1 hP 0 rfl rfl 31 (by decide) (hw _ kw_6_6) (fun _ h9 => h9) rfl dX8_explained_53 ?_
          refine lv_iload_n hx hb dX8_explained_56 rfl (lv_at hl 2 rfl) ?_
          obtain ⟨hi_14, hf⟩ := rdI_in hf
          refine va_iald hx hb hK.1 hP 4 0 rfl rfl hi_14 dX8_explained_57 ?_
          refine lv_topi (fun x_13 ex_13 => ?_)
          have hf := hf x_13 ex_13
          refine lv_aload_n hx hb dX8_explained_58 rfl (lv_at hl 0 rfl) ?_
          refine va_get (D := G.1) (ci := 8) (v := .ref (t_a 1)) (C := RX8) (T := TX8) (N := 33) hx hb hw inW8 hown hK.1 hP 0 rfl rfl 1 (by decide) (hw _ kw_5_11) (fun _ h9 => h9) rfl dX8_explained_59 ?_
          refine lv_iconst (v := 0) hx hb dX8_explained_62 (by decide) ?_
          obtain ⟨hi_16, hf⟩ := rdI_in hf
          refine va_iald hx hb hK.1 hP 1 0 rfl rfl hi_16 dX8_explained_63 ?_
          refine lv_topi (fun x_15 ex_15 => ?_)
          have hf := hf x_15 ex_15
          refine lv_icmp_eq (tgt := 70) hx hb dX8_explained_64 (by decide) (fun c_17 => ?_) (fun c_17 => ?_)
          · have hf := ip c_17 hf
            refine lv_aload_n hx hb dX8_explained_70 rfl (lv_at hl 0 rfl) ?_
            refine lv_iload_n hx hb dX8_explained_71 rfl (lv_at hl 1 rfl) ?_
            refine lv_iload_n hx hb dX8_explained_72 rfl (lv_at hl 2 rfl) ?_
            obtain ⟨r_19, t_echoes_18, hc_20, hf⟩ := bd2_in hf
            refine wcI (w1 := [oX8 t_h t_a 0 t_taped t_at t_behind t_size t_kind t_number t_wrong t_wrongAt t_faultKind t_faultPlace t_x t_wayLong t_bothLeast, arI G (t_a 1) 558 t_all, arI G (t_a 29) 12 t_echoes_18, arJ G (t_a 32) 160 t_numbers]) (va_runV (As := [.int v1, .int v2]) (rest := []) ⟨hx, hb, hml, hown, hw⟩ ((ctX8_isAsTold l G t_h t_a 0 t_all t_taped t_at t_behind t_size t_kind t_number t_wrong t_wrongAt t_faultKind t_faultPlace t_x t_wayLong t_bothLeast t_echoes t_numbers v1 v2 _ _ hc_20) _) (kV hw calX8_isAsTold kw_46_16 rfl rfl ⟨Nat.le_of_ble_eq_true rfl, Nat.le_of_ble_eq_true rfl⟩) (wpV (hP.sub (ws' := [oX8 t_h t_a 0 t_taped t_at t_behind t_size t_kind t_number t_wrong t_wrongAt t_faultKind t_faultPlace t_x t_wayLong t_bothLeast, arI G (t_a 1) 558 t_all, arI G (t_a 29) 12 t_echoes, arJ G (t_a 32) 160 t_numbers]) [0, 1, 2, 5] rfl) (hD.sub (ws' := [oX8 t_h t_a 0 t_taped t_at t_behind t_size t_kind t_number t_wrong t_wrongAt t_faultKind t_faultPlace t_x t_wayLong t_bothLeast, arI G (t_a 1) 558 t_all, arI G (t_a 29) 12 t_echoes, arJ G (t_a 32) 160 t_numbers]) [0, 1, 2, 5] (by decide) rfl) hK (ci := 8) (q0 := 0) rfl rfl) rfl rfl hl.1 rfl (lv_room (Nat.le_of_ble_eq_true rfl)) dX8_explained_73 ⟨Nat.zero_le _, Nat.zero_le _⟩) hS hA hP hD [0, 1, 2, 5] rfl rfl (fun H locs hP hD hS => ?_)
            have hP : va_P G.1 vwCl [oX8 t_h t_a 0 t_taped t_at t_behind t_size t_kind t_number t_wrong t_wrongAt t_faultKind t_faultPlace t_x t_wayLong t_bothLeast, arI G (t_a 1) 558 t_all, arI G (t_a 29) 12 t_echoes_18, arI G (t_a 30) 4 t_rowSort, arI G (t_a 31) 4 t_rowMany, arJ G (t_a 32) 160 t_numbers] H := hP
            have hD : va_D A [oX8 t_h t_a 0 t_taped t_at t_behind t_size t_kind t_number t_wrong t_wrongAt t_faultKind t_faultPlace t_x t_wayLong t_bothLeast, arI G (t_a 1) 558 t_all, arI G (t_a 29) 12 t_echoes_18, arI G (t_a 30) 4 t_rowSort, arI G (t_a 31) 4 t_rowMany, arJ G (t_a 32) 160 t_numbers] := hD
            refine lv_if_eq (tgt := 89) hx hb dX8_explained_76 (by decide) (fun c_21 => ?_) (fun c_21 => ?_)
            · have hf := ip c_21 hf
              refine lv_aload_n hx hb dX8_explained_89 rfl (lv_at hl 0 rfl) ?_
              refine lv_iload_n hx hb dX8_explained_90 rfl (lv_at hl 1 rfl) ?_
              refine lv_iload_n hx hb dX8_explained_91 rfl (lv_at hl 2 rfl) ?_
              refine lv_iconst (v := 1) hx hb dX8_explained_92 (by decide) ?_
              obtain ⟨r_24, t_all_22, t_echoes_23, hc_25, hf⟩ := bd3_in hf
              refine wcI (w1 := [oX8 t_h t_a 0 t_taped t_at t_behind t_size t_kind t_number t_wrong t_wrongAt t_faultKind t_faultPlace t_x t_wayLong t_bothLeast, arI G (t_a 1) 558 t_all_22, arI G (t_a 29) 12 t_echoes_23, arJ G (t_a 32) 160 t_numbers]) (va_runV (As := [.int v1, .int v2, .int 1]) (rest := []) ⟨hx, hb, hml, hown, hw⟩ ((ctX8_firstBy l G t_h t_a 0 t_all t_taped t_at t_behind t_size t_kind t_number t_wrong t_wrongAt t_faultKind t_faultPlace t_x t_wayLong t_bothLeast t_echoes_18 t_numbers v1 v2 1 _ _ _ hc_25) _) (kV hw calX8_firstBy kw_46_20 rfl rfl ⟨Nat.le_of_ble_eq_true rfl, Nat.le_of_ble_eq_true rfl⟩) (wpV (hP.sub (ws' := [oX8 t_h t_a 0 t_taped t_at t_behind t_size t_kind t_number t_wrong t_wrongAt t_faultKind t_faultPlace t_x t_wayLong t_bothLeast, arI G (t_a 1) 558 t_all, arI G (t_a 29) 12 t_echoes_18, arJ G (t_a 32) 160 t_numbers]) [0, 1, 2, 5] rfl) (hD.sub (ws' := [oX8 t_h t_a 0 t_taped t_at t_behind t_size t_kind t_number t_wrong t_wrongAt t_faultKind t_faultPlace t_x t_wayLong t_bothLeast, arI G (t_a 1) 558 t_all, arI G (t_a 29) 12 t_echoes_18, arJ G (t_a 32) 160 t_numbers]) [0, 1, 2, 5] (by decide) rfl) hK (ci := 8) (q0 := 0) rfl rfl) rfl rfl hl.1 rfl (lv_room (Nat.le_of_ble_eq_true rfl)) dX8_explained_93 ⟨Nat.zero_le _, Nat.zero_le _⟩) hS hA hP hD [0, 1, 2, 5] rfl rfl (fun H locs hP hD hS => ?_)
              have hP : va_P G.1 vwCl [oX8 t_h t_a 0 t_taped t_at t_behind t_size t_kind t_number t_wrong t_wrongAt t_faultKind t_faultPlace t_x t_wayLong t_bothLeast, arI G (t_a 1) 558 t_all_22, arI G (t_a 29) 12 t_echoes_23, arI G (t_a 30) 4 t_rowSort, arI G (t_a 31) 4 t_rowMany, arJ G (t_a 32) 160 t_numbers] H := hP
              have hD : va_D A [oX8 t_h t_a 0 t_taped t_at t_behind t_size t_kind t_number t_wrong t_wrongAt t_faultKind t_faultPlace t_x t_wayLong t_bothLeast, arI G (t_a 1) 558 t_all_22, arI G (t_a 29) 12 t_echoes_23, arI G (t_a 30) 4 t_rowSort, arI G (t_a 31) 4 t_rowMany, arJ G (t_a 32) 160 t_numbers] := hD
              refine lv_istore (lv' := [(4, .int r_24), (0, .ref t_h), (1, .int v1), (2, .int v2), (3, .int v3)]) hx hb dX8_explained_96 hl (by decide) rfl (fun ls hl => ?_)
              refine lv_iload hx hb dX8_explained_98 (lv_at hl 0 rfl) ?_
              refine lv_iconst (v := (-1)) hx hb dX8_explained_100 (by decide) ?_
              refine lv_icmp_eq (tgt := 115) hx hb dX8_explained_101 (by decide) (fun c_26 => ?_) (fun c_26 => ?_)
              · have hf := ip c_26 hf
                refine lv_aload_n hx hb dX8_explained_115 rfl (lv_at hl 1 rfl) ?_
                refine lv_iload_n hx hb dX8_explained_116 rfl (lv_at hl 2 rfl) ?_
                refine lv_iload_n hx hb dX8_explained_117 rfl (lv_at hl 3 rfl) ?_
                refine lv_iconst (v := 0) hx hb dX8_explained_118 (by decide) ?_
                obtain ⟨r_29, t_all_27, t_echoes_28, hc_30, hf⟩ := bd3_in hf
                refine wcI (w1 := [oX8 t_h t_a 0 t_taped t_at t_behind t_size t_kind t_number t_wrong t_wrongAt t_faultKind t_faultPlace t_x t_wayLong t_bothLeast, arI G (t_a 1) 558 t_all_27, arI G (t_a 29) 12 t_echoes_28, arJ G (t_a 32) 160 t_numbers]) (va_runV (As := [.int v1, .int v2, .int 0]) (rest := []) ⟨hx, hb, hml, hown, hw⟩ ((ctX8_firstBy l G t_h t_a 0 t_all_22 t_taped t_at t_behind t_size t_kind t_number t_wrong t_wrongAt t_faultKind t_faultPlace t_x t_wayLong t_bothLeast t_echoes_23 t_numbers v1 v2 0 _ _ _ hc_30) _) (kV hw calX8_firstBy kw_46_20 rfl rfl ⟨Nat.le_of_ble_eq_true rfl, Nat.le_of_ble_eq_true rfl⟩) (wpV (hP.sub (ws' := [oX8 t_h t_a 0 t_taped t_at t_behind t_size t_kind t_number t_wrong t_wrongAt t_faultKind t_faultPlace t_x t_wayLong t_bothLeast, arI G (t_a 1) 558 t_all_22, arI G (t_a 29) 12 t_echoes_23, arJ G (t_a 32) 160 t_numbers]) [0, 1, 2, 5] rfl) (hD.sub (ws' := [oX8 t_h t_a 0 t_taped t_at t_behind t_size t_kind t_number t_wrong t_wrongAt t_faultKind t_faultPlace t_x t_wayLong t_bothLeast, arI G (t_a 1) 558 t_all_22, arI G (t_a 29) 12 t_echoes_23, arJ G (t_a 32) 160 t_numbers]) [0, 1, 2, 5] (by decide) rfl) hK (ci := 8) (q0 := 0) rfl rfl) rfl rfl hl.1 rfl (lv_room (Nat.le_of_ble_eq_true rfl)) dX8_explained_119 ⟨Nat.zero_le _, Nat.zero_le _⟩) hS hA hP hD [0, 1, 2, 5] rfl rfl (fun H locs hP hD hS => ?_)
                have hP : va_P G.1 vwCl [oX8 t_h t_a 0 t_taped t_at t_behind t_size t_kind t_number t_wrong t_wrongAt t_faultKind t_faultPlace t_x t_wayLong t_bothLeast, arI G (t_a 1) 558 t_all_27, arI G (t_a 29) 12 t_echoes_28, arI G (t_a 30) 4 t_rowSort, arI G (t_a 31) 4 t_rowMany, arJ G (t_a 32) 160 t_numbers] H := hP
                have hD : va_D A [oX8 t_h t_a 0 t_taped t_at t_behind t_size t_kind t_number t_wrong t_wrongAt t_faultKind t_faultPlace t_x t_wayLong t_bothLeast, arI G (t_a 1) 558 t_all_27, arI G (t_a 29) 12 t_echoes_28, arI G (t_a 30) 4 t_rowSort, arI G (t_a 31) 4 t_rowMany, arJ G (t_a 32) 160 t_numbers] := hD
                refine lv_istore (lv' := [(5, .int r_29), (4, .int r_24), (0, .ref t_h), (1, .int v1), (2, .int v2), (3, .int v3)]) hx hb dX8_explained_122 hl (by decide) rfl (fun ls hl => ?_)
                refine lv_iload_n hx hb dX8_explained_124 rfl (lv_at hl 5 rfl) ?_
                refine lv_iconst (v := 1) hx hb dX8_explained_125 (by decide) ?_
                refine lv_icmp_ne (tgt := 134) hx hb dX8_explained_126 (by decide) (fun c_31 => ?_) (fun c_31 => ?_)
                · have hf := iq c_31 hf
                  refine lv_iload hx hb dX8_explained_134 (lv_at hl 0 rfl) ?_
                  refine lv_iconst (v := (-1)) hx hb dX8_explained_136 (by decide) ?_
                  refine lv_icmp_ne (tgt := 144) hx hb dX8_explained_137 (by decide) (fun c_32 => ?_) (fun c_32 => ?_)
                  · have hf := iq c_32 hf
                    refine lv_iconst (v := 2) hx hb dX8_explained_144 (by decide) ?_
                    exact hRet _ _ _ _ _ _ _ _ hf hP hS dX8_explained_145
                  · have hf := ip c_32 hf
                    refine lv_iconst (v := 3) hx hb dX8_explained_140 (by decide) ?_
                    refine lv_goto (tgt := 145) hx hb dX8_explained_141 (by decide) ?_
                    exact hRet _ _ _ _ _ _ _ _ hf hP hS dX8_explained_145
                · have hf := ip c_31 hf
                  refine lv_iload hx hb dX8_explained_129 (lv_at hl 0 rfl) ?_
                  refine lv_goto (tgt := 145) hx hb dX8_explained_131 (by decide) ?_
                  exact hRet _ _ _ _ _ _ _ _ hf hP hS dX8_explained_145
              · have hf := iq c_26 hf
                refine lv_iload_n hx hb dX8_explained_104 rfl (lv_at hl 4 rfl) ?_
                refine lv_if_ne (tgt := 112) hx hb dX8_explained_105 (by decide) (fun c_33 => ?_) (fun c_33 => ?_)
                · have hf := iq c_33 hf
                  refine lv_iload hx hb dX8_explained_112 (lv_at hl 0 rfl) ?_
                  exact hRet _ _ _ _ _ _ _ _ hf hP hS dX8_explained_114
                · have hf := ip c_33 hf
                  refine lv_iconst (v := 1) hx hb dX8_explained_108 (by decide) ?_
                  refine lv_goto (tgt := 114) hx hb dX8_explained_109 (by decide) ?_
                  exact hRet _ _ _ _ _ _ _ _ hf hP hS dX8_explained_114
            · have hf := iq c_21 hf
              refine lv_iload_n hx hb dX8_explained_79 rfl (lv_at hl 3 rfl) ?_
              refine lv_if_ne (tgt := 87) hx hb dX8_explained_80 (by decide) (fun c_34 => ?_) (fun c_34 => ?_)
              · have hf := iq c_34 hf
                refine lv_iconst (v := (-1)) hx hb dX8_explained_87 (by decide) ?_
                exact hRet _ _ _ _ _ _ _ _ hf hP hS dX8_explained_88
              · have hf := ip c_34 hf
                refine lv_iconst (v := 0) hx hb dX8_explained_83 (by decide) ?_
                refine lv_goto (tgt := 88) hx hb dX8_explained_84 (by decide) ?_
                exact hRet _ _ _ _ _ _ _ _ hf hP hS dX8_explained_88
          · have hf := iq c_17 hf
            refine lv_bipush (v := (-7)) hx hb dX8_explained_67 (by decide) ?_
            exact hRet _ _ _ _ _ _ _ _ hf hP hS dX8_explained_69
        · have hf := ip c_12 hf
          refine lv_bipush (v := (-6)) hx hb dX8_explained_49 (by decide) ?_
          exact hRet _ _ _ _ _ _ _ _ hf hP hS dX8_explained_51
      · have hf := ip c_9 hf
        refine lv_bipush (v := (-2)) hx hb dX8_explained_36 (by decide) ?_
        exact hRet _ _ _ _ _ _ _ _ hf hP hS dX8_explained_38
theorem calX8_cutTo : CalS yX8_cutTo cX8_cutTo 3 (some .long) 2 := ⟨⟨kw_48_16, kw_1_5, by decide +kernel⟩, kw_48_15⟩
set_option maxHeartbeats 8000000 in
set_option maxRecDepth 100000 in
theorem ctX8_cutTo (l : Launch) (G : GT) (v0 : Int64) (v2 : Int32) (r : Int64) (hf : fX8_cutTo v0 v2 = some r) : RdL l yX8_cutTo (Cond.code yX8_cutTo cX8_cutTo 3 (some .long)) { frames := 0, cells := 0, slots := 0, locals := 0 } G [.long v0, .int v2] [] r := by
  intro sz
  refine Met.ofW (cc := cX8_cutTo) (maxL := 3) (ret := (some .long)) (by decide) rfl ?_
  intro p e s m args below meth c s₁ B hml hv
  obtain ⟨hargs, hsz, hP, hK⟩ := hv
  subst hsz
  obtain ⟨hx, hb, hr, hw, hown, hlk⟩ := fwB B
  refine fw_enter hargs (Nat.le_of_ble_eq_true rfl) (fun ls hl => ?_)
  have hl : lv_has ls 3 [(0, .long v0), (2, .int v2)] := hl
  refine fw_Q (P := fun Q => ∃ A : Nat → Prop, va_S A s.heap s.heap [] ∧ (∀ q, s.heap.size ≤ q → A q) ∧ ∀ (v : Int64) (H : Heap) (locs : List Loc) (pc : Nat) (ls : Array Slot), some v = some r → va_S A s.heap H locs → decode cX8_cutTo pc = .ok (.lreturn, 1) → W p l e ({ frames := 0, cells := 0, slots := 0, locals := 0 } : Room) s m args below meth c H locs 0 0 Q (F0 m pc ls [.long v])) ⟨fun q => s.heap.size ≤ q, va_S.rf, fun q h => h, fun v H locs pc ls h hS hd => retRL hx hb hr hlk hS h hd⟩ ?_
  rintro Q ⟨A, hS, hA, hRet⟩
  change W p l e ({ frames := 0, cells := 0, slots := 0, locals := 0 } : Room) s m args below meth c _ _ 0 0 Q _
  unfold fX8_cutTo at hf
  refine lv_iload_n hx hb dX8_cutTo_0 rfl (lv_at hl 1 rfl) ?_
  refine lv_if_ne (tgt := 11) hx hb dX8_cutTo_1 (by decide) (fun c_1 => ?_) (fun c_1 => ?_)
  · have hf := iq c_1 hf
    refine lv_iload_n hx hb dX8_cutTo_11 rfl (lv_at hl 1 rfl) ?_
    refine lv_iconst (v := 1) hx hb dX8_cutTo_12 (by decide) ?_
    refine lv_icmp_ne (tgt := 23) hx hb dX8_cutTo_13 (by decide) (fun c_2 => ?_) (fun c_2 => ?_)
    · have hf := iq c_2 hf
      refine lv_iload_n hx hb dX8_cutTo_23 rfl (lv_at hl 1 rfl) ?_
      refine lv_iconst (v := 2) hx hb dX8_cutTo_24 (by decide) ?_
      refine lv_icmp_ne (tgt := 34) hx hb dX8_cutTo_25 (by decide) (fun c_3 => ?_) (fun c_3 => ?_)
      · have hf := iq c_3 hf
        refine lv_lload_n hx hb dX8_cutTo_34 rfl (lv_at hl 0 rfl) ?_
        exact hRet _ _ _ _ _ hf hS dX8_cutTo_35
      · have hf := ip c_3 hf
        refine lv_lload_n hx hb dX8_cutTo_28 rfl (lv_at hl 0 rfl) ?_
        refine lv_l2i hx hb dX8_cutTo_29 rfl ?_
        refine lv_i2l hx hb dX8_cutTo_30 rfl ?_
        refine lv_goto (tgt := 35) hx hb dX8_cutTo_31 (by decide) ?_
        exact hRet _ _ _ _ _ hf hS dX8_cutTo_35
    · have hf := ip c_2 hf
      refine lv_lload_n hx hb dX8_cutTo_16 rfl (lv_at hl 0 rfl) ?_
      refine lv_l2i hx hb dX8_cutTo_17 rfl ?_
      refine lv_i2s hx hb dX8_cutTo_18 rfl ?_
      refine lv_i2l hx hb dX8_cutTo_19 rfl ?_
      refine lv_goto (tgt := 35) hx hb dX8_cutTo_20 (by decide) ?_
      exact hRet _ _ _ _ _ hf hS dX8_cutTo_35
  · have hf := ip c_1 hf
    refine lv_lload_n hx hb dX8_cutTo_4 rfl (lv_at hl 0 rfl) ?_
    refine lv_l2i hx hb dX8_cutTo_5 rfl ?_
    refine lv_i2b hx hb dX8_cutTo_6 rfl ?_
    refine lv_i2l hx hb dX8_cutTo_7 rfl ?_
    refine lv_goto (tgt := 35) hx hb dX8_cutTo_8 (by decide) ?_
    exact hRet _ _ _ _ _ hf hS dX8_cutTo_35
theorem calX8_numbers : CalV yX8_numbers cX8_numbers 5 (some .int) 3 := ⟨⟨kw_47_15, kw_1_5, by decide +kernel⟩, kw_47_13, kw_47_14⟩
set_option maxHeartbeats 8000000 in
set_option maxRecDepth 100000 in
theorem ctX8_numbers (l : Launch) (G : GT) (t_h : Nat) (t_a : Nat → Nat) (t_thrown : Int32) (t_taped : Int32) (t_at : Int32) (t_behind : Int32) (t_size : Int32) (t_kind : Int32) (t_number : Int32) (t_wrong : Int32) (t_wrongAt : Int32) (t_faultKind : Int32) (t_faultPlace : Int32) (t_x : Int32) (t_wayLong : Int32) (t_bothLeast : Int32) (t_rowSort : Nat → Int32) (t_rowMany : Nat → Int32) (t_numbers : Nat → Int64) (v1 : Int32) (v2 : Int32) (v3 : Int32) (r : Int32) (o_t_thrown : Int32) (o_t_rowSort : Nat → Int32) (o_t_rowMany : Nat → Int32) (o_t_numbers : Nat → Int64) (hf : fX8_numbers t_thrown t_rowSort t_rowMany t_numbers v1 v2 v3 = some (r, o_t_thrown, o_t_rowSort, o_t_rowMany, o_t_numbers)) : WrI l yX8_numbers (Cond.code yX8_numbers cX8_numbers 5 (some .int)) { frames := 1, cells := 0, slots := 0, locals := 25 } G [.ref t_h, .int v1, .int v2, .int v3] [oX8 t_h t_a t_thrown t_taped t_at t_behind t_size t_kind t_number t_wrong t_wrongAt t_faultKind t_faultPlace t_x t_wayLong t_bothLeast, arI G (t_a 30) 4 t_rowSort, arI G (t_a 31) 4 t_rowMany, arJ G (t_a 32) 160 t_numbers] [oX8 t_h t_a o_t_thrown t_taped t_at t_behind t_size t_kind t_number t_wrong t_wrongAt t_faultKind t_faultPlace t_x t_wayLong t_bothLeast, arI G (t_a 30) 4 o_t_rowSort, arI G (t_a 31) 4 o_t_rowMany, arJ G (t_a 32) 160 o_t_numbers] r := by
  intro sz
  refine Met.ofW (cc := cX8_numbers) (maxL := 5) (ret := (some .int)) (by decide) rfl ?_
  intro p e s m args below meth c s₁ B hml hv
  obtain ⟨hargs, hsz, hP, hD0, hK⟩ := hv
  subst hsz
  obtain ⟨hx, hb, hr, hw, hown, hlk⟩ := fwB B
  refine fw_enter hargs (Nat.le_of_ble_eq_true rfl) (fun ls hl => ?_)
  have hl : lv_has ls 5 [(0, .ref t_h), (1, .int v1), (2, .int v2), (3, .int v3)] := hl
  refine fw_Q (P := fun Q => ∃ A : Nat → Prop, va_D A [oX8 t_h t_a t_thrown t_taped t_at t_behind t_size t_kind t_number t_wrong t_wrongAt t_faultKind t_faultPlace t_x t_wayLong t_bothLeast, arI G (t_a 30) 4 t_rowSort, arI G (t_a 31) 4 t_rowMany, arJ G (t_a 32) 160 t_numbers] ∧ va_S A s.heap s.heap [] ∧ (∀ q, s.heap.size ≤ q → A q) ∧ ∀ (v : Int32) (n_t_thrown : Int32) (n_t_rowSort : Nat → Int32) (n_t_rowMany : Nat → Int32) (n_t_numbers : Nat → Int64) (H : Heap) (locs : List Loc) (pc : Nat) (ls : Array Slot), some (v, n_t_thrown, n_t_rowSort, n_t_rowMany, n_t_numbers) = some (r, o_t_thrown, o_t_rowSort, o_t_rowMany, o_t_numbers) → va_P G.1 vwCl [oX8 t_h t_a n_t_thrown t_taped t_at t_behind t_size t_kind t_number t_wrong t_wrongAt t_faultKind t_faultPlace t_x t_wayLong t_bothLeast, arI G (t_a 30) 4 n_t_rowSort, arI G (t_a 31) 4 n_t_rowMany, arJ G (t_a 32) 160 n_t_numbers] H → va_S A s.heap H locs → decode cX8_numbers pc = .ok (.ireturn, 1) → W p l e ({ frames := 1, cells := 0, slots := 0, locals := 25 } : Room) s m args below meth c H locs 0 0 Q (F0 m pc ls [.int v])) ⟨va_A [oX8 t_h t_a t_thrown t_taped t_at t_behind t_size t_kind t_number t_wrong t_wrongAt t_faultKind t_faultPlace t_x t_wayLong t_bothLeast, arI G (t_a 30) 4 t_rowSort, arI G (t_a 31) 4 t_rowMany, arJ G (t_a 32) 160 t_numbers] s.heap.size, hD0.self (sz := s.heap.size), va_S.rf, fun q h => Or.inr h, ?_⟩ ?_
  · intro v n_t_thrown n_t_rowSort n_t_rowMany n_t_numbers H locs pc ls h hP hS hd
    cases h
    exact retWI hx hb hr hlk hS hP rfl hd
  rintro Q ⟨A, hD, hS, hA, hRet⟩
  change W p l e ({ frames := 1, cells := 0, slots := 0, locals := 25 } : Room) s m args below meth c _ _ 0 0 Q _
  have L64 : ∀ (t_thrown : Int32) (t_rowSort : Nat → Int32) (t_rowMany : Nat → Int32) (K : (Nat → Int64) → Option (Int32 × Int32 × (Nat → Int32) × (Nat → Int32) × (Nat → Int64))) (n : Nat) (l4 : Int32) (t_numbers : Nat → Int64) (H : Heap) (locs : List Loc) (ls : Array Slot), va_P G.1 vwCl [oX8 t_h t_a t_thrown t_taped t_at t_behind t_size t_kind t_number t_wrong t_wrongAt t_faultKind t_faultPlace t_x t_wayLong t_bothLeast, arI G (t_a 30) 4 t_rowSort, arI G (t_a 31) 4 t_rowMany, arJ G (t_a 32) 160 t_numbers] H → va_D A [oX8 t_h t_a t_thrown t_taped t_at t_behind t_size t_kind t_number t_wrong t_wrongAt t_faultKind t_faultPlace t_x t_wayLong t_bothLeast, arI G (t_a 30) 4 t_rowSort, arI G (t_a 31) 4 t_rowMany, arJ G (t_a 32) 160 t_numbers] → va_S A s.heap H locs → lv_has ls 5 [(0, .ref t_h), (1, .int v1), (3, .int v3), (4, .int l4)] → fX8_numbers_64 v1 v3 K n l4 t_numbers = some (r, o_t_thrown, o_t_rowSort, o_t_rowMany, o_t_numbers) → (∀ (kt_numbers : Nat → Int64) (H : Heap) (locs : List Loc) (ls : Array Slot), va_P G.1 vwCl [oX8 t_h t_a t_thrown t_taped t_at t_behind t_size t_kind t_number t_wrong t_wrongAt t_faultKind t_faultPlace t_x t_wayLong t_bothLeast, arI G (t_a 30) 4 t_rowSort, arI G (t_a 31) 4 t_rowMany, arJ G (t_a 32) 160 kt_numbers] H → va_D A [oX8 t_h t_a t_thrown t_taped t_at t_behind t_size t_kind t_number t_wrong t_wrongAt t_faultKind t_faultPlace t_x t_wayLong t_bothLeast, arI G (t_a 30) 4 t_rowSort, arI G (t_a 31) 4 t_rowMany, arJ G (t_a 32) 160 kt_numbers] → va_S A s.heap H locs → lv_has ls 5 [] → K kt_numbers = some (r, o_t_thrown, o_t_rowSort, o_t_rowMany, o_t_numbers) → W p l e ({ frames := 1, cells := 0, slots := 0, locals := 25 } : Room) s m args below meth c H locs 0 0 Q (F0 m 89 ls [])) → W p l e ({ frames := 1, cells := 0, slots := 0, locals := 25 } : Room) s m args below meth c H locs 0 0 Q (F0 m 64 ls []) := by
    intro t_thrown t_rowSort t_rowMany K n
    induction n with
    | zero => intro l4 t_numbers H locs ls hP hD hS hl hf; rw [fX8_numbers_64] at hf; cases hf
    | succ n ih =>
      intro l4 t_numbers H locs ls hP hD hS hl hf hX
      rw [fX8_numbers_64] at hf
      refine lv_iload hx hb dX8_numbers_64 (lv_at hl 3 rfl) ?_
      refine lv_iload_n hx hb dX8_numbers_66 rfl (lv_at hl 2 rfl) ?_
      refine lv_icmp_ge (tgt := 89) hx hb dX8_numbers_67 (by decide) (fun c_14 => ?_) (fun c_14 => ?_)
      · have hf := ip c_14 hf
        exact hX _ _ _ _ hP hD hS (lv_sub hl [] rfl) hf
      · have hf := iq c_14 hf
        refine lv_aload_n hx hb dX8_numbers_70 rfl (lv_at hl 0 rfl) ?_
        refine va_get (D := G.1) (ci := 8) (v := .ref (t_a 32)) (C := RX8) (T := TX8) (N := 33) hx hb hw inW8 hown hK.1 hP 0 rfl rfl 32 (by decide) (hw _ kw_6_7) (fun _ h9 => h9) rfl dX8_numbers_71 ?_
        refine lv_bipush (v := 40) hx hb dX8_numbers_74 (by decide) ?_
        refine lv_iload_n hx hb dX8_numbers_76 rfl (lv_at hl 1 rfl) ?_
        refine lv_imul hx hb dX8_numbers_77 ?_
        refine lv_iload hx hb dX8_numbers_78 (lv_at hl 3 rfl) ?_
        refine lv_iadd hx hb dX8_numbers_80 ?_
        refine lv_lconst (v := 0) hx hb dX8_numbers_81 (by decide) ?_
        obtain ⟨hi_16, hf⟩ := wrL_in hf
        refine xlast hx hb hK.1 hP hD hS 3 2 rfl rfl hi_16 dX8_numbers_82 (fun t_numbers_15 H locs et_numbers_15 hP hD hS => ?_)
        have hf := hf t_numbers_15 et_numbers_15
        have hP : va_P G.1 vwCl [oX8 t_h t_a t_thrown t_taped t_at t_behind t_size t_kind t_number t_wrong t_wrongAt t_faultKind t_faultPlace t_x t_wayLong t_bothLeast, arI G (t_a 30) 4 t_rowSort, arI G (t_a 31) 4 t_rowMany, arJ G (t_a 32) 160 t_numbers_15] H := hP
        have hD : va_D A [oX8 t_h t_a t_thrown t_taped t_at t_behind t_size t_kind t_number t_wrong t_wrongAt t_faultKind t_faultPlace t_x t_wayLong t_bothLeast, arI G (t_a 30) 4 t_rowSort, arI G (t_a 31) 4 t_rowMany, arJ G (t_a 32) 160 t_numbers_15] := hD
        refine lv_iinc (v := (l4 + 1)) (lv' := [(4, .int (l4 + 1)), (0, .ref t_h), (1, .int v1), (3, .int v3)]) hx hb dX8_numbers_83 hl (k := 3) rfl (by rfl) (by decide) rfl (fun ls hl => ?_)
        refine lv_goto (tgt := 64) hx hb dX8_numbers_86 (by decide) ?_
        exact ih _ _ _ _ _ hP hD hS (lv_sub hl [1, 2, 3, 0] rfl) hf hX
  unfold fX8_numbers at hf
  refine lv_aload_n hx hb dX8_numbers_0 rfl (lv_at hl 0 rfl) ?_
  refine lv_iconst (v := 0) hx hb dX8_numbers_1 (by decide) ?_
  refine va_put (D := G.1) (ci := 8) (v := .int 0) (ty := .int) (C := RX8) (T := TX8) (N := 33) hx hb hw inW8 tyX8 tyX8_ok nmX8 hown hK.1 hP hD hS 0 rfl rfl 0 (by decide) (hw _ kw_6_21) (fun _ h9 => h9) rfl (by decide +kernel) rfl rfl (Nat.le_of_ble_eq_true rfl) dX8_numbers_2 (fun H locs hP hD hS => ?_)
  have hP : va_P G.1 vwCl [oX8 t_h t_a 0 t_taped t_at t_behind t_size t_kind t_number t_wrong t_wrongAt t_faultKind t_faultPlace t_x t_wayLong t_bothLeast, arI G (t_a 30) 4 t_rowSort, arI G (t_a 31) 4 t_rowMany, arJ G (t_a 32) 160 t_numbers] H := hP
  have hD : va_D A [oX8 t_h t_a 0 t_taped t_at t_behind t_size t_kind t_number t_wrong t_wrongAt t_faultKind t_faultPlace t_x t_wayLong t_bothLeast, arI G (t_a 30) 4 t_rowSort, arI G (t_a 31) 4 t_rowMany, arJ G (t_a 32) 160 t_numbers] := hD
  refine lv_iload_n hx hb dX8_numbers_5 rfl (lv_at hl 1 rfl) ?_
  refine lv_i2l hx hb dX8_numbers_6 rfl ?_
  refine lv_lconst (v := 0) hx hb dX8_numbers_7 (by decide) ?_
  refine lv_ldc2 hx hb hown (hw _ kw_20_3) dX8_numbers_8 ?_
  obtain ⟨r_1, hc_2, hf⟩ := bd1_in hf
  refine rcI (va_runS (As := [.long (Int32.toInt64 v1), .long 0, .long 3]) (rest := []) ⟨hx, hb, hml, hown, hw⟩ ((ctX8_within l G (Int32.toInt64 v1) 0 3 _ hc_2) _) (kS hw calX8_within kw_14_2 rfl rfl ⟨Nat.le_of_ble_eq_true rfl, Nat.le_of_ble_eq_true rfl⟩) (rpS (hP.sub (ws' := []) [] rfl) hK) rfl rfl hl.1 rfl (lv_room (Nat.le_of_ble_eq_true rfl)) dX8_numbers_11 ⟨Nat.zero_le _, Nat.zero_le _⟩) hS hA hP (fun H locs hP hS => ?_)
  refine lv_if_eq (tgt := 29) hx hb dX8_numbers_14 (by decide) (fun c_3 => ?_) (fun c_3 => ?_)
  · have hf := ip c_3 hf
    refine lv_bipush (v := (-2)) hx hb dX8_numbers_29 (by decide) ?_
    exact hRet _ _ _ _ _ _ _ _ _ hf hP hS dX8_numbers_31
  · have hf := iq c_3 hf
    refine lv_iload_n hx hb dX8_numbers_17 rfl (lv_at hl 2 rfl) ?_
    refine lv_i2l hx hb dX8_numbers_18 rfl ?_
    refine lv_lconst (v := 0) hx hb dX8_numbers_19 (by decide) ?_
    refine lv_ldc2 hx hb hown (hw _ kw_20_3) dX8_numbers_20 ?_
    obtain ⟨r_4, hc_5, hf⟩ := bd1_in hf
    refine rcI (va_runS (As := [.long (Int32.toInt64 v2), .long 0, .long 3]) (rest := []) ⟨hx, hb, hml, hown, hw⟩ ((ctX8_within l G (Int32.toInt64 v2) 0 3 _ hc_5) _) (kS hw calX8_within kw_14_2 rfl rfl ⟨Nat.le_of_ble_eq_true rfl, Nat.le_of_ble_eq_true rfl⟩) (rpS (hP.sub (ws' := []) [] rfl) hK) rfl rfl hl.1 rfl (lv_room (Nat.le_of_ble_eq_true rfl)) dX8_numbers_23 ⟨Nat.zero_le _, Nat.zero_le _⟩) hS hA hP (fun H locs hP hS => ?_)
    refine lv_if_ne (tgt := 32) hx hb dX8_numbers_26 (by decide) (fun c_6 => ?_) (fun c_6 => ?_)
    · have hf := iq c_6 hf
      refine lv_iload_n hx hb dX8_numbers_32 rfl (lv_at hl 3 rfl) ?_
      refine lv_i2l hx hb dX8_numbers_33 rfl ?_
      refine lv_lconst (v := 0) hx hb dX8_numbers_34 (by decide) ?_
      refine lv_ldc2 hx hb hown (hw _ kw_47_16) dX8_numbers_35 ?_
      obtain ⟨r_7, hc_8, hf⟩ := bd1_in hf
      refine rcI (va_runS (As := [.long (Int32.toInt64 v3), .long 0, .long 40]) (rest := []) ⟨hx, hb, hml, hown, hw⟩ ((ctX8_within l G (Int32.toInt64 v3) 0 40 _ hc_8) _) (kS hw calX8_within kw_14_2 rfl rfl ⟨Nat.le_of_ble_eq_true rfl, Nat.le_of_ble_eq_true rfl⟩) (rpS (hP.sub (ws' := []) [] rfl) hK) rfl rfl hl.1 rfl (lv_room (Nat.le_of_ble_eq_true rfl)) dX8_numbers_38 ⟨Nat.zero_le _, Nat.zero_le _⟩) hS hA hP (fun H locs hP hS => ?_)
      refine lv_if_ne (tgt := 47) hx hb dX8_numbers_41 (by decide) (fun c_9 => ?_) (fun c_9 => ?_)
      · have hf := iq c_9 hf
        refine lv_aload_n hx hb dX8_numbers_47 rfl (lv_at hl 0 rfl) ?_
        refine va_get (D := G.1) (ci := 8) (v := .ref (t_a 30)) (C := RX8) (T := TX8) (N := 33) hx hb hw inW8 hown hK.1 hP 0 rfl rfl 30 (by decide) (hw _ kw_6_5) (fun _ h9 => h9) rfl dX8_numbers_48 ?_
        refine lv_iload_n hx hb dX8_numbers_51 rfl (lv_at hl 1 rfl) ?_
        refine lv_iload_n hx hb dX8_numbers_52 rfl (lv_at hl 2 rfl) ?_
        obtain ⟨hi_11, hf⟩ := wrI_in hf
        refine xiast hx hb hK.1 hP hD hS 1 0 rfl rfl hi_11 dX8_numbers_53 (fun t_rowSort_10 H locs et_rowSort_10 hP hD hS => ?_)
        have hf := hf t_rowSort_10 et_rowSort_10
        have hP : va_P G.1 vwCl [oX8 t_h t_a 0 t_taped t_at t_behind t_size t_kind t_number t_wrong t_wrongAt t_faultKind t_faultPlace t_x t_wayLong t_bothLeast, arI G (t_a 30) 4 t_rowSort_10, arI G (t_a 31) 4 t_rowMany, arJ G (t_a 32) 160 t_numbers] H := hP
        have hD : va_D A [oX8 t_h t_a 0 t_taped t_at t_behind t_size t_kind t_number t_wrong t_wrongAt t_faultKind t_faultPlace t_x t_wayLong t_bothLeast, arI G (t_a 30) 4 t_rowSort_10, arI G (t_a 31) 4 t_rowMany, arJ G (t_a 32) 160 t_numbers] := hD
        refine lv_aload_n hx hb dX8_numbers_54 rfl (lv_at hl 0 rfl) ?_
        refine va_get (D := G.1) (ci := 8) (v := .ref (t_a 31)) (C := RX8) (T := TX8) (N := 33) hx hb hw inW8 hown hK.1 hP 0 rfl rfl 31 (by decide) (hw _ kw_6_6) (fun _ h9 => h9) rfl dX8_numbers_55 ?_
        refine lv_iload_n hx hb dX8_numbers_58 rfl (lv_at hl 1 rfl) ?_
        refine lv_iload_n hx hb dX8_numbers_59 rfl (lv_at hl 3 rfl) ?_
        obtain ⟨hi_13, hf⟩ := wrI_in hf
        refine xiast hx hb hK.1 hP hD hS 2 0 rfl rfl hi_13 dX8_numbers_60 (fun t_rowMany_12 H locs et_rowMany_12 hP hD hS => ?_)
        have hf := hf t_rowMany_12 et_rowMany_12
        have hP : va_P G.1 vwCl [oX8 t_h t_a 0 t_taped t_at t_behind t_size t_kind t_number t_wrong t_wrongAt t_faultKind t_faultPlace t_x t_wayLong t_bothLeast, arI G (t_a 30) 4 t_rowSort_10, arI G (t_a 31) 4 t_rowMany_12, arJ G (t_a 32) 160 t_numbers] H := hP
        have hD : va_D A [oX8 t_h t_a 0 t_taped t_at t_behind t_size t_kind t_number t_wrong t_wrongAt t_faultKind t_faultPlace t_x t_wayLong t_bothLeast, arI G (t_a 30) 4 t_rowSort_10, arI G (t_a 31) 4 t_rowMany_12, arJ G (t_a 32) 160 t_numbers] := hD
        refine lv_iconst (v := 0) hx hb dX8_numbers_61 (by decide) ?_
        refine lv_istore (lv' := [(4, .int 0), (0, .ref t_h), (1, .int v1), (2, .int v2), (3, .int v3)]) hx hb dX8_numbers_62 hl (by decide) rfl (fun ls hl => ?_)
        refine L64 _ _ _ _ _ _ _ _ _ _ hP hD hS (lv_sub hl [1, 2, 4, 0] rfl) hf (fun t_numbers_17 H locs ls hP hD hS hl hf => ?_)
        refine lv_iconst (v := 0) hx hb dX8_numbers_89 (by decide) ?_
        exact hRet _ _ _ _ _ _ _ _ _ hf hP hS dX8_numbers_90
      · have hf := ip c_9 hf
        refine lv_bipush (v := (-3)) hx hb dX8_numbers_44 (by decide) ?_
        exact hRet _ _ _ _ _ _ _ _ _ hf hP hS dX8_numbers_46
    · have hf := ip c_6 hf
      refine lv_bipush (v := (-2)) hx hb dX8_numbers_29 (by decide) ?_
      exact hRet _ _ _ _ _ _ _ _ _ hf hP hS dX8_numbers_31
theorem calX8_write : CalV yX8_write cX8_write 5 (some .long) 3 := ⟨⟨kw_48_10, kw_1_5, by decide +kernel⟩, kw_48_8, kw_48_9⟩
set_option maxHeartbeats 8000000 in
set_option maxRecDepth 100000 in
theorem ctX8_write (l : Launch) (G : GT) (t_h : Nat) (t_a : Nat → Nat) (t_thrown : Int32) (t_taped : Int32) (t_at : Int32) (t_behind : Int32) (t_size : Int32) (t_kind : Int32) (t_number : Int32) (t_wrong : Int32) (t_wrongAt : Int32) (t_faultKind : Int32) (t_faultPlace : Int32) (t_x : Int32) (t_wayLong : Int32) (t_bothLeast : Int32) (t_rowSort : Nat → Int32) (t_rowMany : Nat → Int32) (t_numbers : Nat → Int64) (v1 : Int32) (v2 : Int32) (v3 : Int64) (r : Int64) (o_t_thrown : Int32) (o_t_numbers : Nat → Int64) (hf : fX8_write t_thrown t_rowSort t_rowMany t_numbers v1 v2 v3 = some (r, o_t_thrown, o_t_numbers)) : WrL l yX8_write (Cond.code yX8_write cX8_write 5 (some .long)) { frames := 1, cells := 0, slots := 0, locals := 25 } G [.ref t_h, .int v1, .int v2, .long v3] [oX8 t_h t_a t_thrown t_taped t_at t_behind t_size t_kind t_number t_wrong t_wrongAt t_faultKind t_faultPlace t_x t_wayLong t_bothLeast, arI G (t_a 30) 4 t_rowSort, arI G (t_a 31) 4 t_rowMany, arJ G (t_a 32) 160 t_numbers] [oX8 t_h t_a o_t_thrown t_taped t_at t_behind t_size t_kind t_number t_wrong t_wrongAt t_faultKind t_faultPlace t_x t_wayLong t_bothLeast, arI G (t_a 30) 4 t_rowSort, arI G (t_a 31) 4 t_rowMany, arJ G (t_a 32) 160 o_t_numbers] r := by
  intro sz
  refine Met.ofW (cc := cX8_write) (maxL := 5) (ret := (some .long)) (by decide) rfl ?_
  intro p e s m args below meth c s₁ B hml hv
  obtain ⟨hargs, hsz, hP, hD0, hK⟩ := hv
  subst hsz
  obtain ⟨hx, hb, hr, hw, hown, hlk⟩ := fwB B
  refine fw_enter hargs (Nat.le_of_ble_eq_true rfl) (fun ls hl => ?_)
  have hl : lv_has ls 5 [(0, .ref t_h), (1, .int v1), (2, .int v2), (3, .long v3)] := hl
  refine fw_Q (P := fun Q => ∃ A : Nat → Prop, va_D A [oX8 t_h t_a t_thrown t_taped t_at t_behind t_size t_kind t_number t_wrong t_wrongAt t_faultKind t_faultPlace t_x t_wayLong t_bothLeast, arI G (t_a 30) 4 t_rowSort, arI G (t_a 31) 4 t_rowMany, arJ G (t_a 32) 160 t_numbers] ∧ va_S A s.heap s.heap [] ∧ (∀ q, s.heap.size ≤ q → A q) ∧ ∀ (v : Int64) (n_t_thrown : Int32) (n_t_numbers : Nat → Int64) (H : Heap) (locs : List Loc) (pc : Nat) (ls : Array Slot), some (v, n_t_thrown, n_t_numbers) = some (r, o_t_thrown, o_t_numbers) → va_P G.1 vwCl [oX8 t_h t_a n_t_thrown t_taped t_at t_behind t_size t_kind t_number t_wrong t_wrongAt t_faultKind t_faultPlace t_x t_wayLong t_bothLeast, arI G (t_a 30) 4 t_rowSort, arI G (t_a 31) 4 t_rowMany, arJ G (t_a 32) 160 n_t_numbers] H → va_S A s.heap H locs → decode cX8_write pc = .ok (.lreturn, 1) → W p l e ({ frames := 1, cells := 0, slots := 0, locals := 25 } : Room) s m args below meth c H locs 0 0 Q (F0 m pc ls [.long v])) ⟨va_A [oX8 t_h t_a t_thrown t_taped t_at t_behind t_size t_kind t_number t_wrong t_wrongAt t_faultKind t_faultPlace t_x t_wayLong t_bothLeast, arI G (t_a 30) 4 t_rowSort, arI G (t_a 31) 4 t_rowMany, arJ G (t_a 32) 160 t_numbers] s.heap.size, hD0.self (sz := s.heap.size), va_S.rf, fun q h => Or.inr h, ?_⟩ ?_
  · intro v n_t_thrown n_t_numbers H locs pc ls h hP hS hd
    cases h
    exact retWL hx hb hr hlk hS hP rfl hd
  rintro Q ⟨A, hD, hS, hA, hRet⟩
  change W p l e ({ frames := 1, cells := 0, slots := 0, locals := 25 } : Room) s m args below meth c _ _ 0 0 Q _
  unfold fX8_write at hf
  refine lv_aload_n hx hb dX8_write_0 rfl (lv_at hl 0 rfl) ?_
  refine lv_iconst (v := 0) hx hb dX8_write_1 (by decide) ?_
  refine va_put (D := G.1) (ci := 8) (v := .int 0) (ty := .int) (C := RX8) (T := TX8) (N := 33) hx hb hw inW8 tyX8 tyX8_ok nmX8 hown hK.1 hP hD hS 0 rfl rfl 0 (by decide) (hw _ kw_6_21) (fun _ h9 => h9) rfl (by decide +kernel) rfl rfl (Nat.le_of_ble_eq_true rfl) dX8_write_2 (fun H locs hP hD hS => ?_)
  have hP : va_P G.1 vwCl [oX8 t_h t_a 0 t_taped t_at t_behind t_size t_kind t_number t_wrong t_wrongAt t_faultKind t_faultPlace t_x t_wayLong t_bothLeast, arI G (t_a 30) 4 t_rowSort, arI G (t_a 31) 4 t_rowMany, arJ G (t_a 32) 160 t_numbers] H := hP
  have hD : va_D A [oX8 t_h t_a 0 t_taped t_at t_behind t_size t_kind t_number t_wrong t_wrongAt t_faultKind t_faultPlace t_x t_wayLong t_bothLeast, arI G (t_a 30) 4 t_rowSort, arI G (t_a 31) 4 t_rowMany, arJ G (t_a 32) 160 t_numbers] := hD
  refine lv_iload_n hx hb dX8_write_5 rfl (lv_at hl 1 rfl) ?_
  refine lv_i2l hx hb dX8_write_6 rfl ?_
  refine lv_lconst (v := 0) hx hb dX8_write_7 (by decide) ?_
  refine lv_ldc2 hx hb hown (hw _ kw_20_3) dX8_write_8 ?_
  obtain ⟨r_1, hc_2, hf⟩ := bd1_in hf
  refine rcI (va_runS (As := [.long (Int32.toInt64 v1), .long 0, .long 3]) (rest := []) ⟨hx, hb, hml, hown, hw⟩ ((ctX8_within l G (Int32.toInt64 v1) 0 3 _ hc_2) _) (kS hw calX8_within kw_14_2 rfl rfl ⟨Nat.le_of_ble_eq_true rfl, Nat.le_of_ble_eq_true rfl⟩) (rpS (hP.sub (ws' := []) [] rfl) hK) rfl rfl hl.1 rfl (lv_room (Nat.le_of_ble_eq_true rfl)) dX8_write_11 ⟨Nat.zero_le _, Nat.zero_le _⟩) hS hA hP (fun H locs hP hS => ?_)
  refine lv_if_ne (tgt := 21) hx hb dX8_write_14 (by decide) (fun c_3 => ?_) (fun c_3 => ?_)
  · have hf := iq c_3 hf
    refine lv_aload_n hx hb dX8_write_21 rfl (lv_at hl 0 rfl) ?_
    refine va_get (D := G.1) (ci := 8) (v := .ref (t_a 30)) (C := RX8) (T := TX8) (N := 33) hx hb hw inW8 hown hK.1 hP 0 rfl rfl 30 (by decide) (hw _ kw_6_5) (fun _ h9 => h9) rfl dX8_write_22 ?_
    refine lv_iload_n hx hb dX8_write_25 rfl (lv_at hl 1 rfl) ?_
    obtain ⟨hi_5, hf⟩ := rdI_in hf
    refine va_iald hx hb hK.1 hP 1 0 rfl rfl hi_5 dX8_write_26 ?_
    refine lv_topi (fun x_4 ex_4 => ?_)
    have hf := hf x_4 ex_4
    refine lv_iconst (v := (-1)) hx hb dX8_write_27 (by decide) ?_
    refine lv_icmp_ne (tgt := 35) hx hb dX8_write_28 (by decide) (fun c_6 => ?_) (fun c_6 => ?_)
    · have hf := iq c_6 hf
      refine lv_iload_n hx hb dX8_write_35 rfl (lv_at hl 2 rfl) ?_
      refine lv_i2l hx hb dX8_write_36 rfl ?_
      refine lv_lconst (v := 0) hx hb dX8_write_37 (by decide) ?_
      refine lv_aload_n hx hb dX8_write_38 rfl (lv_at hl 0 rfl) ?_
      refine va_get (D := G.1) (ci := 8) (v := .ref (t_a 31)) (C := RX8) (T := TX8) (N := 33) hx hb hw inW8 hown hK.1 hP 0 rfl rfl 31 (by decide) (hw _ kw_6_6) (fun _ h9 => h9) rfl dX8_write_39 ?_
      refine lv_iload_n hx hb dX8_write_42 rfl (lv_at hl 1 rfl) ?_
      obtain ⟨hi_8, hf⟩ := rdI_in hf
      refine va_iald hx hb hK.1 hP 2 0 rfl rfl hi_8 dX8_write_43 ?_
      refine lv_topi (fun x_7 ex_7 => ?_)
      have hf := hf x_7 ex_7
      refine lv_iconst (v := 1) hx hb dX8_write_44 (by decide) ?_
      refine lv_isub hx hb dX8_write_45 ?_
      refine lv_i2l hx hb dX8_write_46 rfl ?_
      obtain ⟨r_9, hc_10, hf⟩ := bd1_in hf
      refine rcI (va_runS (As := [.long (Int32.toInt64 v2), .long 0, .long (Int32.toInt64 (x_7 - 1))]) (rest := []) ⟨hx, hb, hml, hown, hw⟩ ((ctX8_within l G (Int32.toInt64 v2) 0 (Int32.toInt64 (x_7 - 1)) _ hc_10) _) (kS hw calX8_within kw_14_2 rfl rfl ⟨Nat.le_of_ble_eq_true rfl, Nat.le_of_ble_eq_true rfl⟩) (rpS (hP.sub (ws' := []) [] rfl) hK) rfl rfl hl.1 rfl (lv_room (Nat.le_of_ble_eq_true rfl)) dX8_write_47 ⟨Nat.zero_le _, Nat.zero_le _⟩) hS hA hP (fun H locs hP hS => ?_)
      refine lv_if_ne (tgt := 57) hx hb dX8_write_50 (by decide) (fun c_11 => ?_) (fun c_11 => ?_)
      · have hf := iq c_11 hf
        refine lv_aload_n hx hb dX8_write_57 rfl (lv_at hl 0 rfl) ?_
        refine va_get (D := G.1) (ci := 8) (v := .ref (t_a 32)) (C := RX8) (T := TX8) (N := 33) hx hb hw inW8 hown hK.1 hP 0 rfl rfl 32 (by decide) (hw _ kw_6_7) (fun _ h9 => h9) rfl dX8_write_58 ?_
        refine lv_bipush (v := 40) hx hb dX8_write_61 (by decide) ?_
        refine lv_iload_n hx hb dX8_write_63 rfl (lv_at hl 1 rfl) ?_
        refine lv_imul hx hb dX8_write_64 ?_
        refine lv_iload_n hx hb dX8_write_65 rfl (lv_at hl 2 rfl) ?_
        refine lv_iadd hx hb dX8_write_66 ?_
        refine lv_lload_n hx hb dX8_write_67 rfl (lv_at hl 3 rfl) ?_
        refine lv_aload_n hx hb dX8_write_68 rfl (lv_at hl 0 rfl) ?_
        refine va_get (D := G.1) (ci := 8) (v := .ref (t_a 30)) (C := RX8) (T := TX8) (N := 33) hx hb hw inW8 hown hK.1 hP 0 rfl rfl 30 (by decide) (hw _ kw_6_5) (fun _ h9 => h9) rfl dX8_write_69 ?_
        refine lv_iload_n hx hb dX8_write_72 rfl (lv_at hl 1 rfl) ?_
        obtain ⟨hi_13, hf⟩ := rdI_in hf
        refine va_iald hx hb hK.1 hP 1 0 rfl rfl hi_13 dX8_write_73 ?_
        refine lv_topi (fun x_12 ex_12 => ?_)
        have hf := hf x_12 ex_12
        obtain ⟨r_14, hc_15, hf⟩ := bd1_in hf
        refine rcL (va_runS (As := [.long v3, .int x_12]) (rest := [.int ((40 * v1) + v2), .ref (t_a 32)]) ⟨hx, hb, hml, hown, hw⟩ ((ctX8_cutTo l G v3 x_12 _ hc_15) _) (kS hw calX8_cutTo kw_48_14 rfl rfl ⟨Nat.le_of_ble_eq_true rfl, Nat.le_of_ble_eq_true rfl⟩) (rpS (hP.sub (ws' := []) [] rfl) hK) rfl rfl hl.1 rfl (lv_room (Nat.le_of_ble_eq_true rfl)) dX8_write_74 ⟨Nat.zero_le _, Nat.zero_le _⟩) hS hA hP (fun H locs hP hS => ?_)
        obtain ⟨hi_17, hf⟩ := wrL_in hf
        refine xlast hx hb hK.1 hP hD hS 3 2 rfl rfl hi_17 dX8_write_77 (fun t_numbers_16 H locs et_numbers_16 hP hD hS => ?_)
        have hf := hf t_numbers_16 et_numbers_16
        have hP : va_P G.1 vwCl [oX8 t_h t_a 0 t_taped t_at t_behind t_size t_kind t_number t_wrong t_wrongAt t_faultKind t_faultPlace t_x t_wayLong t_bothLeast, arI G (t_a 30) 4 t_rowSort, arI G (t_a 31) 4 t_rowMany, arJ G (t_a 32) 160 t_numbers_16] H := hP
        have hD : va_D A [oX8 t_h t_a 0 t_taped t_at t_behind t_size t_kind t_number t_wrong t_wrongAt t_faultKind t_faultPlace t_x t_wayLong t_bothLeast, arI G (t_a 30) 4 t_rowSort, arI G (t_a 31) 4 t_rowMany, arJ G (t_a 32) 160 t_numbers_16] := hD
        refine lv_aload_n hx hb dX8_write_78 rfl (lv_at hl 0 rfl) ?_
        refine va_get (D := G.1) (ci := 8) (v := .ref (t_a 32)) (C := RX8) (T := TX8) (N := 33) hx hb hw inW8 hown hK.1 hP 0 rfl rfl 32 (by decide) (hw _ kw_6_7) (fun _ h9 => h9) rfl dX8_write_79 ?_
        refine lv_bipush (v := 40) hx hb dX8_write_82 (by decide) ?_
        refine lv_iload_n hx hb dX8_write_84 rfl (lv_at hl 1 rfl) ?_
        refine lv_imul hx hb dX8_write_85 ?_
        refine lv_iload_n hx hb dX8_write_86 rfl (lv_at hl 2 rfl) ?_
        refine lv_iadd hx hb dX8_write_87 ?_
        obtain ⟨hi_19, hf⟩ := rdL_in hf
        refine va_lald hx hb hK.1 hP 3 2 rfl rfl hi_19 dX8_write_88 ?_
        refine lv_topl (fun x_18 ex_18 => ?_)
        have hf := hf x_18 ex_18
        exact hRet _ _ _ _ _ _ _ hf hP hS dX8_write_89
      · have hf := ip c_11 hf
        refine lv_ldc2 hx hb hown (hw _ kw_48_13) dX8_write_53 ?_
        exact hRet _ _ _ _ _ _ _ hf hP hS dX8_write_56
    · have hf := ip c_6 hf
      refine lv_ldc2 hx hb hown (hw _ kw_48_12) dX8_write_31 ?_
      exact hRet _ _ _ _ _ _ _ hf hP hS dX8_write_34
  · have hf := ip c_3 hf
    refine lv_ldc2 hx hb hown (hw _ kw_48_11) dX8_write_17 ?_
    exact hRet _ _ _ _ _ _ _ hf hP hS dX8_write_20
theorem calX8_copy : CalV yX8_copy cX8_copy 5 (some .int) 1 := ⟨⟨kw_49_0, kw_1_5, by decide +kernel⟩, kw_48_22, kw_48_23⟩
set_option maxHeartbeats 8000000 in
set_option maxRecDepth 100000 in
theorem ctX8_copy (l : Launch) (G : GT) (t_h : Nat) (t_a : Nat → Nat) (t_thrown : Int32) (t_all : Nat → Int32) (t_taped : Int32) (t_at : Int32) (t_behind : Int32) (t_size : Int32) (t_kind : Int32) (t_number : Int32) (t_wrong : Int32) (t_wrongAt : Int32) (t_faultKind : Int32) (t_faultPlace : Int32) (t_x : Int32) (t_wayLong : Int32) (t_bothLeast : Int32) (t_rowSort : Nat → Int32) (t_rowMany : Nat → Int32) (t_numbers : Nat → Int64) (v1 : Int32) (r : Int32) (o_t_thrown : Int32) (o_t_numbers : Nat → Int64) (hf : fX8_copy t_thrown t_all t_rowSort t_rowMany t_numbers v1 = some (r, o_t_thrown, o_t_numbers)) : WrI l yX8_copy (Cond.code yX8_copy cX8_copy 5 (some .int)) { frames := 1, cells := 0, slots := 0, locals := 25 } G [.ref t_h, .int v1] [oX8 t_h t_a t_thrown t_taped t_at t_behind t_size t_kind t_number t_wrong t_wrongAt t_faultKind t_faultPlace t_x t_wayLong t_bothLeast, arI G (t_a 1) 558 t_all, arI G (t_a 30) 4 t_rowSort, arI G (t_a 31) 4 t_rowMany, arJ G (t_a 32) 160 t_numbers] [oX8 t_h t_a o_t_thrown t_taped t_at t_behind t_size t_kind t_number t_wrong t_wrongAt t_faultKind t_faultPlace t_x t_wayLong t_bothLeast, arI G (t_a 1) 558 t_all, arI G (t_a 30) 4 t_rowSort, arI G (t_a 31) 4 t_rowMany, arJ G (t_a 32) 160 o_t_numbers] r := by
  intro sz
  refine Met.ofW (cc := cX8_copy) (maxL := 5) (ret := (some .int)) (by decide) rfl ?_
  intro p e s m args below meth c s₁ B hml hv
  obtain ⟨hargs, hsz, hP, hD0, hK⟩ := hv
  subst hsz
  obtain ⟨hx, hb, hr, hw, hown, hlk⟩ := fwB B
  refine fw_enter hargs (Nat.le_of_ble_eq_true rfl) (fun ls hl => ?_)
  have hl : lv_has ls 5 [(0, .ref t_h), (1, .int v1)] := hl
  refine fw_Q (P := fun Q => ∃ A : Nat → Prop, va_D A [oX8 t_h t_a t_thrown t_taped t_at t_behind t_size t_kind t_number t_wrong t_wrongAt t_faultKind t_faultPlace t_x t_wayLong t_bothLeast, arI G (t_a 1) 558 t_all, arI G (t_a 30) 4 t_rowSort, arI G (t_a 31) 4 t_rowMany, arJ G (t_a 32) 160 t_numbers] ∧ va_S A s.heap s.heap [] ∧ (∀ q, s.heap.size ≤ q → A q) ∧ ∀ (v : Int32) (n_t_thrown : Int32) (n_t_numbers : Nat → Int64) (H : Heap) (locs : List Loc) (pc : Nat) (ls : Array Slot), some (v, n_t_thrown, n_t_numbers) = some (r, o_t_thrown, o_t_numbers) → va_P G.1 vwCl [oX8 t_h t_a n_t_thrown t_taped t_at t_behind t_size t_kind t_number t_wrong t_wrongAt t_faultKind t_faultPlace t_x t_wayLong t_bothLeast, arI G (t_a 1) 558 t_all, arI G (t_a 30) 4 t_rowSort, arI G (t_a 31) 4 t_rowMany, arJ G (t_a 32) 160 n_t_numbers] H → va_S A s.heap H locs → decode cX8_copy pc = .ok (.ireturn, 1) → W p l e ({ frames := 1, cells := 0, slots := 0, locals := 25 } : Room) s m args below meth c H locs 0 0 Q (F0 m pc ls [.int v])) ⟨va_A [oX8 t_h t_a t_thrown t_taped t_at t_behind t_size t_kind t_number t_wrong t_wrongAt t_faultKind t_faultPlace t_x t_wayLong t_bothLeast, arI G (t_a 1) 558 t_all, arI G (t_a 30) 4 t_rowSort, arI G (t_a 31) 4 t_rowMany, arJ G (t_a 32) 160 t_numbers] s.heap.size, hD0.self (sz := s.heap.size), va_S.rf, fun q h => Or.inr h, ?_⟩ ?_
  · intro v n_t_thrown n_t_numbers H locs pc ls h hP hS hd
    cases h
    exact retWI hx hb hr hlk hS hP rfl hd
  rintro Q ⟨A, hD, hS, hA, hRet⟩
  change W p l e ({ frames := 1, cells := 0, slots := 0, locals := 25 } : Room) s m args below meth c _ _ 0 0 Q _
  have L52 : ∀ (l3 : Int32) (t_thrown : Int32) (K : Int32 → (Nat → Int64) → Option (Int32 × Int32 × (Nat → Int64))) (n : Nat) (l2 : Int32) (l4 : Int32) (t_numbers : Nat → Int64) (H : Heap) (locs : List Loc) (ls : Array Slot), va_P G.1 vwCl [oX8 t_h t_a t_thrown t_taped t_at t_behind t_size t_kind t_number t_wrong t_wrongAt t_faultKind t_faultPlace t_x t_wayLong t_bothLeast, arI G (t_a 1) 558 t_all, arI G (t_a 30) 4 t_rowSort, arI G (t_a 31) 4 t_rowMany, arJ G (t_a 32) 160 t_numbers] H → va_D A [oX8 t_h t_a t_thrown t_taped t_at t_behind t_size t_kind t_number t_wrong t_wrongAt t_faultKind t_faultPlace t_x t_wayLong t_bothLeast, arI G (t_a 1) 558 t_all, arI G (t_a 30) 4 t_rowSort, arI G (t_a 31) 4 t_rowMany, arJ G (t_a 32) 160 t_numbers] → va_S A s.heap H locs → lv_has ls 5 [(0, .ref t_h), (1, .int v1), (2, .int l2), (3, .int l3), (4, .int l4)] → fX8_copy_52 v1 l3 t_all t_rowSort t_rowMany K n l2 l4 t_numbers = some (r, o_t_thrown, o_t_numbers) → (∀ (k2 : Int32) (kt_numbers : Nat → Int64) (H : Heap) (locs : List Loc) (ls : Array Slot), va_P G.1 vwCl [oX8 t_h t_a t_thrown t_taped t_at t_behind t_size t_kind t_number t_wrong t_wrongAt t_faultKind t_faultPlace t_x t_wayLong t_bothLeast, arI G (t_a 1) 558 t_all, arI G (t_a 30) 4 t_rowSort, arI G (t_a 31) 4 t_rowMany, arJ G (t_a 32) 160 kt_numbers] H → va_D A [oX8 t_h t_a t_thrown t_taped t_at t_behind t_size t_kind t_number t_wrong t_wrongAt t_faultKind t_faultPlace t_x t_wayLong t_bothLeast, arI G (t_a 1) 558 t_all, arI G (t_a 30) 4 t_rowSort, arI G (t_a 31) 4 t_rowMany, arJ G (t_a 32) 160 kt_numbers] → va_S A s.heap H locs → lv_has ls 5 [(0, .ref t_h), (1, .int v1), (2, .int k2), (3, .int l3)] → K k2 kt_numbers = some (r, o_t_thrown, o_t_numbers) → W p l e ({ frames := 1, cells := 0, slots := 0, locals := 25 } : Room) s m args below meth c H locs 0 0 Q (F0 m 123 ls [])) → W p l e ({ frames := 1, cells := 0, slots := 0, locals := 25 } : Room) s m args below meth c H locs 0 0 Q (F0 m 52 ls []) := by
    intro l3 t_thrown K n
    induction n with
    | zero => intro l2 l4 t_numbers H locs ls hP hD hS hl hf; rw [fX8_copy_52] at hf; cases hf
    | succ n ih =>
      intro l2 l4 t_numbers H locs ls hP hD hS hl hf hX
      rw [fX8_copy_52] at hf
      refine lv_iload hx hb dX8_copy_52 (lv_at hl 4 rfl) ?_
      refine lv_aload_n hx hb dX8_copy_54 rfl (lv_at hl 0 rfl) ?_
      refine va_get (D := G.1) (ci := 8) (v := .ref (t_a 1)) (C := RX8) (T := TX8) (N := 33) hx hb hw inW8 hown hK.1 hP 0 rfl rfl 1 (by decide) (hw _ kw_5_11) (fun _ h9 => h9) rfl dX8_copy_55 ?_
      refine lv_iconst (v := 0) hx hb dX8_copy_58 (by decide) ?_
      obtain ⟨hi_12, hf⟩ := rdI_in hf
      refine va_iald hx hb hK.1 hP 1 0 rfl rfl hi_12 dX8_copy_59 ?_
      refine lv_topi (fun x_11 ex_11 => ?_)
      have hf := hf x_11 ex_11
      refine lv_icmp_ge (tgt := 123) hx hb dX8_copy_60 (by decide) (fun c_13 => ?_) (fun c_13 => ?_)
      · have hf := ip c_13 hf
        exact hX _ _ _ _ _ hP hD hS (lv_sub hl [0, 1, 2, 3] rfl) hf
      · have hf := iq c_13 hf
        refine lv_aload_n hx hb dX8_copy_63 rfl (lv_at hl 0 rfl) ?_
        refine lv_iload_n hx hb dX8_copy_64 rfl (lv_at hl 3 rfl) ?_
        refine lv_iload hx hb dX8_copy_65 (lv_at hl 4 rfl) ?_
        obtain ⟨r_14, hc_15, hf⟩ := bd1_in hf
        refine rcI (va_runV (As := [.int l3, .int l4]) (rest := []) ⟨hx, hb, hml, hown, hw⟩ ((ctX8_isTied l G t_h t_a t_thrown t_all t_taped t_at t_behind t_size t_kind t_number t_wrong t_wrongAt t_faultKind t_faultPlace t_x t_wayLong t_bothLeast l3 l4 _ hc_15) _) (kV hw calX8_isTied kw_20_16 rfl rfl ⟨Nat.le_of_ble_eq_true rfl, Nat.le_of_ble_eq_true rfl⟩) (rpV (hP.sub (ws' := [oX8 t_h t_a t_thrown t_taped t_at t_behind t_size t_kind t_number t_wrong t_wrongAt t_faultKind t_faultPlace t_x t_wayLong t_bothLeast, arI G (t_a 1) 558 t_all]) [0, 1] rfl) hK (ci := 8) (q0 := 0) rfl rfl) rfl rfl hl.1 rfl (lv_room (Nat.le_of_ble_eq_true rfl)) dX8_copy_67 ⟨Nat.zero_le _, Nat.zero_le _⟩) hS hA hP (fun H locs hP hS => ?_)
        refine lv_if_eq (tgt := 117) hx hb dX8_copy_70 (by decide) (fun c_16 => ?_) (fun c_16 => ?_)
        · have hf := ip c_16 hf
          refine lv_iinc (v := (l4 + 1)) (lv' := [(4, .int (l4 + 1)), (0, .ref t_h), (1, .int v1), (2, .int l2), (3, .int l3)]) hx hb dX8_copy_117 hl (k := 4) rfl (by rfl) (by decide) rfl (fun ls hl => ?_)
          refine lv_goto (tgt := 52) hx hb dX8_copy_120 (by decide) ?_
          exact ih _ _ _ _ _ _ hP hD hS (lv_sub hl [1, 2, 3, 4, 0] rfl) hf hX
        · have hf := iq c_16 hf
          refine lv_iload_n hx hb dX8_copy_73 rfl (lv_at hl 2 rfl) ?_
          refine lv_aload_n hx hb dX8_copy_74 rfl (lv_at hl 0 rfl) ?_
          refine va_get (D := G.1) (ci := 8) (v := .ref (t_a 31)) (C := RX8) (T := TX8) (N := 33) hx hb hw inW8 hown hK.1 hP 0 rfl rfl 31 (by decide) (hw _ kw_6_6) (fun _ h9 => h9) rfl dX8_copy_75 ?_
          refine lv_iload_n hx hb dX8_copy_78 rfl (lv_at hl 1 rfl) ?_
          obtain ⟨hi_18, hf⟩ := rdI_in hf
          refine va_iald hx hb hK.1 hP 3 0 rfl rfl hi_18 dX8_copy_79 ?_
          refine lv_topi (fun x_17 ex_17 => ?_)
          have hf := hf x_17 ex_17
          refine lv_icmp_ne (tgt := 86) hx hb dX8_copy_80 (by decide) (fun c_19 => ?_) (fun c_19 => ?_)
          · have hf := iq c_19 hf
            refine lv_aload_n hx hb dX8_copy_86 rfl (lv_at hl 0 rfl) ?_
            refine va_get (D := G.1) (ci := 8) (v := .ref (t_a 32)) (C := RX8) (T := TX8) (N := 33) hx hb hw inW8 hown hK.1 hP 0 rfl rfl 32 (by decide) (hw _ kw_6_7) (fun _ h9 => h9) rfl dX8_copy_87 ?_
            refine lv_bipush (v := 40) hx hb dX8_copy_90 (by decide) ?_
            refine lv_iload_n hx hb dX8_copy_92 rfl (lv_at hl 1 rfl) ?_
            refine lv_imul hx hb dX8_copy_93 ?_
            refine lv_iload_n hx hb dX8_copy_94 rfl (lv_at hl 2 rfl) ?_
            refine lv_iadd hx hb dX8_copy_95 ?_
            refine lv_bipush (v := 20) hx hb dX8_copy_96 (by decide) ?_
            refine lv_iload_n hx hb dX8_copy_98 rfl (lv_at hl 3 rfl) ?_
            refine lv_imul hx hb dX8_copy_99 ?_
            refine lv_iload hx hb dX8_copy_100 (lv_at hl 4 rfl) ?_
            refine lv_iadd hx hb dX8_copy_102 ?_
            refine lv_i2l hx hb dX8_copy_103 rfl ?_
            refine lv_aload_n hx hb dX8_copy_104 rfl (lv_at hl 0 rfl) ?_
            refine va_get (D := G.1) (ci := 8) (v := .ref (t_a 30)) (C := RX8) (T := TX8) (N := 33) hx hb hw inW8 hown hK.1 hP 0 rfl rfl 30 (by decide) (hw _ kw_6_5) (fun _ h9 => h9) rfl dX8_copy_105 ?_
            refine lv_iload_n hx hb dX8_copy_108 rfl (lv_at hl 1 rfl) ?_
            obtain ⟨hi_21, hf⟩ := rdI_in hf
            refine va_iald hx hb hK.1 hP 2 0 rfl rfl hi_21 dX8_copy_109 ?_
            refine lv_topi (fun x_20 ex_20 => ?_)
            have hf := hf x_20 ex_20
            obtain ⟨r_22, hc_23, hf⟩ := bd1_in hf
            refine rcL (va_runS (As := [.long (Int32.toInt64 ((20 * l3) + l4)), .int x_20]) (rest := [.int ((40 * v1) + l2), .ref (t_a 32)]) ⟨hx, hb, hml, hown, hw⟩ ((ctX8_cutTo l G (Int32.toInt64 ((20 * l3) + l4)) x_20 _ hc_23) _) (kS hw calX8_cutTo kw_48_14 rfl rfl ⟨Nat.le_of_ble_eq_true rfl, Nat.le_of_ble_eq_true rfl⟩) (rpS (hP.sub (ws' := []) [] rfl) hK) rfl rfl hl.1 rfl (lv_room (Nat.le_of_ble_eq_true rfl)) dX8_copy_110 ⟨Nat.zero_le _, Nat.zero_le _⟩) hS hA hP (fun H locs hP hS => ?_)
            obtain ⟨hi_25, hf⟩ := wrL_in hf
            refine xlast hx hb hK.1 hP hD hS 4 2 rfl rfl hi_25 dX8_copy_113 (fun t_numbers_24 H locs et_numbers_24 hP hD hS => ?_)
            have hf := hf t_numbers_24 et_numbers_24
            have hP : va_P G.1 vwCl [oX8 t_h t_a t_thrown t_taped t_at t_behind t_size t_kind t_number t_wrong t_wrongAt t_faultKind t_faultPlace t_x t_wayLong t_bothLeast, arI G (t_a 1) 558 t_all, arI G (t_a 30) 4 t_rowSort, arI G (t_a 31) 4 t_rowMany, arJ G (t_a 32) 160 t_numbers_24] H := hP
            have hD : va_D A [oX8 t_h t_a t_thrown t_taped t_at t_behind t_size t_kind t_number t_wrong t_wrongAt t_faultKind t_faultPlace t_x t_wayLong t_bothLeast, arI G (t_a 1) 558 t_all, arI G (t_a 30) 4 t_rowSort, arI G (t_a 31) 4 t_rowMany, arJ G (t_a 32) 160 t_numbers_24] := hD
            refine lv_iinc (v := (l2 + 1)) (lv' := [(2, .int (l2 + 1)), (0, .ref t_h), (1, .int v1), (3, .int l3), (4, .int l4)]) hx hb dX8_copy_114 hl (k := 2) rfl (by rfl) (by decide) rfl (fun ls hl => ?_)
            refine lv_iinc (v := (l4 + 1)) (lv' := [(4, .int (l4 + 1)), (2, .int (l2 + 1)), (0, .ref t_h), (1, .int v1), (3, .int l3)]) hx hb dX8_copy_117 hl (k := 4) rfl (by rfl) (by decide) rfl (fun ls hl => ?_)
            refine lv_goto (tgt := 52) hx hb dX8_copy_120 (by decide) ?_
            exact ih _ _ _ _ _ _ hP hD hS (lv_sub hl [2, 3, 1, 4, 0] rfl) hf hX
          · have hf := ip c_19 hf
            refine lv_goto (tgt := 117) hx hb dX8_copy_83 (by decide) ?_
            refine lv_iinc (v := (l4 + 1)) (lv' := [(4, .int (l4 + 1)), (0, .ref t_h), (1, .int v1), (2, .int l2), (3, .int l3)]) hx hb dX8_copy_117 hl (k := 4) rfl (by rfl) (by decide) rfl (fun ls hl => ?_)
            refine lv_goto (tgt := 52) hx hb dX8_copy_120 (by decide) ?_
            exact ih _ _ _ _ _ _ hP hD hS (lv_sub hl [1, 2, 3, 4, 0] rfl) hf hX
  have L37 : ∀ (t_thrown : Int32) (K : Int32 → (Nat → Int64) → Option (Int32 × Int32 × (Nat → Int64))) (n : Nat) (l2 : Int32) (l3 : Int32) (t_numbers : Nat → Int64) (H : Heap) (locs : List Loc) (ls : Array Slot), va_P G.1 vwCl [oX8 t_h t_a t_thrown t_taped t_at t_behind t_size t_kind t_number t_wrong t_wrongAt t_faultKind t_faultPlace t_x t_wayLong t_bothLeast, arI G (t_a 1) 558 t_all, arI G (t_a 30) 4 t_rowSort, arI G (t_a 31) 4 t_rowMany, arJ G (t_a 32) 160 t_numbers] H → va_D A [oX8 t_h t_a t_thrown t_taped t_at t_behind t_size t_kind t_number t_wrong t_wrongAt t_faultKind t_faultPlace t_x t_wayLong t_bothLeast, arI G (t_a 1) 558 t_all, arI G (t_a 30) 4 t_rowSort, arI G (t_a 31) 4 t_rowMany, arJ G (t_a 32) 160 t_numbers] → va_S A s.heap H locs → lv_has ls 5 [(0, .ref t_h), (1, .int v1), (2, .int l2), (3, .int l3)] → fX8_copy_37 v1 t_all t_rowSort t_rowMany K n l2 l3 t_numbers = some (r, o_t_thrown, o_t_numbers) → (∀ (k2 : Int32) (kt_numbers : Nat → Int64) (H : Heap) (locs : List Loc) (ls : Array Slot), va_P G.1 vwCl [oX8 t_h t_a t_thrown t_taped t_at t_behind t_size t_kind t_number t_wrong t_wrongAt t_faultKind t_faultPlace t_x t_wayLong t_bothLeast, arI G (t_a 1) 558 t_all, arI G (t_a 30) 4 t_rowSort, arI G (t_a 31) 4 t_rowMany, arJ G (t_a 32) 160 kt_numbers] H → va_D A [oX8 t_h t_a t_thrown t_taped t_at t_behind t_size t_kind t_number t_wrong t_wrongAt t_faultKind t_faultPlace t_x t_wayLong t_bothLeast, arI G (t_a 1) 558 t_all, arI G (t_a 30) 4 t_rowSort, arI G (t_a 31) 4 t_rowMany, arJ G (t_a 32) 160 kt_numbers] → va_S A s.heap H locs → lv_has ls 5 [(2, .int k2)] → K k2 kt_numbers = some (r, o_t_thrown, o_t_numbers) → W p l e ({ frames := 1, cells := 0, slots := 0, locals := 25 } : Room) s m args below meth c H locs 0 0 Q (F0 m 129 ls [])) → W p l e ({ frames := 1, cells := 0, slots := 0, locals := 25 } : Room) s m args below meth c H locs 0 0 Q (F0 m 37 ls []) := by
    intro t_thrown K n
    induction n with
    | zero => intro l2 l3 t_numbers H locs ls hP hD hS hl hf; rw [fX8_copy_37] at hf; cases hf
    | succ n ih =>
      intro l2 l3 t_numbers H locs ls hP hD hS hl hf hX
      rw [fX8_copy_37] at hf
      refine lv_iload_n hx hb dX8_copy_37 rfl (lv_at hl 3 rfl) ?_
      refine lv_aload_n hx hb dX8_copy_38 rfl (lv_at hl 0 rfl) ?_
      refine va_get (D := G.1) (ci := 8) (v := .ref (t_a 1)) (C := RX8) (T := TX8) (N := 33) hx hb hw inW8 hown hK.1 hP 0 rfl rfl 1 (by decide) (hw _ kw_5_11) (fun _ h9 => h9) rfl dX8_copy_39 ?_
      refine lv_iconst (v := 0) hx hb dX8_copy_42 (by decide) ?_
      obtain ⟨hi_8, hf⟩ := rdI_in hf
      refine va_iald hx hb hK.1 hP 1 0 rfl rfl hi_8 dX8_copy_43 ?_
      refine lv_topi (fun x_7 ex_7 => ?_)
      have hf := hf x_7 ex_7
      refine lv_icmp_ge (tgt := 129) hx hb dX8_copy_44 (by decide) (fun c_9 => ?_) (fun c_9 => ?_)
      · have hf := ip c_9 hf
        exact hX _ _ _ _ _ hP hD hS (lv_sub hl [2] rfl) hf
      · have hf := iq c_9 hf
        refine lv_iload_n hx hb dX8_copy_47 rfl (lv_at hl 3 rfl) ?_
        refine lv_iconst (v := 1) hx hb dX8_copy_48 (by decide) ?_
        refine lv_iadd hx hb dX8_copy_49 ?_
        refine lv_topi (fun y_10 ey_10 => ?_)
        have hf := bnd_all hf y_10 ey_10
        refine lv_istore (lv' := [(4, .int y_10), (0, .ref t_h), (1, .int v1), (2, .int l2), (3, .int l3)]) hx hb dX8_copy_50 hl (by decide) rfl (fun ls hl => ?_)
        refine L52 _ _ _ _ _ _ _ _ _ _ hP hD hS (lv_sub hl [1, 2, 3, 4, 0] rfl) hf (fun w_26 t_numbers_27 H locs ls hP hD hS hl hf => ?_)
        refine lv_iinc (v := (l3 + 1)) (lv' := [(3, .int (l3 + 1)), (0, .ref t_h), (1, .int v1), (2, .int w_26)]) hx hb dX8_copy_123 hl (k := 3) rfl (by rfl) (by decide) rfl (fun ls hl => ?_)
        refine lv_goto (tgt := 37) hx hb dX8_copy_126 (by decide) ?_
        exact ih _ _ _ _ _ _ hP hD hS (lv_sub hl [1, 2, 3, 0] rfl) hf hX
  unfold fX8_copy at hf
  refine lv_aload_n hx hb dX8_copy_0 rfl (lv_at hl 0 rfl) ?_
  refine lv_iconst (v := 0) hx hb dX8_copy_1 (by decide) ?_
  refine va_put (D := G.1) (ci := 8) (v := .int 0) (ty := .int) (C := RX8) (T := TX8) (N := 33) hx hb hw inW8 tyX8 tyX8_ok nmX8 hown hK.1 hP hD hS 0 rfl rfl 0 (by decide) (hw _ kw_6_21) (fun _ h9 => h9) rfl (by decide +kernel) rfl rfl (Nat.le_of_ble_eq_true rfl) dX8_copy_2 (fun H locs hP hD hS => ?_)
  have hP : va_P G.1 vwCl [oX8 t_h t_a 0 t_taped t_at t_behind t_size t_kind t_number t_wrong t_wrongAt t_faultKind t_faultPlace t_x t_wayLong t_bothLeast, arI G (t_a 1) 558 t_all, arI G (t_a 30) 4 t_rowSort, arI G (t_a 31) 4 t_rowMany, arJ G (t_a 32) 160 t_numbers] H := hP
  have hD : va_D A [oX8 t_h t_a 0 t_taped t_at t_behind t_size t_kind t_number t_wrong t_wrongAt t_faultKind t_faultPlace t_x t_wayLong t_bothLeast, arI G (t_a 1) 558 t_all, arI G (t_a 30) 4 t_rowSort, arI G (t_a 31) 4 t_rowMany, arJ G (t_a 32) 160 t_numbers] := hD
  refine lv_iload_n hx hb dX8_copy_5 rfl (lv_at hl 1 rfl) ?_
  refine lv_i2l hx hb dX8_copy_6 rfl ?_
  refine lv_lconst (v := 0) hx hb dX8_copy_7 (by decide) ?_
  refine lv_ldc2 hx hb hown (hw _ kw_20_3) dX8_copy_8 ?_
  obtain ⟨r_1, hc_2, hf⟩ := bd1_in hf
  refine rcI (va_runS (As := [.long (Int32.toInt64 v1), .long 0, .long 3]) (rest := []) ⟨hx, hb, hml, hown, hw⟩ ((ctX8_within l G (Int32.toInt64 v1) 0 3 _ hc_2) _) (kS hw calX8_within kw_14_2 rfl rfl ⟨Nat.le_of_ble_eq_true rfl, Nat.le_of_ble_eq_true rfl⟩) (rpS (hP.sub (ws' := []) [] rfl) hK) rfl rfl hl.1 rfl (lv_room (Nat.le_of_ble_eq_true rfl)) dX8_copy_11 ⟨Nat.zero_le _, Nat.zero_le _⟩) hS hA hP (fun H locs hP hS => ?_)
  refine lv_if_ne (tgt := 20) hx hb dX8_copy_14 (by decide) (fun c_3 => ?_) (fun c_3 => ?_)
  · have hf := iq c_3 hf
    refine lv_aload_n hx hb dX8_copy_20 rfl (lv_at hl 0 rfl) ?_
    refine va_get (D := G.1) (ci := 8) (v := .ref (t_a 30)) (C := RX8) (T := TX8) (N := 33) hx hb hw inW8 hown hK.1 hP 0 rfl rfl 30 (by decide) (hw _ kw_6_5) (fun _ h9 => h9) rfl dX8_copy_21 ?_
    refine lv_iload_n hx hb dX8_copy_24 rfl (lv_at hl 1 rfl) ?_
    obtain ⟨hi_5, hf⟩ := rdI_in hf
    refine va_iald hx hb hK.1 hP 2 0 rfl rfl hi_5 dX8_copy_25 ?_
    refine lv_topi (fun x_4 ex_4 => ?_)
    have hf := hf x_4 ex_4
    refine lv_iconst (v := (-1)) hx hb dX8_copy_26 (by decide) ?_
    refine lv_icmp_ne (tgt := 33) hx hb dX8_copy_27 (by decide) (fun c_6 => ?_) (fun c_6 => ?_)
    · have hf := iq c_6 hf
      refine lv_iconst (v := 0) hx hb dX8_copy_33 (by decide) ?_
      refine lv_istore_n (lv' := [(2, .int 0), (0, .ref t_h), (1, .int v1)]) hx hb dX8_copy_34 rfl hl (by decide) rfl (fun ls hl => ?_)
      refine lv_iconst (v := 0) hx hb dX8_copy_35 (by decide) ?_
      refine lv_istore_n (lv' := [(3, .int 0), (2, .int 0), (0, .ref t_h), (1, .int v1)]) hx hb dX8_copy_36 rfl hl (by decide) rfl (fun ls hl => ?_)
      refine L37 _ _ _ _ _ _ _ _ _ hP hD hS (lv_sub hl [2, 3, 1, 0] rfl) hf (fun w_28 t_numbers_29 H locs ls hP hD hS hl hf => ?_)
      refine lv_iload_n hx hb dX8_copy_129 rfl (lv_at hl 0 rfl) ?_
      exact hRet _ _ _ _ _ _ _ hf hP hS dX8_copy_130
    · have hf := ip c_6 hf
      refine lv_bipush (v := (-6)) hx hb dX8_copy_30 (by decide) ?_
      exact hRet _ _ _ _ _ _ _ hf hP hS dX8_copy_32
  · have hf := ip c_3 hf
    refine lv_bipush (v := (-2)) hx hb dX8_copy_17 (by decide) ?_
    exact hRet _ _ _ _ _ _ _ hf hP hS dX8_copy_19
theorem calX8_image : CalV yX8_image cX8_image 3 (some .int) 1 := ⟨⟨kw_49_8, kw_1_5, by decide +kernel⟩, kw_49_6, kw_49_7⟩
set_option maxHeartbeats 8000000 in
set_option maxRecDepth 100000 in
theorem ctX8_image (l : Launch) (G : GT) (t_h : Nat) (t_a : Nat → Nat) (t_thrown : Int32) (t_all : Nat → Int32) (t_hasImage : Nat → Int32) (t_taped : Int32) (t_at : Int32) (t_behind : Int32) (t_size : Int32) (t_kind : Int32) (t_number : Int32) (t_wrong : Int32) (t_wrongAt : Int32) (t_faultKind : Int32) (t_faultPlace : Int32) (t_x : Int32) (t_wayLong : Int32) (t_bothLeast : Int32) (v1 : Int32) (r : Int32) (o_t_thrown : Int32) (o_t_all : Nat → Int32) (o_t_hasImage : Nat → Int32) (hf : fX8_image t_thrown t_all t_hasImage v1 = some (r, o_t_thrown, o_t_all, o_t_hasImage)) : WrI l yX8_image (Cond.code yX8_image cX8_image 3 (some .int)) { frames := 1, cells := 0, slots := 0, locals := 25 } G [.ref t_h, .int v1] [oX8 t_h t_a t_thrown t_taped t_at t_behind t_size t_kind t_number t_wrong t_wrongAt t_faultKind t_faultPlace t_x t_wayLong t_bothLeast, arI G (t_a 1) 558 t_all, arZ G (t_a 2) 2 t_hasImage] [oX8 t_h t_a o_t_thrown t_taped t_at t_behind t_size t_kind t_number t_wrong t_wrongAt t_faultKind t_faultPlace t_x t_wayLong t_bothLeast, arI G (t_a 1) 558 o_t_all, arZ G (t_a 2) 2 o_t_hasImage] r := by
  intro sz
  refine Met.ofW (cc := cX8_image) (maxL := 3) (ret := (some .int)) (by decide) rfl ?_
  intro p e s m args below meth c s₁ B hml hv
  obtain ⟨hargs, hsz, hP, hD0, hK⟩ := hv
  subst hsz
  obtain ⟨hx, hb, hr, hw, hown, hlk⟩ := fwB B
  refine fw_enter hargs (Nat.le_of_ble_eq_true rfl) (fun ls hl => ?_)
  have hl : lv_has ls 3 [(0, .ref t_h), (1, .int v1)] := hl
  refine fw_Q (P := fun Q => ∃ A : Nat → Prop, va_D A [oX8 t_h t_a t_thrown t_taped t_at t_behind t_size t_kind t_number t_wrong t_wrongAt t_faultKind t_faultPlace t_x t_wayLong t_bothLeast, arI G (t_a 1) 558 t_all, arZ G (t_a 2) 2 t_hasImage] ∧ va_S A s.heap s.heap [] ∧ (∀ q, s.heap.size ≤ q → A q) ∧ ∀ (v : Int32) (n_t_thrown : Int32) (n_t_all : Nat → Int32) (n_t_hasImage : Nat → Int32) (H : Heap) (locs : List Loc) (pc : Nat) (ls : Array Slot), some (v, n_t_thrown, n_t_all, n_t_hasImage) = some (r, o_t_thrown, o_t_all, o_t_hasImage) → va_P G.1 vwCl [oX8 t_h t_a n_t_thrown t_taped t_at t_behind t_size t_kind t_number t_wrong t_wrongAt t_faultKind t_faultPlace t_x t_wayLong t_bothLeast, arI G (t_a 1) 558 n_t_all, arZ G (t_a 2) 2 n_t_hasImage] H → va_S A s.heap H locs → decode cX8_image pc = .ok (.ireturn, 1) → W p l e ({ frames := 1, cells := 0, slots := 0, locals := 25 } : Room) s m args below meth c H locs 0 0 Q (F0 m pc ls [.int v])) ⟨va_A [oX8 t_h t_a t_thrown t_taped t_at t_behind t_size t_kind t_number t_wrong t_wrongAt t_faultKind t_faultPlace t_x t_wayLong t_bothLeast, arI G (t_a 1) 558 t_all, arZ G (t_a 2) 2 t_hasImage] s.heap.size, hD0.self (sz := s.heap.size), va_S.rf, fun q h => Or.inr h, ?_⟩ ?_
  · intro v n_t_thrown n_t_all n_t_hasImage H locs pc ls h hP hS hd
    cases h
    exact retWI hx hb hr hlk hS hP rfl hd
  rintro Q ⟨A, hD, hS, hA, hRet⟩
  change W p l e ({ frames := 1, cells := 0, slots := 0, locals := 25 } : Room) s m args below meth c _ _ 0 0 Q _
  have L20 : ∀ (t_thrown : Int32) (t_hasImage : Nat → Int32) (K : (Nat → Int32) → Option (Int32 × Int32 × (Nat → Int32) × (Nat → Int32))) (n : Nat) (l2 : Int32) (t_all : Nat → Int32) (H : Heap) (locs : List Loc) (ls : Array Slot), va_P G.1 vwCl [oX8 t_h t_a t_thrown t_taped t_at t_behind t_size t_kind t_number t_wrong t_wrongAt t_faultKind t_faultPlace t_x t_wayLong t_bothLeast, arI G (t_a 1) 558 t_all, arZ G (t_a 2) 2 t_hasImage] H → va_D A [oX8 t_h t_a t_thrown t_taped t_at t_behind t_size t_kind t_number t_wrong t_wrongAt t_faultKind t_faultPlace t_x t_wayLong t_bothLeast, arI G (t_a 1) 558 t_all, arZ G (t_a 2) 2 t_hasImage] → va_S A s.heap H locs → lv_has ls 3 [(0, .ref t_h), (1, .int v1), (2, .int l2)] → fX8_image_20 v1 K n l2 t_all = some (r, o_t_thrown, o_t_all, o_t_hasImage) → (∀ (kt_all : Nat → Int32) (H : Heap) (locs : List Loc) (ls : Array Slot), va_P G.1 vwCl [oX8 t_h t_a t_thrown t_taped t_at t_behind t_size t_kind t_number t_wrong t_wrongAt t_faultKind t_faultPlace t_x t_wayLong t_bothLeast, arI G (t_a 1) 558 kt_all, arZ G (t_a 2) 2 t_hasImage] H → va_D A [oX8 t_h t_a t_thrown t_taped t_at t_behind t_size t_kind t_number t_wrong t_wrongAt t_faultKind t_faultPlace t_x t_wayLong t_bothLeast, arI G (t_a 1) 558 kt_all, arZ G (t_a 2) 2 t_hasImage] → va_S A s.heap H locs → lv_has ls 3 [(0, .ref t_h), (1, .int v1)] → K kt_all = some (r, o_t_thrown, o_t_all, o_t_hasImage) → W p l e ({ frames := 1, cells := 0, slots := 0, locals := 25 } : Room) s m args below meth c H locs 0 0 Q (F0 m 53 ls [])) → W p l e ({ frames := 1, cells := 0, slots := 0, locals := 25 } : Room) s m args below meth c H locs 0 0 Q (F0 m 20 ls []) := by
    intro t_thrown t_hasImage K n
    induction n with
    | zero => intro l2 t_all H locs ls hP hD hS hl hf; rw [fX8_image_20] at hf; cases hf
    | succ n ih =>
      intro l2 t_all H locs ls hP hD hS hl hf hX
      rw [fX8_image_20] at hf
      refine lv_iload_n hx hb dX8_image_20 rfl (lv_at hl 2 rfl) ?_
      refine lv_sipush (v := 186) hx hb dX8_image_21 (by decide) ?_
      refine lv_icmp_ge (tgt := 53) hx hb dX8_image_24 (by decide) (fun c_4 => ?_) (fun c_4 => ?_)
      · have hf := ip c_4 hf
        exact hX _ _ _ _ hP hD hS (lv_sub hl [0, 1] rfl) hf
      · have hf := iq c_4 hf
        refine lv_aload_n hx hb dX8_image_27 rfl (lv_at hl 0 rfl) ?_
        refine va_get (D := G.1) (ci := 8) (v := .ref (t_a 1)) (C := RX8) (T := TX8) (N := 33) hx hb hw inW8 hown hK.1 hP 0 rfl rfl 1 (by decide) (hw _ kw_5_11) (fun _ h9 => h9) rfl dX8_image_28 ?_
        refine lv_sipush (v := 186) hx hb dX8_image_31 (by decide) ?_
        refine lv_iload_n hx hb dX8_image_34 rfl (lv_at hl 1 rfl) ?_
        refine lv_iconst (v := 1) hx hb dX8_image_35 (by decide) ?_
        refine lv_iadd hx hb dX8_image_36 ?_
        refine lv_imul hx hb dX8_image_37 ?_
        refine lv_iload_n hx hb dX8_image_38 rfl (lv_at hl 2 rfl) ?_
        refine lv_iadd hx hb dX8_image_39 ?_
        refine lv_aload_n hx hb dX8_image_40 rfl (lv_at hl 0 rfl) ?_
        refine va_get (D := G.1) (ci := 8) (v := .ref (t_a 1)) (C := RX8) (T := TX8) (N := 33) hx hb hw inW8 hown hK.1 hP 0 rfl rfl 1 (by decide) (hw _ kw_5_11) (fun _ h9 => h9) rfl dX8_image_41 ?_
        refine lv_iload_n hx hb dX8_image_44 rfl (lv_at hl 2 rfl) ?_
        obtain ⟨hi_6, hf⟩ := rdI_in hf
        refine va_iald hx hb hK.1 hP 1 0 rfl rfl hi_6 dX8_image_45 ?_
        refine lv_topi (fun x_5 ex_5 => ?_)
        have hf := hf x_5 ex_5
        obtain ⟨hi_8, hf⟩ := wrI_in hf
        refine xiast hx hb hK.1 hP hD hS 1 0 rfl rfl hi_8 dX8_image_46 (fun t_all_7 H locs et_all_7 hP hD hS => ?_)
        have hf := hf t_all_7 et_all_7
        have hP : va_P G.1 vwCl [oX8 t_h t_a t_thrown t_taped t_at t_behind t_size t_kind t_number t_wrong t_wrongAt t_faultKind t_faultPlace t_x t_wayLong t_bothLeast, arI G (t_a 1) 558 t_all_7, arZ G (t_a 2) 2 t_hasImage] H := hP
        have hD : va_D A [oX8 t_h t_a t_thrown t_taped t_at t_behind t_size t_kind t_number t_wrong t_wrongAt t_faultKind t_faultPlace t_x t_wayLong t_bothLeast, arI G (t_a 1) 558 t_all_7, arZ G (t_a 2) 2 t_hasImage] := hD
        refine lv_iinc (v := (l2 + 1)) (lv' := [(2, .int (l2 + 1)), (0, .ref t_h), (1, .int v1)]) hx hb dX8_image_47 hl (k := 2) rfl (by rfl) (by decide) rfl (fun ls hl => ?_)
        refine lv_goto (tgt := 20) hx hb dX8_image_50 (by decide) ?_
        exact ih _ _ _ _ _ hP hD hS (lv_sub hl [1, 2, 0] rfl) hf hX
  unfold fX8_image at hf
  refine lv_aload_n hx hb dX8_image_0 rfl (lv_at hl 0 rfl) ?_
  refine lv_iconst (v := 0) hx hb dX8_image_1 (by decide) ?_
  refine va_put (D := G.1) (ci := 8) (v := .int 0) (ty := .int) (C := RX8) (T := TX8) (N := 33) hx hb hw inW8 tyX8 tyX8_ok nmX8 hown hK.1 hP hD hS 0 rfl rfl 0 (by decide) (hw _ kw_6_21) (fun _ h9 => h9) rfl (by decide +kernel) rfl rfl (Nat.le_of_ble_eq_true rfl) dX8_image_2 (fun H locs hP hD hS => ?_)
  have hP : va_P G.1 vwCl [oX8 t_h t_a 0 t_taped t_at t_behind t_size t_kind t_number t_wrong t_wrongAt t_faultKind t_faultPlace t_x t_wayLong t_bothLeast, arI G (t_a 1) 558 t_all, arZ G (t_a 2) 2 t_hasImage] H := hP
  have hD : va_D A [oX8 t_h t_a 0 t_taped t_at t_behind t_size t_kind t_number t_wrong t_wrongAt t_faultKind t_faultPlace t_x t_wayLong t_bothLeast, arI G (t_a 1) 558 t_all, arZ G (t_a 2) 2 t_hasImage] := hD
  refine lv_iload_n hx hb dX8_image_5 rfl (lv_at hl 1 rfl) ?_
  refine lv_i2l hx hb dX8_image_6 rfl ?_
  refine lv_lconst (v := 0) hx hb dX8_image_7 (by decide) ?_
  refine lv_lconst (v := 1) hx hb dX8_image_8 (by decide) ?_
  obtain ⟨r_1, hc_2, hf⟩ := bd1_in hf
  refine rcI (va_runS (As := [.long (Int32.toInt64 v1), .long 0, .long 1]) (rest := []) ⟨hx, hb, hml, hown, hw⟩ ((ctX8_within l G (Int32.toInt64 v1) 0 1 _ hc_2) _) (kS hw calX8_within kw_14_2 rfl rfl ⟨Nat.le_of_ble_eq_true rfl, Nat.le_of_ble_eq_true rfl⟩) (rpS (hP.sub (ws' := []) [] rfl) hK) rfl rfl hl.1 rfl (lv_room (Nat.le_of_ble_eq_true rfl)) dX8_image_9 ⟨Nat.zero_le _, Nat.zero_le _⟩) hS hA hP (fun H locs hP hS => ?_)
  refine lv_if_ne (tgt := 18) hx hb dX8_image_12 (by decide) (fun c_3 => ?_) (fun c_3 => ?_)
  · have hf := iq c_3 hf
    refine lv_iconst (v := 0) hx hb dX8_image_18 (by decide) ?_
    refine lv_istore_n (lv' := [(2, .int 0), (0, .ref t_h), (1, .int v1)]) hx hb dX8_image_19 rfl hl (by decide) rfl (fun ls hl => ?_)
    refine L20 _ _ _ _ _ _ _ _ _ hP hD hS (lv_sub hl [1, 2, 0] rfl) hf (fun t_all_9 H locs ls hP hD hS hl hf => ?_)
    refine lv_aload_n hx hb dX8_image_53 rfl (lv_at hl 0 rfl) ?_
    refine va_get (D := G.1) (ci := 8) (v := .ref (t_a 2)) (C := RX8) (T := TX8) (N := 33) hx hb hw inW8 hown hK.1 hP 0 rfl rfl 2 (by decide) (hw _ kw_5_12) (fun _ h9 => h9) rfl dX8_image_54 ?_
    refine lv_iload_n hx hb dX8_image_57 rfl (lv_at hl 1 rfl) ?_
    refine lv_iconst (v := 1) hx hb dX8_image_58 (by decide) ?_
    obtain ⟨hi_11, hf⟩ := wrI_in hf
    refine xzast hx hb hK.1 hP hD hS 2 3 rfl rfl hi_11 dX8_image_59 (fun t_hasImage_10 H locs et_hasImage_10 hP hD hS => ?_)
    have hf := hf t_hasImage_10 et_hasImage_10
    have hP : va_P G.1 vwCl [oX8 t_h t_a 0 t_taped t_at t_behind t_size t_kind t_number t_wrong t_wrongAt t_faultKind t_faultPlace t_x t_wayLong t_bothLeast, arI G (t_a 1) 558 t_all_9, arZ G (t_a 2) 2 t_hasImage_10] H := hP
    have hD : va_D A [oX8 t_h t_a 0 t_taped t_at t_behind t_size t_kind t_number t_wrong t_wrongAt t_faultKind t_faultPlace t_x t_wayLong t_bothLeast, arI G (t_a 1) 558 t_all_9, arZ G (t_a 2) 2 t_hasImage_10] := hD
    refine lv_iconst (v := 0) hx hb dX8_image_60 (by decide) ?_
    exact hRet _ _ _ _ _ _ _ _ hf hP hS dX8_image_61
  · have hf := ip c_3 hf
    refine lv_bipush (v := (-2)) hx hb dX8_image_15 (by decide) ?_
    exact hRet _ _ _ _ _ _ _ _ hf hP hS dX8_image_17
theorem calX8_restore : CalV yX8_restore cX8_restore 3 (some .int) 1 := ⟨⟨kw_49_16, kw_1_5, by decide +kernel⟩, kw_49_14, kw_49_15⟩
set_option maxHeartbeats 8000000 in
set_option maxRecDepth 100000 in
theorem ctX8_restore (l : Launch) (G : GT) (t_h : Nat) (t_a : Nat → Nat) (t_thrown : Int32) (t_all : Nat → Int32) (t_hasImage : Nat → Int32) (t_taped : Int32) (t_at : Int32) (t_behind : Int32) (t_size : Int32) (t_kind : Int32) (t_number : Int32) (t_wrong : Int32) (t_wrongAt : Int32) (t_faultKind : Int32) (t_faultPlace : Int32) (t_x : Int32) (t_wayLong : Int32) (t_bothLeast : Int32) (v1 : Int32) (r : Int32) (o_t_thrown : Int32) (o_t_all : Nat → Int32) (hf : fX8_restore t_thrown t_all t_hasImage v1 = some (r, o_t_thrown, o_t_all)) : WrI l yX8_restore (Cond.code yX8_restore cX8_restore 3 (some .int)) { frames := 1, cells := 0, slots := 0, locals := 25 } G [.ref t_h, .int v1] [oX8 t_h t_a t_thrown t_taped t_at t_behind t_size t_kind t_number t_wrong t_wrongAt t_faultKind t_faultPlace t_x t_wayLong t_bothLeast, arI G (t_a 1) 558 t_all, arZ G (t_a 2) 2 t_hasImage] [oX8 t_h t_a o_t_thrown t_taped t_at t_behind t_size t_kind t_number t_wrong t_wrongAt t_faultKind t_faultPlace t_x t_wayLong t_bothLeast, arI G (t_a 1) 558 o_t_all, arZ G (t_a 2) 2 t_hasImage] r := by
  intro sz
  refine Met.ofW (cc := cX8_restore) (maxL := 3) (ret := (some .int)) (by decide) rfl ?_
  intro p e s m args below meth c s₁ B hml hv
  obtain ⟨hargs, hsz, hP, hD0, hK⟩ := hv
  subst hsz
  obtain ⟨hx, hb, hr, hw, hown, hlk⟩ := fwB B
  refine fw_enter hargs (Nat.le_of_ble_eq_true rfl) (fun ls hl => ?_)
  have hl : lv_has ls 3 [(0, .ref t_h), (1, .int v1)] := hl
  refine fw_Q (P := fun Q => ∃ A : Nat → Prop, va_D A [oX8 t_h t_a t_thrown t_taped t_at t_behind t_size t_kind t_number t_wrong t_wrongAt t_faultKind t_faultPlace t_x t_wayLong t_bothLeast, arI G (t_a 1) 558 t_all, arZ G (t_a 2) 2 t_hasImage] ∧ va_S A s.heap s.heap [] ∧ (∀ q, s.heap.size ≤ q → A q) ∧ ∀ (v : Int32) (n_t_thrown : Int32) (n_t_all : Nat → Int32) (H : Heap) (locs : List Loc) (pc : Nat) (ls : Array Slot), some (v, n_t_thrown, n_t_all) = some (r, o_t_thrown, o_t_all) → va_P G.1 vwCl [oX8 t_h t_a n_t_thrown t_taped t_at t_behind t_size t_kind t_number t_wrong t_wrongAt t_faultKind t_faultPlace t_x t_wayLong t_bothLeast, arI G (t_a 1) 558 n_t_all, arZ G (t_a 2) 2 t_hasImage] H → va_S A s.heap H locs → decode cX8_restore pc = .ok (.ireturn, 1) → W p l e ({ frames := 1, cells := 0, slots := 0, locals := 25 } : Room) s m args below meth c H locs 0 0 Q (F0 m pc ls [.int v])) ⟨va_A [oX8 t_h t_a t_thrown t_taped t_at t_behind t_size t_kind t_number t_wrong t_wrongAt t_faultKind t_faultPlace t_x t_wayLong t_bothLeast, arI G (t_a 1) 558 t_all, arZ G (t_a 2) 2 t_hasImage] s.heap.size, hD0.self (sz := s.heap.size), va_S.rf, fun q h => Or.inr h, ?_⟩ ?_
  · intro v n_t_thrown n_t_all H locs pc ls h hP hS hd
    cases h
    exact retWI hx hb hr hlk hS hP rfl hd
  rintro Q ⟨A, hD, hS, hA, hRet⟩
  change W p l e ({ frames := 1, cells := 0, slots := 0, locals := 25 } : Room) s m args below meth c _ _ 0 0 Q _
  have L32 : ∀ (t_thrown : Int32) (K : (Nat → Int32) → Option (Int32 × Int32 × (Nat → Int32))) (n : Nat) (l2 : Int32) (t_all : Nat → Int32) (H : Heap) (locs : List Loc) (ls : Array Slot), va_P G.1 vwCl [oX8 t_h t_a t_thrown t_taped t_at t_behind t_size t_kind t_number t_wrong t_wrongAt t_faultKind t_faultPlace t_x t_wayLong t_bothLeast, arI G (t_a 1) 558 t_all, arZ G (t_a 2) 2 t_hasImage] H → va_D A [oX8 t_h t_a t_thrown t_taped t_at t_behind t_size t_kind t_number t_wrong t_wrongAt t_faultKind t_faultPlace t_x t_wayLong t_bothLeast, arI G (t_a 1) 558 t_all, arZ G (t_a 2) 2 t_hasImage] → va_S A s.heap H locs → lv_has ls 3 [(0, .ref t_h), (1, .int v1), (2, .int l2)] → fX8_restore_32 v1 K n l2 t_all = some (r, o_t_thrown, o_t_all) → (∀ (kt_all : Nat → Int32) (H : Heap) (locs : List Loc) (ls : Array Slot), va_P G.1 vwCl [oX8 t_h t_a t_thrown t_taped t_at t_behind t_size t_kind t_number t_wrong t_wrongAt t_faultKind t_faultPlace t_x t_wayLong t_bothLeast, arI G (t_a 1) 558 kt_all, arZ G (t_a 2) 2 t_hasImage] H → va_D A [oX8 t_h t_a t_thrown t_taped t_at t_behind t_size t_kind t_number t_wrong t_wrongAt t_faultKind t_faultPlace t_x t_wayLong t_bothLeast, arI G (t_a 1) 558 kt_all, arZ G (t_a 2) 2 t_hasImage] → va_S A s.heap H locs → lv_has ls 3 [] → K kt_all = some (r, o_t_thrown, o_t_all) → W p l e ({ frames := 1, cells := 0, slots := 0, locals := 25 } : Room) s m args below meth c H locs 0 0 Q (F0 m 65 ls [])) → W p l e ({ frames := 1, cells := 0, slots := 0, locals := 25 } : Room) s m args below meth c H locs 0 0 Q (F0 m 32 ls []) := by
    intro t_thrown K n
    induction n with
    | zero => intro l2 t_all H locs ls hP hD hS hl hf; rw [fX8_restore_32] at hf; cases hf
    | succ n ih =>
      intro l2 t_all H locs ls hP hD hS hl hf hX
      rw [fX8_restore_32] at hf
      refine lv_iload_n hx hb dX8_restore_32 rfl (lv_at hl 2 rfl) ?_
      refine lv_sipush (v := 186) hx hb dX8_restore_33 (by decide) ?_
      refine lv_icmp_ge (tgt := 65) hx hb dX8_restore_36 (by decide) (fun c_7 => ?_) (fun c_7 => ?_)
      · have hf := ip c_7 hf
        exact hX _ _ _ _ hP hD hS (lv_sub hl [] rfl) hf
      · have hf := iq c_7 hf
        refine lv_aload_n hx hb dX8_restore_39 rfl (lv_at hl 0 rfl) ?_
        refine va_get (D := G.1) (ci := 8) (v := .ref (t_a 1)) (C := RX8) (T := TX8) (N := 33) hx hb hw inW8 hown hK.1 hP 0 rfl rfl 1 (by decide) (hw _ kw_5_11) (fun _ h9 => h9) rfl dX8_restore_40 ?_
        refine lv_iload_n hx hb dX8_restore_43 rfl (lv_at hl 2 rfl) ?_
        refine lv_aload_n hx hb dX8_restore_44 rfl (lv_at hl 0 rfl) ?_
        refine va_get (D := G.1) (ci := 8) (v := .ref (t_a 1)) (C := RX8) (T := TX8) (N := 33) hx hb hw inW8 hown hK.1 hP 0 rfl rfl 1 (by decide) (hw _ kw_5_11) (fun _ h9 => h9) rfl dX8_restore_45 ?_
        refine lv_sipush (v := 186) hx hb dX8_restore_48 (by decide) ?_
        refine lv_iload_n hx hb dX8_restore_51 rfl (lv_at hl 1 rfl) ?_
        refine lv_iconst (v := 1) hx hb dX8_restore_52 (by decide) ?_
        refine lv_iadd hx hb dX8_restore_53 ?_
        refine lv_imul hx hb dX8_restore_54 ?_
        refine lv_iload_n hx hb dX8_restore_55 rfl (lv_at hl 2 rfl) ?_
        refine lv_iadd hx hb dX8_restore_56 ?_
        obtain ⟨hi_9, hf⟩ := rdI_in hf
        refine va_iald hx hb hK.1 hP 1 0 rfl rfl hi_9 dX8_restore_57 ?_
        refine lv_topi (fun x_8 ex_8 => ?_)
        have hf := hf x_8 ex_8
        obtain ⟨hi_11, hf⟩ := wrI_in hf
        refine xiast hx hb hK.1 hP hD hS 1 0 rfl rfl hi_11 dX8_restore_58 (fun t_all_10 H locs et_all_10 hP hD hS => ?_)
        have hf := hf t_all_10 et_all_10
        have hP : va_P G.1 vwCl [oX8 t_h t_a t_thrown t_taped t_at t_behind t_size t_kind t_number t_wrong t_wrongAt t_faultKind t_faultPlace t_x t_wayLong t_bothLeast, arI G (t_a 1) 558 t_all_10, arZ G (t_a 2) 2 t_hasImage] H := hP
        have hD : va_D A [oX8 t_h t_a t_thrown t_taped t_at t_behind t_size t_kind t_number t_wrong t_wrongAt t_faultKind t_faultPlace t_x t_wayLong t_bothLeast, arI G (t_a 1) 558 t_all_10, arZ G (t_a 2) 2 t_hasImage] := hD
        refine lv_iinc (v := (l2 + 1)) (lv' := [(2, .int (l2 + 1)), (0, .ref t_h), (1, .int v1)]) hx hb dX8_restore_59 hl (k := 2) rfl (by rfl) (by decide) rfl (fun ls hl => ?_)
        refine lv_goto (tgt := 32) hx hb dX8_restore_62 (by decide) ?_
        exact ih _ _ _ _ _ hP hD hS (lv_sub hl [1, 2, 0] rfl) hf hX
  unfold fX8_restore at hf
  refine lv_aload_n hx hb dX8_restore_0 rfl (lv_at hl 0 rfl) ?_
  refine lv_iconst (v := 0) hx hb dX8_restore_1 (by decide) ?_
  refine va_put (D := G.1) (ci := 8) (v := .int 0) (ty := .int) (C := RX8) (T := TX8) (N := 33) hx hb hw inW8 tyX8 tyX8_ok nmX8 hown hK.1 hP hD hS 0 rfl rfl 0 (by decide) (hw _ kw_6_21) (fun _ h9 => h9) rfl (by decide +kernel) rfl rfl (Nat.le_of_ble_eq_true rfl) dX8_restore_2 (fun H locs hP hD hS => ?_)
  have hP : va_P G.1 vwCl [oX8 t_h t_a 0 t_taped t_at t_behind t_size t_kind t_number t_wrong t_wrongAt t_faultKind t_faultPlace t_x t_wayLong t_bothLeast, arI G (t_a 1) 558 t_all, arZ G (t_a 2) 2 t_hasImage] H := hP
  have hD : va_D A [oX8 t_h t_a 0 t_taped t_at t_behind t_size t_kind t_number t_wrong t_wrongAt t_faultKind t_faultPlace t_x t_wayLong t_bothLeast, arI G (t_a 1) 558 t_all, arZ G (t_a 2) 2 t_hasImage] := hD
  refine lv_iload_n hx hb dX8_restore_5 rfl (lv_at hl 1 rfl) ?_
  refine lv_i2l hx hb dX8_restore_6 rfl ?_
  refine lv_lconst (v := 0) hx hb dX8_restore_7 (by decide) ?_
  refine lv_lconst (v := 1) hx hb dX8_restore_8 (by decide) ?_
  obtain ⟨r_1, hc_2, hf⟩ := bd1_in hf
  refine rcI (va_runS (As := [.long (Int32.toInt64 v1), .long 0, .long 1]) (rest := []) ⟨hx, hb, hml, hown, hw⟩ ((ctX8_within l G (Int32.toInt64 v1) 0 1 _ hc_2) _) (kS hw calX8_within kw_14_2 rfl rfl ⟨Nat.le_of_ble_eq_true rfl, Nat.le_of_ble_eq_true rfl⟩) (rpS (hP.sub (ws' := []) [] rfl) hK) rfl rfl hl.1 rfl (lv_room (Nat.le_of_ble_eq_true rfl)) dX8_restore_9 ⟨Nat.zero_le _, Nat.zero_le _⟩) hS hA hP (fun H locs hP hS => ?_)
  refine lv_if_ne (tgt := 18) hx hb dX8_restore_12 (by decide) (fun c_3 => ?_) (fun c_3 => ?_)
  · have hf := iq c_3 hf
    refine lv_aload_n hx hb dX8_restore_18 rfl (lv_at hl 0 rfl) ?_
    refine va_get (D := G.1) (ci := 8) (v := .ref (t_a 2)) (C := RX8) (T := TX8) (N := 33) hx hb hw inW8 hown hK.1 hP 0 rfl rfl 2 (by decide) (hw _ kw_5_12) (fun _ h9 => h9) rfl dX8_restore_19 ?_
    refine lv_iload_n hx hb dX8_restore_22 rfl (lv_at hl 1 rfl) ?_
    obtain ⟨hi_5, hf⟩ := rdI_in hf
    refine va_zald hx hb hK.1 hP 2 3 rfl rfl hi_5 dX8_restore_23 ?_
    refine lv_topi (fun x_4 ex_4 => ?_)
    have hf := hf x_4 ex_4
    refine lv_if_ne (tgt := 30) hx hb dX8_restore_24 (by decide) (fun c_6 => ?_) (fun c_6 => ?_)
    · have hf := iq c_6 hf
      refine lv_iconst (v := 0) hx hb dX8_restore_30 (by decide) ?_
      refine lv_istore_n (lv' := [(2, .int 0), (0, .ref t_h), (1, .int v1)]) hx hb dX8_restore_31 rfl hl (by decide) rfl (fun ls hl => ?_)
      refine L32 _ _ _ _ _ _ _ _ hP hD hS (lv_sub hl [1, 2, 0] rfl) hf (fun t_all_12 H locs ls hP hD hS hl hf => ?_)
      refine lv_iconst (v := 0) hx hb dX8_restore_65 (by decide) ?_
      exact hRet _ _ _ _ _ _ _ hf hP hS dX8_restore_66
    · have hf := ip c_6 hf
      refine lv_bipush (v := (-5)) hx hb dX8_restore_27 (by decide) ?_
      exact hRet _ _ _ _ _ _ _ hf hP hS dX8_restore_29
  · have hf := ip c_3 hf
    refine lv_bipush (v := (-2)) hx hb dX8_restore_15 (by decide) ?_
    exact hRet _ _ _ _ _ _ _ hf hP hS dX8_restore_17
theorem calX8_count : CalV yX8_count cX8_count 6 (some .int) 1 := ⟨⟨kw_50_8, kw_1_5, by decide +kernel⟩, kw_50_6, kw_50_7⟩
set_option maxHeartbeats 8000000 in
set_option maxRecDepth 100000 in
theorem ctX8_count (l : Launch) (G : GT) (t_h : Nat) (t_a : Nat → Nat) (t_thrown : Int32) (t_all : Nat → Int32) (t_taped : Int32) (t_at : Int32) (t_behind : Int32) (t_size : Int32) (t_kind : Int32) (t_number : Int32) (t_wrong : Int32) (t_wrongAt : Int32) (t_faultKind : Int32) (t_faultPlace : Int32) (t_x : Int32) (t_wayLong : Int32) (t_bothLeast : Int32) (v1 : Int32) (r : Int32) (o_t_thrown : Int32) (hf : fX8_count t_thrown t_all t_taped v1 = some (r, o_t_thrown)) : WrI l yX8_count (Cond.code yX8_count cX8_count 6 (some .int)) { frames := 4, cells := 0, slots := 0, locals := 93 } G [.ref t_h, .int v1] [oX8 t_h t_a t_thrown t_taped t_at t_behind t_size t_kind t_number t_wrong t_wrongAt t_faultKind t_faultPlace t_x t_wayLong t_bothLeast, arI G (t_a 1) 558 t_all] [oX8 t_h t_a o_t_thrown t_taped t_at t_behind t_size t_kind t_number t_wrong t_wrongAt t_faultKind t_faultPlace t_x t_wayLong t_bothLeast, arI G (t_a 1) 558 t_all] r := by
  intro sz
  refine Met.ofW (cc := cX8_count) (maxL := 6) (ret := (some .int)) (by decide) rfl ?_
  intro p e s m args below meth c s₁ B hml hv
  obtain ⟨hargs, hsz, hP, hD0, hK⟩ := hv
  subst hsz
  obtain ⟨hx, hb, hr, hw, hown, hlk⟩ := fwB B
  refine fw_enter hargs (Nat.le_of_ble_eq_true rfl) (fun ls hl => ?_)
  have hl : lv_has ls 6 [(0, .ref t_h), (1, .int v1)] := hl
  refine fw_Q (P := fun Q => ∃ A : Nat → Prop, va_D A [oX8 t_h t_a t_thrown t_taped t_at t_behind t_size t_kind t_number t_wrong t_wrongAt t_faultKind t_faultPlace t_x t_wayLong t_bothLeast, arI G (t_a 1) 558 t_all] ∧ va_S A s.heap s.heap [] ∧ (∀ q, s.heap.size ≤ q → A q) ∧ ∀ (v : Int32) (n_t_thrown : Int32) (H : Heap) (locs : List Loc) (pc : Nat) (ls : Array Slot), some (v, n_t_thrown) = some (r, o_t_thrown) → va_P G.1 vwCl [oX8 t_h t_a n_t_thrown t_taped t_at t_behind t_size t_kind t_number t_wrong t_wrongAt t_faultKind t_faultPlace t_x t_wayLong t_bothLeast, arI G (t_a 1) 558 t_all] H → va_S A s.heap H locs → decode cX8_count pc = .ok (.ireturn, 1) → W p l e ({ frames := 4, cells := 0, slots := 0, locals := 93 } : Room) s m args below meth c H locs 0 0 Q (F0 m pc ls [.int v])) ⟨va_A [oX8 t_h t_a t_thrown t_taped t_at t_behind t_size t_kind t_number t_wrong t_wrongAt t_faultKind t_faultPlace t_x t_wayLong t_bothLeast, arI G (t_a 1) 558 t_all] s.heap.size, hD0.self (sz := s.heap.size), va_S.rf, fun q h => Or.inr h, ?_⟩ ?_
  · intro v n_t_thrown H locs pc ls h hP hS hd
    cases h
    exact retWI hx hb hr hlk hS hP rfl hd
  rintro Q ⟨A, hD, hS, hA, hRet⟩
  change W p l e ({ frames := 4, cells := 0, slots := 0, locals := 93 } : Room) s m args below meth c _ _ 0 0 Q _
  have L29 : ∀ (l4 : Int32) (t_thrown : Int32) (K : Int32 → Int32 → Option (Int32 × Int32)) (n : Nat) (l2 : Int32) (l3 : Int32) (l5 : Int32) (H : Heap) (locs : List Loc) (ls : Array Slot), va_P G.1 vwCl [oX8 t_h t_a t_thrown t_taped t_at t_behind t_size t_kind t_number t_wrong t_wrongAt t_faultKind t_faultPlace t_x t_wayLong t_bothLeast, arI G (t_a 1) 558 t_all] H → va_D A [oX8 t_h t_a t_thrown t_taped t_at t_behind t_size t_kind t_number t_wrong t_wrongAt t_faultKind t_faultPlace t_x t_wayLong t_bothLeast, arI G (t_a 1) 558 t_all] → va_S A s.heap H locs → lv_has ls 6 [(0, .ref t_h), (1, .int v1), (2, .int l2), (3, .int l3), (4, .int l4), (5, .int l5)] → fX8_count_29 l4 t_all K n l2 l3 l5 = some (r, o_t_thrown) → (∀ (k2 : Int32) (k3 : Int32) (H : Heap) (locs : List Loc) (ls : Array Slot), va_P G.1 vwCl [oX8 t_h t_a t_thrown t_taped t_at t_behind t_size t_kind t_number t_wrong t_wrongAt t_faultKind t_faultPlace t_x t_wayLong t_bothLeast, arI G (t_a 1) 558 t_all] H → va_D A [oX8 t_h t_a t_thrown t_taped t_at t_behind t_size t_kind t_number t_wrong t_wrongAt t_faultKind t_faultPlace t_x t_wayLong t_bothLeast, arI G (t_a 1) 558 t_all] → va_S A s.heap H locs → lv_has ls 6 [(0, .ref t_h), (1, .int v1), (2, .int k2), (3, .int k3), (4, .int l4)] → K k2 k3 = some (r, o_t_thrown) → W p l e ({ frames := 4, cells := 0, slots := 0, locals := 93 } : Room) s m args below meth c H locs 0 0 Q (F0 m 90 ls [])) → W p l e ({ frames := 4, cells := 0, slots := 0, locals := 93 } : Room) s m args below meth c H locs 0 0 Q (F0 m 29 ls []) := by
    intro l4 t_thrown K n
    induction n with
    | zero => intro l2 l3 l5 H locs ls hP hD hS hl hf; rw [fX8_count_29] at hf; cases hf
    | succ n ih =>
      intro l2 l3 l5 H locs ls hP hD hS hl hf hX
      rw [fX8_count_29] at hf
      refine lv_iload hx hb dX8_count_29 (lv_at hl 5 rfl) ?_
      refine lv_aload_n hx hb dX8_count_31 rfl (lv_at hl 0 rfl) ?_
      refine va_get (D := G.1) (ci := 8) (v := .ref (t_a 1)) (C := RX8) (T := TX8) (N := 33) hx hb hw inW8 hown hK.1 hP 0 rfl rfl 1 (by decide) (hw _ kw_5_11) (fun _ h9 => h9) rfl dX8_count_32 ?_
      refine lv_iconst (v := 0) hx hb dX8_count_35 (by decide) ?_
      obtain ⟨hi_6, hf⟩ := rdI_in hf
      refine va_iald hx hb hK.1 hP 1 0 rfl rfl hi_6 dX8_count_36 ?_
      refine lv_topi (fun x_5 ex_5 => ?_)
      have hf := hf x_5 ex_5
      refine lv_icmp_ge (tgt := 90) hx hb dX8_count_37 (by decide) (fun c_7 => ?_) (fun c_7 => ?_)
      · have hf := ip c_7 hf
        exact hX _ _ _ _ _ hP hD hS (lv_sub hl [0, 1, 2, 3, 4] rfl) hf
      · have hf := iq c_7 hf
        refine lv_aload_n hx hb dX8_count_40 rfl (lv_at hl 0 rfl) ?_
        refine lv_iload hx hb dX8_count_41 (lv_at hl 4 rfl) ?_
        refine lv_iload hx hb dX8_count_43 (lv_at hl 5 rfl) ?_
        obtain ⟨r_8, hc_9, hf⟩ := bd1_in hf
        refine rcI (va_runV (As := [.int l4, .int l5]) (rest := []) ⟨hx, hb, hml, hown, hw⟩ ((ctX8_isTied l G t_h t_a t_thrown t_all t_taped t_at t_behind t_size t_kind t_number t_wrong t_wrongAt t_faultKind t_faultPlace t_x t_wayLong t_bothLeast l4 l5 _ hc_9) _) (kV hw calX8_isTied kw_20_16 rfl rfl ⟨Nat.le_of_ble_eq_true rfl, Nat.le_of_ble_eq_true rfl⟩) (rpV (hP.sub (ws' := [oX8 t_h t_a t_thrown t_taped t_at t_behind t_size t_kind t_number t_wrong t_wrongAt t_faultKind t_faultPlace t_x t_wayLong t_bothLeast, arI G (t_a 1) 558 t_all]) [0, 1] rfl) hK (ci := 8) (q0 := 0) rfl rfl) rfl rfl hl.1 rfl (lv_room (Nat.le_of_ble_eq_true rfl)) dX8_count_45 ⟨Nat.zero_le _, Nat.zero_le _⟩) hS hA hP (fun H locs hP hS => ?_)
        refine lv_if_ne (tgt := 54) hx hb dX8_count_48 (by decide) (fun c_10 => ?_) (fun c_10 => ?_)
        · have hf := iq c_10 hf
          refine lv_iload_n hx hb dX8_count_54 rfl (lv_at hl 2 rfl) ?_
          refine lv_aload_n hx hb dX8_count_55 rfl (lv_at hl 0 rfl) ?_
          refine lv_iload hx hb dX8_count_56 (lv_at hl 4 rfl) ?_
          refine lv_iload hx hb dX8_count_58 (lv_at hl 5 rfl) ?_
          obtain ⟨r_11, hc_12, hf⟩ := bd1_in hf
          refine rcI (va_runV (As := [.int l4, .int l5]) (rest := [.int l2]) ⟨hx, hb, hml, hown, hw⟩ ((ctX8_isSlack l G t_h t_a t_thrown t_all t_taped t_at t_behind t_size t_kind t_number t_wrong t_wrongAt t_faultKind t_faultPlace t_x t_wayLong t_bothLeast l4 l5 _ hc_12) _) (kV hw calX8_isSlack kw_22_19 rfl rfl ⟨Nat.le_of_ble_eq_true rfl, Nat.le_of_ble_eq_true rfl⟩) (rpV (hP.sub (ws' := [oX8 t_h t_a t_thrown t_taped t_at t_behind t_size t_kind t_number t_wrong t_wrongAt t_faultKind t_faultPlace t_x t_wayLong t_bothLeast, arI G (t_a 1) 558 t_all]) [0, 1] rfl) hK (ci := 8) (q0 := 0) rfl rfl) rfl rfl hl.1 rfl (lv_room (Nat.le_of_ble_eq_true rfl)) dX8_count_60 ⟨Nat.zero_le _, Nat.zero_le _⟩) hS hA hP (fun H locs hP hS => ?_)
          refine jn_el hf (fun k_14 ek_14 hf => ?_)
          have J71 : ∀ (z_13 : Int32) (H : Heap) (locs : List Loc) (ls : Array Slot), va_P G.1 vwCl [oX8 t_h t_a t_thrown t_taped t_at t_behind t_size t_kind t_number t_wrong t_wrongAt t_faultKind t_faultPlace t_x t_wayLong t_bothLeast, arI G (t_a 1) 558 t_all] H → va_D A [oX8 t_h t_a t_thrown t_taped t_at t_behind t_size t_kind t_number t_wrong t_wrongAt t_faultKind t_faultPlace t_x t_wayLong t_bothLeast, arI G (t_a 1) 558 t_all] → va_S A s.heap H locs → lv_has ls 6 [(0, .ref t_h), (1, .int v1), (3, .int l3), (4, .int l4), (5, .int l5)] → k_14 z_13 = some (r, o_t_thrown) → W p l e ({ frames := 4, cells := 0, slots := 0, locals := 93 } : Room) s m args below meth c H locs 0 0 Q (F0 m 71 ls [.int z_13, .int l2]) := by
            intro z_13 H locs ls hP hD hS hl hf
            rw [ek_14] at hf
            refine lv_iadd hx hb dX8_count_71 ?_
            refine lv_topi (fun y_15 ey_15 => ?_)
            have hf := bnd_all hf y_15 ey_15
            refine lv_istore_n (lv' := [(2, .int y_15), (0, .ref t_h), (1, .int v1), (3, .int l3), (4, .int l4), (5, .int l5)]) hx hb dX8_count_72 rfl hl (by decide) rfl (fun ls hl => ?_)
            refine lv_iload_n hx hb dX8_count_73 rfl (lv_at hl 3 rfl) ?_
            refine lv_aload_n hx hb dX8_count_74 rfl (lv_at hl 1 rfl) ?_
            refine lv_iload hx hb dX8_count_75 (lv_at hl 4 rfl) ?_
            refine lv_iload hx hb dX8_count_77 (lv_at hl 5 rfl) ?_
            obtain ⟨r_16, hc_17, hf⟩ := bd1_in hf
            refine rcI (va_runV (As := [.int l4, .int l5]) (rest := [.int l3]) ⟨hx, hb, hml, hown, hw⟩ ((ctX8_lengthOf l G t_h t_a t_thrown t_all t_taped t_at t_behind t_size t_kind t_number t_wrong t_wrongAt t_faultKind t_faultPlace t_x t_wayLong t_bothLeast l4 l5 _ hc_17) _) (kV hw calX8_lengthOf kw_22_7 rfl rfl ⟨Nat.le_of_ble_eq_true rfl, Nat.le_of_ble_eq_true rfl⟩) (rpV (hP.sub (ws' := [oX8 t_h t_a t_thrown t_taped t_at t_behind t_size t_kind t_number t_wrong t_wrongAt t_faultKind t_faultPlace t_x t_wayLong t_bothLeast, arI G (t_a 1) 558 t_all]) [0, 1] rfl) hK (ci := 8) (q0 := 0) rfl rfl) rfl rfl hl.1 rfl (lv_room (Nat.le_of_ble_eq_true rfl)) dX8_count_79 ⟨Nat.zero_le _, Nat.zero_le _⟩) hS hA hP (fun H locs hP hS => ?_)
            refine lv_iadd hx hb dX8_count_82 ?_
            refine lv_topi (fun y_18 ey_18 => ?_)
            have hf := bnd_all hf y_18 ey_18
            refine lv_istore_n (lv' := [(3, .int y_18), (2, .int y_15), (0, .ref t_h), (1, .int v1), (4, .int l4), (5, .int l5)]) hx hb dX8_count_83 rfl hl (by decide) rfl (fun ls hl => ?_)
            refine lv_iinc (v := (l5 + 1)) (lv' := [(5, .int (l5 + 1)), (3, .int y_18), (2, .int y_15), (0, .ref t_h), (1, .int v1), (4, .int l4)]) hx hb dX8_count_84 hl (k := 5) rfl (by rfl) (by decide) rfl (fun ls hl => ?_)
            refine lv_goto (tgt := 29) hx hb dX8_count_87 (by decide) ?_
            exact ih _ _ _ _ _ _ hP hD hS (lv_sub hl [3, 4, 2, 1, 5, 0] rfl) hf hX
          refine lv_if_eq (tgt := 70) hx hb dX8_count_63 (by decide) (fun c_19 => ?_) (fun c_19 => ?_)
          · have hf := ip c_19 hf
            refine lv_iconst (v := 0) hx hb dX8_count_70 (by decide) ?_
            exact J71 _ _ _ _ hP hD hS (lv_sub hl [0, 1, 3, 4, 5] rfl) hf
          · have hf := iq c_19 hf
            refine lv_iconst (v := 1) hx hb dX8_count_66 (by decide) ?_
            refine lv_goto (tgt := 71) hx hb dX8_count_67 (by decide) ?_
            exact J71 _ _ _ _ hP hD hS (lv_sub hl [0, 1, 3, 4, 5] rfl) hf
        · have hf := ip c_10 hf
          refine lv_goto (tgt := 84) hx hb dX8_count_51 (by decide) ?_
          refine lv_iinc (v := (l5 + 1)) (lv' := [(5, .int (l5 + 1)), (0, .ref t_h), (1, .int v1), (2, .int l2), (3, .int l3), (4, .int l4)]) hx hb dX8_count_84 hl (k := 5) rfl (by rfl) (by decide) rfl (fun ls hl => ?_)
          refine lv_goto (tgt := 29) hx hb dX8_count_87 (by decide) ?_
          exact ih _ _ _ _ _ _ hP hD hS (lv_sub hl [1, 2, 3, 4, 5, 0] rfl) hf hX
  have L12 : ∀ (t_thrown : Int32) (K : Int32 → Int32 → Option (Int32 × Int32)) (n : Nat) (l2 : Int32) (l3 : Int32) (l4 : Int32) (H : Heap) (locs : List Loc) (ls : Array Slot), va_P G.1 vwCl [oX8 t_h t_a t_thrown t_taped t_at t_behind t_size t_kind t_number t_wrong t_wrongAt t_faultKind t_faultPlace t_x t_wayLong t_bothLeast, arI G (t_a 1) 558 t_all] H → va_D A [oX8 t_h t_a t_thrown t_taped t_at t_behind t_size t_kind t_number t_wrong t_wrongAt t_faultKind t_faultPlace t_x t_wayLong t_bothLeast, arI G (t_a 1) 558 t_all] → va_S A s.heap H locs → lv_has ls 6 [(0, .ref t_h), (1, .int v1), (2, .int l2), (3, .int l3), (4, .int l4)] → fX8_count_12 t_all K n l2 l3 l4 = some (r, o_t_thrown) → (∀ (k2 : Int32) (k3 : Int32) (H : Heap) (locs : List Loc) (ls : Array Slot), va_P G.1 vwCl [oX8 t_h t_a t_thrown t_taped t_at t_behind t_size t_kind t_number t_wrong t_wrongAt t_faultKind t_faultPlace t_x t_wayLong t_bothLeast, arI G (t_a 1) 558 t_all] H → va_D A [oX8 t_h t_a t_thrown t_taped t_at t_behind t_size t_kind t_number t_wrong t_wrongAt t_faultKind t_faultPlace t_x t_wayLong t_bothLeast, arI G (t_a 1) 558 t_all] → va_S A s.heap H locs → lv_has ls 6 [(0, .ref t_h), (1, .int v1), (2, .int k2), (3, .int k3)] → K k2 k3 = some (r, o_t_thrown) → W p l e ({ frames := 4, cells := 0, slots := 0, locals := 93 } : Room) s m args below meth c H locs 0 0 Q (F0 m 96 ls [])) → W p l e ({ frames := 4, cells := 0, slots := 0, locals := 93 } : Room) s m args below meth c H locs 0 0 Q (F0 m 12 ls []) := by
    intro t_thrown K n
    induction n with
    | zero => intro l2 l3 l4 H locs ls hP hD hS hl hf; rw [fX8_count_12] at hf; cases hf
    | succ n ih =>
      intro l2 l3 l4 H locs ls hP hD hS hl hf hX
      rw [fX8_count_12] at hf
      refine lv_iload hx hb dX8_count_12 (lv_at hl 4 rfl) ?_
      refine lv_aload_n hx hb dX8_count_14 rfl (lv_at hl 0 rfl) ?_
      refine va_get (D := G.1) (ci := 8) (v := .ref (t_a 1)) (C := RX8) (T := TX8) (N := 33) hx hb hw inW8 hown hK.1 hP 0 rfl rfl 1 (by decide) (hw _ kw_5_11) (fun _ h9 => h9) rfl dX8_count_15 ?_
      refine lv_iconst (v := 0) hx hb dX8_count_18 (by decide) ?_
      obtain ⟨hi_2, hf⟩ := rdI_in hf
      refine va_iald hx hb hK.1 hP 1 0 rfl rfl hi_2 dX8_count_19 ?_
      refine lv_topi (fun x_1 ex_1 => ?_)
      have hf := hf x_1 ex_1
      refine lv_icmp_ge (tgt := 96) hx hb dX8_count_20 (by decide) (fun c_3 => ?_) (fun c_3 => ?_)
      · have hf := ip c_3 hf
        exact hX _ _ _ _ _ hP hD hS (lv_sub hl [0, 1, 2, 3] rfl) hf
      · have hf := iq c_3 hf
        refine lv_iload hx hb dX8_count_23 (lv_at hl 4 rfl) ?_
        refine lv_iconst (v := 1) hx hb dX8_count_25 (by decide) ?_
        refine lv_iadd hx hb dX8_count_26 ?_
        refine lv_topi (fun y_4 ey_4 => ?_)
        have hf := bnd_all hf y_4 ey_4
        refine lv_istore (lv' := [(5, .int y_4), (0, .ref t_h), (1, .int v1), (2, .int l2), (3, .int l3), (4, .int l4)]) hx hb dX8_count_27 hl (by decide) rfl (fun ls hl => ?_)
        refine L29 _ _ _ _ _ _ _ _ _ _ hP hD hS (lv_sub hl [1, 2, 3, 4, 5, 0] rfl) hf (fun w_20 w_21 H locs ls hP hD hS hl hf => ?_)
        refine lv_iinc (v := (l4 + 1)) (lv' := [(4, .int (l4 + 1)), (0, .ref t_h), (1, .int v1), (2, .int w_20), (3, .int w_21)]) hx hb dX8_count_90 hl (k := 4) rfl (by rfl) (by decide) rfl (fun ls hl => ?_)
        refine lv_goto (tgt := 12) hx hb dX8_count_93 (by decide) ?_
        exact ih _ _ _ _ _ _ hP hD hS (lv_sub hl [1, 2, 3, 4, 0] rfl) hf hX
  unfold fX8_count at hf
  refine lv_aload_n hx hb dX8_count_0 rfl (lv_at hl 0 rfl) ?_
  refine lv_iconst (v := 0) hx hb dX8_count_1 (by decide) ?_
  refine va_put (D := G.1) (ci := 8) (v := .int 0) (ty := .int) (C := RX8) (T := TX8) (N := 33) hx hb hw inW8 tyX8 tyX8_ok nmX8 hown hK.1 hP hD hS 0 rfl rfl 0 (by decide) (hw _ kw_6_21) (fun _ h9 => h9) rfl (by decide +kernel) rfl rfl (Nat.le_of_ble_eq_true rfl) dX8_count_2 (fun H locs hP hD hS => ?_)
  have hP : va_P G.1 vwCl [oX8 t_h t_a 0 t_taped t_at t_behind t_size t_kind t_number t_wrong t_wrongAt t_faultKind t_faultPlace t_x t_wayLong t_bothLeast, arI G (t_a 1) 558 t_all] H := hP
  have hD : va_D A [oX8 t_h t_a 0 t_taped t_at t_behind t_size t_kind t_number t_wrong t_wrongAt t_faultKind t_faultPlace t_x t_wayLong t_bothLeast, arI G (t_a 1) 558 t_all] := hD
  refine lv_iconst (v := 0) hx hb dX8_count_5 (by decide) ?_
  refine lv_istore_n (lv' := [(2, .int 0), (0, .ref t_h), (1, .int v1)]) hx hb dX8_count_6 rfl hl (by decide) rfl (fun ls hl => ?_)
  refine lv_iconst (v := 0) hx hb dX8_count_7 (by decide) ?_
  refine lv_istore_n (lv' := [(3, .int 0), (2, .int 0), (0, .ref t_h), (1, .int v1)]) hx hb dX8_count_8 rfl hl (by decide) rfl (fun ls hl => ?_)
  refine lv_iconst (v := 0) hx hb dX8_count_9 (by decide) ?_
  refine lv_istore (lv' := [(4, .int 0), (3, .int 0), (2, .int 0), (0, .ref t_h), (1, .int v1)]) hx hb dX8_count_10 hl (by decide) rfl (fun ls hl => ?_)
  refine L12 _ _ _ _ _ _ _ _ _ hP hD hS (lv_sub hl [3, 4, 2, 1, 0] rfl) hf (fun w_22 w_23 H locs ls hP hD hS hl hf => ?_)
  refine lv_iload_n hx hb dX8_count_96 rfl (lv_at hl 1 rfl) ?_
  by_cases c_24 : v1 = 0
  · have hf := ip c_24 hf
    refine lv_tableIn (tgt := 152) hx hb dX8_count_97 (by rw [c_24]; decide) (by rw [c_24]; decide) (by rw [c_24]; rfl) (by decide) ?_
    refine lv_aload_n hx hb dX8_count_152 rfl (lv_at hl 0 rfl) ?_
    refine va_get (D := G.1) (ci := 8) (v := .ref (t_a 1)) (C := RX8) (T := TX8) (N := 33) hx hb hw inW8 hown hK.1 hP 0 rfl rfl 1 (by decide) (hw _ kw_5_11) (fun _ h9 => h9) rfl dX8_count_153 ?_
    refine lv_iconst (v := 0) hx hb dX8_count_156 (by decide) ?_
    obtain ⟨hi_26, hf⟩ := rdI_in hf
    refine va_iald hx hb hK.1 hP 1 0 rfl rfl hi_26 dX8_count_157 ?_
    refine lv_topi (fun x_25 ex_25 => ?_)
    have hf := hf x_25 ex_25
    exact hRet _ _ _ _ _ _ hf hP hS dX8_count_158
  have hf := iq c_24 hf
  by_cases c_27 : v1 = 1
  · have hf := ip c_27 hf
    refine lv_tableIn (tgt := 159) hx hb dX8_count_97 (by rw [c_27]; decide) (by rw [c_27]; decide) (by rw [c_27]; rfl) (by decide) ?_
    refine lv_aload_n hx hb dX8_count_159 rfl (lv_at hl 0 rfl) ?_
    obtain ⟨r_28, hc_29, hf⟩ := bd1_in hf
    refine rcI (va_runV (As := []) (rest := []) ⟨hx, hb, hml, hown, hw⟩ ((ctX8_strings l G t_h t_a 0 t_all t_taped t_at t_behind t_size t_kind t_number t_wrong t_wrongAt t_faultKind t_faultPlace t_x t_wayLong t_bothLeast _ hc_29) _) (kV hw calX8_strings kw_23_22 rfl rfl ⟨Nat.le_of_ble_eq_true rfl, Nat.le_of_ble_eq_true rfl⟩) (rpV (hP.sub (ws' := [oX8 t_h t_a 0 t_taped t_at t_behind t_size t_kind t_number t_wrong t_wrongAt t_faultKind t_faultPlace t_x t_wayLong t_bothLeast, arI G (t_a 1) 558 t_all]) [0, 1] rfl) hK (ci := 8) (q0 := 0) rfl rfl) rfl rfl hl.1 rfl (lv_room (Nat.le_of_ble_eq_true rfl)) dX8_count_160 ⟨Nat.zero_le _, Nat.zero_le _⟩) hS hA hP (fun H locs hP hS => ?_)
    exact hRet _ _ _ _ _ _ hf hP hS dX8_count_163
  have hf := iq c_27 hf
  by_cases c_30 : v1 = 2
  · have hf := ip c_30 hf
    refine lv_tableIn (tgt := 164) hx hb dX8_count_97 (by rw [c_30]; decide) (by rw [c_30]; decide) (by rw [c_30]; rfl) (by decide) ?_
    refine lv_aload_n hx hb dX8_count_164 rfl (lv_at hl 0 rfl) ?_
    refine va_get (D := G.1) (ci := 8) (v := .ref (t_a 1)) (C := RX8) (T := TX8) (N := 33) hx hb hw inW8 hown hK.1 hP 0 rfl rfl 1 (by decide) (hw _ kw_5_11) (fun _ h9 => h9) rfl dX8_count_165 ?_
    refine lv_iconst (v := 1) hx hb dX8_count_168 (by decide) ?_
    obtain ⟨hi_32, hf⟩ := rdI_in hf
    refine va_iald hx hb hK.1 hP 1 0 rfl rfl hi_32 dX8_count_169 ?_
    refine lv_topi (fun x_31 ex_31 => ?_)
    have hf := hf x_31 ex_31
    exact hRet _ _ _ _ _ _ hf hP hS dX8_count_170
  have hf := iq c_30 hf
  by_cases c_33 : v1 = 3
  · have hf := ip c_33 hf
    refine lv_tableIn (tgt := 171) hx hb dX8_count_97 (by rw [c_33]; decide) (by rw [c_33]; decide) (by rw [c_33]; rfl) (by decide) ?_
    refine lv_aload_n hx hb dX8_count_171 rfl (lv_at hl 0 rfl) ?_
    refine va_get (D := G.1) (ci := 8) (v := .ref (t_a 1)) (C := RX8) (T := TX8) (N := 33) hx hb hw inW8 hown hK.1 hP 0 rfl rfl 1 (by decide) (hw _ kw_5_11) (fun _ h9 => h9) rfl dX8_count_172 ?_
    refine lv_iconst (v := 2) hx hb dX8_count_175 (by decide) ?_
    obtain ⟨hi_35, hf⟩ := rdI_in hf
    refine va_iald hx hb hK.1 hP 1 0 rfl rfl hi_35 dX8_count_176 ?_
    refine lv_topi (fun x_34 ex_34 => ?_)
    have hf := hf x_34 ex_34
    exact hRet _ _ _ _ _ _ hf hP hS dX8_count_177
  have hf := iq c_33 hf
  by_cases c_36 : v1 = 4
  · have hf := ip c_36 hf
    refine lv_tableIn (tgt := 178) hx hb dX8_count_97 (by rw [c_36]; decide) (by rw [c_36]; decide) (by rw [c_36]; rfl) (by decide) ?_
    refine lv_aload_n hx hb dX8_count_178 rfl (lv_at hl 0 rfl) ?_
    refine va_get (D := G.1) (ci := 8) (v := .ref (t_a 1)) (C := RX8) (T := TX8) (N := 33) hx hb hw inW8 hown hK.1 hP 0 rfl rfl 1 (by decide) (hw _ kw_5_11) (fun _ h9 => h9) rfl dX8_count_179 ?_
    refine lv_iconst (v := 3) hx hb dX8_count_182 (by decide) ?_
    obtain ⟨hi_38, hf⟩ := rdI_in hf
    refine va_iald hx hb hK.1 hP 1 0 rfl rfl hi_38 dX8_count_183 ?_
    refine lv_topi (fun x_37 ex_37 => ?_)
    have hf := hf x_37 ex_37
    exact hRet _ _ _ _ _ _ hf hP hS dX8_count_184
  have hf := iq c_36 hf
  by_cases c_39 : v1 = 5
  · have hf := ip c_39 hf
    refine lv_tableIn (tgt := 185) hx hb dX8_count_97 (by rw [c_39]; decide) (by rw [c_39]; decide) (by rw [c_39]; rfl) (by decide) ?_
    refine lv_aload_n hx hb dX8_count_185 rfl (lv_at hl 0 rfl) ?_
    refine va_get (D := G.1) (ci := 8) (v := .ref (t_a 1)) (C := RX8) (T := TX8) (N := 33) hx hb hw inW8 hown hK.1 hP 0 rfl rfl 1 (by decide) (hw _ kw_5_11) (fun _ h9 => h9) rfl dX8_count_186 ?_
    refine lv_iconst (v := 4) hx hb dX8_count_189 (by decide) ?_
    obtain ⟨hi_41, hf⟩ := rdI_in hf
    refine va_iald hx hb hK.1 hP 1 0 rfl rfl hi_41 dX8_count_190 ?_
    refine lv_topi (fun x_40 ex_40 => ?_)
    have hf := hf x_40 ex_40
    exact hRet _ _ _ _ _ _ hf hP hS dX8_count_191
  have hf := iq c_39 hf
  by_cases c_42 : v1 = 6
  · have hf := ip c_42 hf
    refine lv_tableIn (tgt := 192) hx hb dX8_count_97 (by rw [c_42]; decide) (by rw [c_42]; decide) (by rw [c_42]; rfl) (by decide) ?_
    refine lv_iload_n hx hb dX8_count_192 rfl (lv_at hl 2 rfl) ?_
    exact hRet _ _ _ _ _ _ hf hP hS dX8_count_193
  have hf := iq c_42 hf
  by_cases c_43 : v1 = 7
  · have hf := ip c_43 hf
    refine lv_tableIn (tgt := 194) hx hb dX8_count_97 (by rw [c_43]; decide) (by rw [c_43]; decide) (by rw [c_43]; rfl) (by decide) ?_
    refine lv_iload_n hx hb dX8_count_194 rfl (lv_at hl 3 rfl) ?_
    exact hRet _ _ _ _ _ _ hf hP hS dX8_count_195
  have hf := iq c_43 hf
  by_cases c_44 : v1 = 8
  · have hf := ip c_44 hf
    refine lv_tableIn (tgt := 196) hx hb dX8_count_97 (by rw [c_44]; decide) (by rw [c_44]; decide) (by rw [c_44]; rfl) (by decide) ?_
    refine lv_aload_n hx hb dX8_count_196 rfl (lv_at hl 0 rfl) ?_
    refine va_get (D := G.1) (ci := 8) (v := .int t_taped) (C := RX8) (T := TX8) (N := 33) hx hb hw inW8 hown hK.1 hP 0 rfl rfl 5 (by decide) (hw _ kw_6_22) (fun _ h9 => h9) rfl dX8_count_197 ?_
    exact hRet _ _ _ _ _ _ hf hP hS dX8_count_200
  have hf := iq c_44 hf
  by_cases c_45 : v1 = 9
  · have hf := ip c_45 hf
    refine lv_tableIn (tgt := 201) hx hb dX8_count_97 (by rw [c_45]; decide) (by rw [c_45]; decide) (by rw [c_45]; rfl) (by decide) ?_
    refine lv_aload_n hx hb dX8_count_201 rfl (lv_at hl 0 rfl) ?_
    refine va_get (D := G.1) (ci := 8) (v := .ref (t_a 1)) (C := RX8) (T := TX8) (N := 33) hx hb hw inW8 hown hK.1 hP 0 rfl rfl 1 (by decide) (hw _ kw_5_11) (fun _ h9 => h9) rfl dX8_count_202 ?_
    refine lv_iconst (v := 5) hx hb dX8_count_205 (by decide) ?_
    obtain ⟨hi_47, hf⟩ := rdI_in hf
    refine va_iald hx hb hK.1 hP 1 0 rfl rfl hi_47 dX8_count_206 ?_
    refine lv_topi (fun x_46 ex_46 => ?_)
    have hf := hf x_46 ex_46
    exact hRet _ _ _ _ _ _ hf hP hS dX8_count_207
  have hf := iq c_45 hf
  refine lv_tableOut (tgt := 208) hx hb dX8_count_97 (by have c_24_t : (v1 : Int32).toInt ≠ 0 := ne_toInt c_24; have c_27_t : (v1 : Int32).toInt ≠ 1 := ne_toInt c_27; have c_30_t : (v1 : Int32).toInt ≠ 2 := ne_toInt c_30; have c_33_t : (v1 : Int32).toInt ≠ 3 := ne_toInt c_33; have c_36_t : (v1 : Int32).toInt ≠ 4 := ne_toInt c_36; have c_39_t : (v1 : Int32).toInt ≠ 5 := ne_toInt c_39; have c_42_t : (v1 : Int32).toInt ≠ 6 := ne_toInt c_42; have c_43_t : (v1 : Int32).toInt ≠ 7 := ne_toInt c_43; have c_44_t : (v1 : Int32).toInt ≠ 8 := ne_toInt c_44; have c_45_t : (v1 : Int32).toInt ≠ 9 := ne_toInt c_45; omega) (by decide) ?_
  refine lv_iconst (v := (-1)) hx hb dX8_count_208 (by decide) ?_
  exact hRet _ _ _ _ _ _ hf hP hS dX8_count_209
