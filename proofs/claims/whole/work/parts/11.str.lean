def lenS : List Nat := [7, 4, 4, 4, 5, 6, 5, 43]
def bytS : List (List Int32) := [[119, 105, 110, 100, 111, 119, 115], [99, 97, 110, 115], [119, 97, 115, 104], [100, 97, 109, 112], [104, 101, 97, 114, 100], [115, 116, 114, 105, 110, 103], [107, 110, 111, 116, 115], [32, 119, 105, 110, 100, 111, 119, 115, 32, 99, 97, 110, 115, 32, 119, 97, 115, 104, 32, 100, 97, 109, 112, 32, 104, 101, 97, 114, 100, 32, 115, 116, 114, 105, 110, 103, 32, 107, 110, 111, 116, 115, 32]]
def strK : List (String × Nat × String) := [(RX3, 55, "windows"), (RX3, 70, "cans"), (RX3, 75, "wash"), (RX3, 80, "damp"), (RX3, 90, "heard"), (RX3, 94, "string"), (RX3, 118, "knots"), (RX8, 83, " windows cans wash damp heard string knots ")]
/-- the sign at place j of constant i -/
def chS (i : Nat) : Nat → Int32 := fun j => (bytS.getD i []).getD j 0 &&& 255
/-- the constants' own cells, which nobody writes -/
def SE (ad av : Nat → Nat) (A : Nat → Prop) (U : State) (H : Heap) : Prop :=
  vk_S 8 lenS bytS ad av A U H ∧ (∀ (i : Nat) (q : String × Nat × String), strK[i]? = some q → vk_R q.1 q.2.1 q.2.2 (ad i) U) ∧ va_Z "java/lang/String" "COMPACT_STRINGS" "Z" (.int 1) A U H ∧ va_Zq "jdk/internal/util/Preconditions" "SIOOBE_FORMATTER" "Ljava/util/function/BiFunction;" A U H
theorem SE.use {ad av : Nat → Nat} {A B : Nat → Prop} {s U : State} {H : Heap} {locs : List Loc} (h : SE ad av A s s.heap) (hS : va_S A s.heap H locs) (hB : ∀ q, B q → A q) (hU : U.heap = H) (hW : s.WarmedH U.vm) : SE ad av B U U.heap := by
  rw [hU]
  exact ⟨vk_S.moved hW.alike ((h.1.kept hS.2.1).narrow hB), fun i q hq => (h.2.1 i q hq).warm hW, va_Z.moved hW.alike ((h.2.2.1.kept hS.2.1).narrow hB), va_Zq.moved hW.alike ((h.2.2.2.kept hS.2.1).narrow hB)⟩
theorem SE.blind {ad av : Nat → Nat} {A : Nat → Prop} {U : State} {g : JFrame} {mk : MethodId} {a : Array Value} (h : SE ad av A U U.heap) : SE ad av A (U.calling g mk a) (U.calling g mk a).heap :=
  ⟨vk_S.moved (u := U) (U := U.calling g mk a) (Vm.Alike.refl U.vm) h.1, fun i q hq => vk_R.same rfl (h.2.1 i q hq), va_Z.moved (u := U) (U := U.calling g mk a) (Vm.Alike.refl U.vm) h.2.2.1, va_Zq.moved (u := U) (U := U.calling g mk a) (Vm.Alike.refl U.vm) h.2.2.2⟩
def RsI (l : Launch) (y : MethodName) (cd : Cond) (rm : Room) (G : GT) (ad av : Nat → Nat) (vs : List Value) (cells : va_W) (r : Int32) : Prop :=
  ∀ sz : Nat, Met l y (cd :: WT) rm (va_Pc vs (fun U => U.heap.size = sz ∧ va_P G.1 vwCl cells U.heap ∧ SE ad av (fun q => sz ≤ q) U U.heap ∧ KK G U)) (va_Qi (fun r' (_ : Unit) => r' = r) (fun _ _ => True) (fun q => sz ≤ q)) 0 0 (fun q => sz ≤ q)
def RsV (l : Launch) (y : MethodName) (cd : Cond) (rm : Room) (G : GT) (ad av : Nat → Nat) (vs : List Value) (cells : va_W) : Prop :=
  ∀ sz : Nat, Met l y (cd :: WT) rm (va_Pc vs (fun U => U.heap.size = sz ∧ va_P G.1 vwCl cells U.heap ∧ SE ad av (fun q => sz ≤ q) U U.heap ∧ KK G U)) (va_Qv (fun (_ : Unit) => True) (fun _ _ => True) (fun q => sz ≤ q)) 0 0 (fun q => sz ≤ q)
def WsI (l : Launch) (y : MethodName) (cd : Cond) (rm : Room) (G : GT) (ad av : Nat → Nat) (vs : List Value) (cells w1 : va_W) (r : Int32) : Prop :=
  ∀ sz : Nat, Met l y (cd :: WT) rm (va_Pc vs (fun U => U.heap.size = sz ∧ va_P G.1 vwCl cells U.heap ∧ va_D (fun _ => True) cells ∧ SE ad av (va_A cells sz) U U.heap ∧ KK G U)) (va_Qi (fun r' (_ : Unit) => r' = r) (fun _ t => va_P G.1 vwCl w1 t.heap) (va_A cells sz)) 0 0 (va_A cells sz)
def WsV (l : Launch) (y : MethodName) (cd : Cond) (rm : Room) (G : GT) (ad av : Nat → Nat) (vs : List Value) (cells w1 : va_W) : Prop :=
  ∀ sz : Nat, Met l y (cd :: WT) rm (va_Pc vs (fun U => U.heap.size = sz ∧ va_P G.1 vwCl cells U.heap ∧ va_D (fun _ => True) cells ∧ SE ad av (va_A cells sz) U U.heap ∧ KK G U)) (va_Qv (fun (_ : Unit) => True) (fun _ t => va_P G.1 vwCl w1 t.heap) (va_A cells sz)) 0 0 (va_A cells sz)
section FWST
variable {G : GT} {s : State} {H : Heap} {cells wc : va_W} {vs As : List Value} {A : Nat → Prop} {ad av : Nat → Nat} {locs : List Loc}
theorem rsS (hP : va_P G.1 vwCl cells H) (hE : SE ad av A s s.heap) (hS : va_S A s.heap H locs) (hA : ∀ q, s.heap.size ≤ q → A q) (hK : KK G s) : PreS s H (va_Pc vs (fun U => U.heap.size = H.size ∧ va_P G.1 vwCl cells U.heap ∧ SE ad av (fun q => H.size ≤ q) U U.heap ∧ KK G U)) vs :=
  ⟨fun a U g mk q => ⟨q.1, q.2.1, q.2.2.1, q.2.2.2.1.blind, q.2.2.2.2.blind⟩, fun U hU hW => ⟨rfl, by rw [hU], by rw [hU]; exact hP, hE.use hS (fun q h => hA q (Nat.le_trans hS.1 h)) hU hW, hK.moved hW⟩⟩
theorem rsV {b q0 ci : Nat} {q : vw_C} {fs : List Value} (hP : va_P G.1 vwCl cells H) (hE : SE ad av A s s.heap) (hS : va_S A s.heap H locs) (hA : ∀ q, s.heap.size ≤ q → A q) (hK : KK G s) (hc : vwCl[ci]? = some q) (he : cells[q0]? = some (b, .inr (ci, fs))) : PreV s H q.1 b (va_Pc (.ref b :: As) (fun U => U.heap.size = H.size ∧ va_P G.1 vwCl cells U.heap ∧ SE ad av (fun q => H.size ≤ q) U U.heap ∧ KK G U)) As :=
  ⟨fun a U g mk q => ⟨q.1, q.2.1, q.2.2.1, q.2.2.2.1.blind, q.2.2.2.2.blind⟩, va_recv hK.1 hP hc he, fun U hU hW => ⟨rfl, by rw [hU], by rw [hU]; exact hP, hE.use hS (fun q h => hA q (Nat.le_trans hS.1 h)) hU hW, hK.moved hW⟩⟩
theorem rsK {i : Nat} (hi : i < 8) (hE : SE ad av A s s.heap) (hS : va_S A s.heap H locs) (hA : ∀ q, s.heap.size ≤ q → A q) (hK : KK G s) : PreV s H "java/lang/String" (ad i) (va_Pc (.ref (ad i) :: As) (fun U => U.heap.size = H.size ∧ va_P G.1 vwCl [] U.heap ∧ SE ad av (fun q => H.size ≤ q) U U.heap ∧ KK G U)) As :=
  ⟨fun a U g mk q => ⟨q.1, q.2.1, q.2.2.1, q.2.2.2.1.blind, q.2.2.2.2.blind⟩, vk_recv hE.1 hi hS, fun U hU hW => ⟨rfl, by rw [hU], fun k q h => by simp at h, hE.use hS (fun q h => hA q (Nat.le_trans hS.1 h)) hU hW, hK.moved hW⟩⟩
theorem wsPV {b q0 ci : Nat} {q : vw_C} {fs : List Value} (hP : va_P G.1 vwCl wc H) (hD : va_D A wc) (hE : SE ad av A s s.heap) (hS : va_S A s.heap H locs) (hF : ∀ q, va_A wc H.size q → A q) (hK : KK G s) (hc : vwCl[ci]? = some q) (he : wc[q0]? = some (b, .inr (ci, fs))) : PreV s H q.1 b (va_Pc (.ref b :: As) (fun U => U.heap.size = H.size ∧ va_P G.1 vwCl wc U.heap ∧ va_D (fun _ => True) wc ∧ SE ad av (va_A wc H.size) U U.heap ∧ KK G U)) As :=
  ⟨fun a U g mk q => ⟨q.1, q.2.1, q.2.2.1, q.2.2.2.1, q.2.2.2.2.1.blind, q.2.2.2.2.2.blind⟩, va_recv hK.1 hP hc he, fun U hU hW => ⟨rfl, by rw [hU], by rw [hU]; exact hP, hD.weaken (fun _ _ _ _ => trivial), hE.use hS hF hU hW, hK.moved hW⟩⟩
end FWST
section FWSR
variable {p : Program} {l : Launch} {e : Env} {R : Room} {s : State} {m : MethodId} {args : Array Value} {below : List Frame} {meth : Method} {c : Code} {H : Heap} {locs : List Loc} {Q : State → Prop}
theorem retRT {ty : FieldType} {cc : ByteArray} {v r : Int32} {pc : Nat} {ls : Array Slot} (hx : p.tables.exec = Jvm.exec) (hb : c.code = cc) (hr : meth.sig.returnType = some ty) (hlk : meth.locks = false) (hS : va_S (fun q => s.heap.size ≤ q) s.heap H locs) (hn : narrow ty (.int v) = .int v) (hv : v = r) (hd : decode cc pc = .ok (.ireturn, 1)) :
    W p l e R s m args below meth c H locs 0 0 (MQ below (va_Qi (fun r' (_ : Unit) => r' = r) (fun _ _ => True) (fun q => s.heap.size ≤ q)) args s 0 0 (fun q => s.heap.size ≤ q)) (F0 m pc ls [.int v]) := by
  cases hv; exact W.zret hx hb hr hn (fun t ht hW => ⟨⟨v, (), rfl, rfl, trivial⟩, hS.F ht⟩) hS.2.2 hd hlk
theorem retRV {cc : ByteArray} {pc : Nat} {ls : Array Slot} (hx : p.tables.exec = Jvm.exec) (hb : c.code = cc) (hr : meth.sig.returnType = none) (hlk : meth.locks = false) (hS : va_S (fun q => s.heap.size ≤ q) s.heap H locs) (hd : decode cc pc = .ok (.return_, 1)) :
    W p l e R s m args below meth c H locs 0 0 (MQ below (va_Qv (fun (_ : Unit) => True) (fun _ _ => True) (fun q => s.heap.size ≤ q)) args s 0 0 (fun q => s.heap.size ≤ q)) (F0 m pc ls []) :=
  W.vret hx hb hr (fun t ht hW => ⟨⟨(), rfl, trivial, trivial⟩, hS.F ht⟩) hS.2.2 hd hlk
theorem rcV {a : Array Value} {pc : Nat} {ls : Array Slot} {rest st0 : List Value} {A : Nat → Prop} {cells slots : Nat} (hr : va_Run p l e R s m args below meth c H locs cells slots 0 0 (F0 m pc ls st0) rest (va_Qv (fun (_ : Unit) => True) (fun _ _ => True) (fun q => H.size ≤ q) a) (fun q => H.size ≤ q)) (hS : va_S A s.heap H locs) (hA : ∀ q, s.heap.size ≤ q → A q)
    (kk : ∀ (H1 : Heap) (locs1 : List Loc), va_S A s.heap H1 locs1 → W p l e R s m args below meth c H1 locs1 cells slots Q (F0 m (pc + 3) ls rest)) : W p l e R s m args below meth c H locs cells slots Q (F0 m pc ls st0) :=
  va_callv hr hS (fun q h1 h2 => absurd h2 (Nat.not_le.mpr h1)) (fun q h => hA q (Nat.le_trans hS.1 h)) (fun u t H1 locs1 ht hvm hw hB hz hk hS1 => kk H1 locs1 hS1)
end FWSR
theorem pnil {D : va_G} {cl : List vw_C} {H : Heap} : va_P D cl [] H := fun k q h => by simp at h
theorem calJ0_coder : CalV yJ0_coder_7d493 cJ0_coder_7d493 1 (some .byte) 0 := ⟨⟨kw_9_2, kw_8_20, by decide +kernel⟩, kw_9_0, kw_9_1⟩
theorem calJ0_isLatin1 : CalV yJ0_isLatin1_aae02 cJ0_isLatin1_aae02 1 (some .boolean) 0 := ⟨⟨kw_9_12, kw_8_20, by decide +kernel⟩, kw_9_10, kw_9_11⟩
theorem calJ0_length : CalV yJ0_length_8abf5 cJ0_length_8abf5 1 (some .int) 0 := ⟨⟨kw_8_21, kw_8_20, by decide +kernel⟩, kw_8_18, kw_8_19⟩
theorem calJ0_charAt : CalV yJ0_charAt_5068e cJ0_charAt_5068e 2 (some .char) 1 := ⟨⟨kw_9_8, kw_8_20, by decide +kernel⟩, kw_9_6, kw_9_7⟩
theorem calJ1_charAt : CalS yJ1_charAt_3b067 cJ1_charAt_3b067 2 (some .char) 2 := ⟨⟨kw_9_16, kw_9_15, by decide +kernel⟩, kw_9_14⟩
theorem calJ0_checkIndex : CalS yJ0_checkIndex_df160 cJ0_checkIndex_df160 2 none 2 := ⟨⟨kw_9_19, kw_8_20, by decide +kernel⟩, kw_9_18⟩
theorem calJ3_checkIndex : CalS yJ3_checkIndex_8e157 cJ3_checkIndex_8e157 3 (some .int) 3 := ⟨⟨kw_10_0, kw_9_23, by decide +kernel⟩, kw_9_22⟩
set_option maxHeartbeats 8000000 in
theorem ctJ0_coder (l : Launch) (G : GT) (ad av : Nat → Nat) (i : Nat) (hi : i < 8) : RsI l yJ0_coder_7d493 (Cond.code yJ0_coder_7d493 cJ0_coder_7d493 1 (some .byte)) { frames := 0, cells := 0, slots := 0, locals := 0 } G ad av [.ref (ad i)] [] 0 := by
  intro sz
  refine Met.ofW (cc := cJ0_coder_7d493) (maxL := 1) (ret := some .byte) (by decide) rfl ?_
  intro p e s m args below meth c s₁ B hml hv
  obtain ⟨hargs, hsz, hP, hE, hK⟩ := hv
  subst hsz
  obtain ⟨hx, hb, hr, hw, hown, hlk⟩ := fwB B
  refine fw_enter hargs (Nat.le_of_ble_eq_true rfl) (fun ls hl => ?_)
  have hl : lv_has ls 1 [(0, .ref (ad i))] := hl
  have hS : va_S (fun q => s.heap.size ≤ q) s.heap s.heap [] := va_S.rf
  refine va_gets hx hb hE.2.2.1 hS hown (hw _ kw_9_3) (fun _ h9 => h9) dJ0_coder_7d493_0 ?_
  refine lv_if_eq (tgt := 13) hx hb dJ0_coder_7d493_3 (by decide) (fun h => absurd h (by decide)) (fun _ => ?_)
  refine lv_aload_n hx hb dJ0_coder_7d493_6 rfl (lv_at hl 0 rfl) ?_
  refine vk_getf hx hb (hE.1.1 i hi).2.1 hS hown (hw _ kw_9_4) (fun _ h9 => h9) dJ0_coder_7d493_7 ?_
  refine lv_goto (tgt := 14) hx hb dJ0_coder_7d493_10 (by decide) ?_
  exact retRT hx hb hr hlk hS (by decide +kernel) rfl dJ0_coder_7d493_14
set_option maxHeartbeats 8000000 in
theorem ctJ0_isLatin1 (l : Launch) (G : GT) (ad av : Nat → Nat) (i : Nat) (hi : i < 8) : RsI l yJ0_isLatin1_aae02 (Cond.code yJ0_isLatin1_aae02 cJ0_isLatin1_aae02 1 (some .boolean)) { frames := 0, cells := 0, slots := 0, locals := 0 } G ad av [.ref (ad i)] [] 1 := by
  intro sz
  refine Met.ofW (cc := cJ0_isLatin1_aae02) (maxL := 1) (ret := some .boolean) (by decide) rfl ?_
  intro p e s m args below meth c s₁ B hml hv
  obtain ⟨hargs, hsz, hP, hE, hK⟩ := hv
  subst hsz
  obtain ⟨hx, hb, hr, hw, hown, hlk⟩ := fwB B
  refine fw_enter hargs (Nat.le_of_ble_eq_true rfl) (fun ls hl => ?_)
  have hl : lv_has ls 1 [(0, .ref (ad i))] := hl
  have hS : va_S (fun q => s.heap.size ≤ q) s.heap s.heap [] := va_S.rf
  refine va_gets hx hb hE.2.2.1 hS hown (hw _ kw_9_3) (fun _ h9 => h9) dJ0_isLatin1_aae02_0 ?_
  refine lv_if_eq (tgt := 17) hx hb dJ0_isLatin1_aae02_3 (by decide) (fun h => absurd h (by decide)) (fun _ => ?_)
  refine lv_aload_n hx hb dJ0_isLatin1_aae02_6 rfl (lv_at hl 0 rfl) ?_
  refine vk_getf hx hb (hE.1.1 i hi).2.1 hS hown (hw _ kw_9_4) (fun _ h9 => h9) dJ0_isLatin1_aae02_7 ?_
  refine lv_if_ne (tgt := 17) hx hb dJ0_isLatin1_aae02_10 (by decide) (fun h => absurd rfl h) (fun _ => ?_)
  refine lv_iconst (v := 1) hx hb dJ0_isLatin1_aae02_13 (by decide) ?_
  refine lv_goto (tgt := 18) hx hb dJ0_isLatin1_aae02_14 (by decide) ?_
  exact retRT hx hb hr hlk hS (by decide +kernel) rfl dJ0_isLatin1_aae02_18
set_option maxHeartbeats 8000000 in
theorem ctJ0_length (l : Launch) (G : GT) (ad av : Nat → Nat) (i : Nat) (hi : i < 8) : RsI l yJ0_length_8abf5 (Cond.code yJ0_length_8abf5 cJ0_length_8abf5 1 (some .int)) { frames := 1, cells := 0, slots := 0, locals := 20 } G ad av [.ref (ad i)] [] (nI (lenS.getD i 0)) := by
  intro sz
  refine Met.ofW (cc := cJ0_length_8abf5) (maxL := 1) (ret := some .int) (by decide) rfl ?_
  intro p e s m args below meth c s₁ B hml hv
  obtain ⟨hargs, hsz, hP, hE, hK⟩ := hv
  subst hsz
  obtain ⟨hx, hb, hr, hw, hown, hlk⟩ := fwB B
  refine fw_enter hargs (Nat.le_of_ble_eq_true rfl) (fun ls hl => ?_)
  have hl : lv_has ls 1 [(0, .ref (ad i))] := hl
  have hS : va_S (fun q => s.heap.size ≤ q) s.heap s.heap [] := va_S.rf
  have hA : ∀ q : Nat, s.heap.size ≤ q → (fun q => s.heap.size ≤ q) q := fun q h => h
  refine lv_aload_n hx hb dJ0_length_8abf5_0 rfl (lv_at hl 0 rfl) ?_
  refine vk_getf hx hb (hE.1.1 i hi).2.2.1 hS hown (hw _ kw_8_22) (fun _ h9 => h9) dJ0_length_8abf5_1 ?_
  refine va_tlen hx hb (hE.1.1 i hi).2.2.2 hS (v := nI (lenS.getD i 0)) rfl dJ0_length_8abf5_4 ?_
  refine lv_aload_n hx hb dJ0_length_8abf5_5 rfl (lv_at hl 0 rfl) ?_
  refine rcI (va_runV (As := []) (rest := [.int (nI (lenS.getD i 0))]) ⟨hx, hb, hml, hown, hw⟩ (ctJ0_coder l G ad av i hi _) (kV hw calJ0_coder kw_8_23 rfl rfl ⟨Nat.le_of_ble_eq_true rfl, Nat.le_of_ble_eq_true rfl⟩) (rsK hi hE hS hA hK) rfl rfl hl.1 rfl (lv_room (Nat.le_of_ble_eq_true rfl)) dJ0_length_8abf5_6 ⟨Nat.zero_le _, Nat.zero_le _⟩) hS hA hP (fun H locs hP hS => ?_)
  refine lv_ishr hx hb dJ0_length_8abf5_9 ?_
  exact retRT hx hb hr hlk hS rfl (sb_shr0 _) dJ0_length_8abf5_10
set_option maxHeartbeats 8000000 in
theorem ctJ3_checkIndex (l : Launch) (G : GT) (ad av : Nat → Nat) (k n : Int32) (v : Value) (hv : v = .null ∨ ∃ t, v = .ref t) (h0 : ¬ k < 0) (h1 : k < n) : RsI l yJ3_checkIndex_8e157 (Cond.code yJ3_checkIndex_8e157 cJ3_checkIndex_8e157 3 (some .int)) { frames := 0, cells := 0, slots := 0, locals := 0 } G ad av [.int k, .int n, v] [] k := by
  rcases hv with rfl | ⟨t, rfl⟩
  all_goals
    intro sz
    refine Met.ofW (cc := cJ3_checkIndex_8e157) (maxL := 3) (ret := some .int) (by decide) rfl ?_
    intro p e s m args below meth c s₁ B hml hv
    obtain ⟨hargs, hsz, hP, hE, hK⟩ := hv
    subst hsz
    obtain ⟨hx, hb, hr, hw, hown, hlk⟩ := fwB B
    refine fw_enter hargs (Nat.le_of_ble_eq_true rfl) (fun ls hl => ?_)
    have hl := lv_sub hl (l' := [(0, .int k), (1, .int n)]) [0, 1] rfl
    have hS : va_S (fun q => s.heap.size ≤ q) s.heap s.heap [] := va_S.rf
    refine lv_iload_n hx hb dJ3_checkIndex_8e157_0 rfl (lv_at hl 0 rfl) ?_
    refine lv_if_lt (tgt := 9) hx hb dJ3_checkIndex_8e157_1 (by decide) (fun h => absurd h h0) (fun _ => ?_)
    refine lv_iload_n hx hb dJ3_checkIndex_8e157_4 rfl (lv_at hl 0 rfl) ?_
    refine lv_iload_n hx hb dJ3_checkIndex_8e157_5 rfl (lv_at hl 1 rfl) ?_
    refine lv_icmp_lt (tgt := 16) hx hb dJ3_checkIndex_8e157_6 (by decide) (fun _ => ?_) (fun h => absurd h1 h)
    refine lv_iload_n hx hb dJ3_checkIndex_8e157_16 rfl (lv_at hl 0 rfl) ?_
    exact retRT hx hb hr hlk hS rfl rfl dJ3_checkIndex_8e157_17
set_option maxHeartbeats 8000000 in
theorem ctJ0_checkIndex (l : Launch) (G : GT) (ad av : Nat → Nat) (k n : Int32) (h0 : ¬ k < 0) (h1 : k < n) : RsV l yJ0_checkIndex_df160 (Cond.code yJ0_checkIndex_df160 cJ0_checkIndex_df160 2 none) { frames := 1, cells := 0, slots := 0, locals := 22 } G ad av [.int k, .int n] [] := by
  intro sz
  refine Met.ofW (cc := cJ0_checkIndex_df160) (maxL := 2) (ret := none) (by decide) rfl ?_
  intro p e s m args below meth c s₁ B hml hv
  obtain ⟨hargs, hsz, hP, hE, hK⟩ := hv
  subst hsz
  obtain ⟨hx, hb, hr, hw, hown, hlk⟩ := fwB B
  refine fw_enter hargs (Nat.le_of_ble_eq_true rfl) (fun ls hl => ?_)
  have hl : lv_has ls 2 [(0, .int k), (1, .int n)] := hl
  have hS : va_S (fun q => s.heap.size ≤ q) s.heap s.heap [] := va_S.rf
  have hA : ∀ q : Nat, s.heap.size ≤ q → (fun q => s.heap.size ≤ q) q := fun q h => h
  refine lv_iload_n hx hb dJ0_checkIndex_df160_0 rfl (lv_at hl 0 rfl) ?_
  refine lv_iload_n hx hb dJ0_checkIndex_df160_1 rfl (lv_at hl 1 rfl) ?_
  rcases hE.2.2.2 with hz | ⟨t, hz⟩
  · refine va_gets hx hb hz hS hown (hw _ kw_9_20) (fun _ h9 => h9) dJ0_checkIndex_df160_2 ?_
    refine rcI (va_runS (As := [.int k, .int n, .null]) (rest := []) ⟨hx, hb, hml, hown, hw⟩ (ctJ3_checkIndex l G ad av k n _ (Or.inl rfl) h0 h1 _) (kS hw calJ3_checkIndex kw_9_21 rfl rfl ⟨Nat.le_of_ble_eq_true rfl, Nat.le_of_ble_eq_true rfl⟩) (rsS pnil hE hS hA hK) rfl rfl hl.1 rfl (lv_room (Nat.le_of_ble_eq_true rfl)) dJ0_checkIndex_df160_5 ⟨Nat.zero_le _, Nat.zero_le _⟩) hS hA hP (fun H locs hP hS => ?_)
    refine lv_pop hx hb dJ0_checkIndex_df160_8 rfl ?_
    exact retRV hx hb hr hlk hS dJ0_checkIndex_df160_9
  · refine va_gets hx hb hz hS hown (hw _ kw_9_20) (fun _ h9 => h9) dJ0_checkIndex_df160_2 ?_
    refine rcI (va_runS (As := [.int k, .int n, .ref t]) (rest := []) ⟨hx, hb, hml, hown, hw⟩ (ctJ3_checkIndex l G ad av k n _ (Or.inr ⟨t, rfl⟩) h0 h1 _) (kS hw calJ3_checkIndex kw_9_21 rfl rfl ⟨Nat.le_of_ble_eq_true rfl, Nat.le_of_ble_eq_true rfl⟩) (rsS pnil hE hS hA hK) rfl rfl hl.1 rfl (lv_room (Nat.le_of_ble_eq_true rfl)) dJ0_checkIndex_df160_5 ⟨Nat.zero_le _, Nat.zero_le _⟩) hS hA hP (fun H locs hP hS => ?_)
    refine lv_pop hx hb dJ0_checkIndex_df160_8 rfl ?_
    exact retRV hx hb hr hlk hS dJ0_checkIndex_df160_9
theorem in_lt {k : Int32} {n : Nat} (hn : n < 2 ^ 31) (h : vp_in k n) : ¬ k < 0 ∧ k < nI n := by
  obtain ⟨j, hj, rfl⟩ := vp_in_of h hn
  exact ⟨nI_pos (by omega), nI_lt hj hn⟩
theorem lenS_lt : ∀ i, i < 8 → lenS.getD i 0 < 2 ^ 31 := by decide +kernel
set_option maxHeartbeats 8000000 in
theorem ctJ1_charAt (l : Launch) (G : GT) (ad av : Nat → Nat) (i : Nat) (hi : i < 8) (k : Int32) (hk : vp_in k (lenS.getD i 0)) : RsI l yJ1_charAt_3b067 (Cond.code yJ1_charAt_3b067 cJ1_charAt_3b067 2 (some .char)) { frames := 2, cells := 0, slots := 0, locals := 43 } G ad av [.ref (av i), .int k] [] (chS i k.toNatClampNeg) := by
  intro sz
  refine Met.ofW (cc := cJ1_charAt_3b067) (maxL := 2) (ret := some .char) (by decide) rfl ?_
  intro p e s m args below meth c s₁ B hml hv
  obtain ⟨hargs, hsz, hP, hE, hK⟩ := hv
  subst hsz
  obtain ⟨hx, hb, hr, hw, hown, hlk⟩ := fwB B
  refine fw_enter hargs (Nat.le_of_ble_eq_true rfl) (fun ls hl => ?_)
  have hl : lv_has ls 2 [(0, .ref (av i)), (1, .int k)] := hl
  have hS : va_S (fun q => s.heap.size ≤ q) s.heap s.heap [] := va_S.rf
  have hA : ∀ q : Nat, s.heap.size ≤ q → (fun q => s.heap.size ≤ q) q := fun q h => h
  obtain ⟨h0, h1⟩ := in_lt (lenS_lt i hi) hk
  refine lv_iload_n hx hb dJ1_charAt_3b067_0 rfl (lv_at hl 1 rfl) ?_
  refine lv_aload_n hx hb dJ1_charAt_3b067_1 rfl (lv_at hl 0 rfl) ?_
  refine va_tlen hx hb (hE.1.1 i hi).2.2.2 hS (v := nI (lenS.getD i 0)) rfl dJ1_charAt_3b067_2 ?_
  refine rcV (va_runS (As := [.int k, .int (nI (lenS.getD i 0))]) (rest := []) ⟨hx, hb, hml, hown, hw⟩ (ctJ0_checkIndex l G ad av k _ h0 h1 _) (kS hw calJ0_checkIndex kw_9_17 rfl rfl ⟨Nat.le_of_ble_eq_true rfl, Nat.le_of_ble_eq_true rfl⟩) (rsS pnil hE hS hA hK) rfl rfl hl.1 rfl (lv_room (Nat.le_of_ble_eq_true rfl)) dJ1_charAt_3b067_3 ⟨Nat.zero_le _, Nat.zero_le _⟩) hS hA (fun H locs hS => ?_)
  refine lv_aload_n hx hb dJ1_charAt_3b067_6 rfl (lv_at hl 0 rfl) ?_
  refine lv_iload_n hx hb dJ1_charAt_3b067_7 rfl (lv_at hl 1 rfl) ?_
  refine va_tb hx hb (hE.1.1 i hi).2.2.2 hS hk rfl dJ1_charAt_3b067_8 ?_
  refine lv_sipush (v := 255) hx hb dJ1_charAt_3b067_9 (by decide) ?_
  refine lv_iand hx hb dJ1_charAt_3b067_12 ?_
  refine lv_i2c hx hb dJ1_charAt_3b067_13 (sc_c2 _) ?_
  exact retRT hx hb hr hlk hS (sc_nar _) rfl dJ1_charAt_3b067_14
set_option maxHeartbeats 8000000 in
theorem ctJ0_charAt (l : Launch) (G : GT) (ad av : Nat → Nat) (i : Nat) (hi : i < 8) (k : Int32) (hk : vp_in k (lenS.getD i 0)) : RsI l yJ0_charAt_5068e (Cond.code yJ0_charAt_5068e cJ0_charAt_5068e 2 (some .char)) { frames := 3, cells := 0, slots := 0, locals := 64 } G ad av [.ref (ad i), .int k] [] (chS i k.toNatClampNeg) := by
  intro sz
  refine Met.ofW (cc := cJ0_charAt_5068e) (maxL := 2) (ret := some .char) (by decide) rfl ?_
  intro p e s m args below meth c s₁ B hml hv
  obtain ⟨hargs, hsz, hP, hE, hK⟩ := hv
  subst hsz
  obtain ⟨hx, hb, hr, hw, hown, hlk⟩ := fwB B
  refine fw_enter hargs (Nat.le_of_ble_eq_true rfl) (fun ls hl => ?_)
  have hl : lv_has ls 2 [(0, .ref (ad i)), (1, .int k)] := hl
  have hS : va_S (fun q => s.heap.size ≤ q) s.heap s.heap [] := va_S.rf
  have hA : ∀ q : Nat, s.heap.size ≤ q → (fun q => s.heap.size ≤ q) q := fun q h => h
  refine lv_aload_n hx hb dJ0_charAt_5068e_0 rfl (lv_at hl 0 rfl) ?_
  refine rcI (va_runV (As := []) (rest := []) ⟨hx, hb, hml, hown, hw⟩ (ctJ0_isLatin1 l G ad av i hi _) (kV hw calJ0_isLatin1 kw_9_9 rfl rfl ⟨Nat.le_of_ble_eq_true rfl, Nat.le_of_ble_eq_true rfl⟩) (rsK hi hE hS hA hK) rfl rfl hl.1 rfl (lv_room (Nat.le_of_ble_eq_true rfl)) dJ0_charAt_5068e_1 ⟨Nat.zero_le _, Nat.zero_le _⟩) hS hA hP (fun H locs hP hS => ?_)
  refine lv_if_eq (tgt := 16) hx hb dJ0_charAt_5068e_4 (by decide) (fun h => absurd h (by decide)) (fun _ => ?_)
  refine lv_aload_n hx hb dJ0_charAt_5068e_7 rfl (lv_at hl 0 rfl) ?_
  refine vk_getf hx hb (hE.1.1 i hi).2.2.1 hS hown (hw _ kw_8_22) (fun _ h9 => h9) dJ0_charAt_5068e_8 ?_
  refine lv_iload_n hx hb dJ0_charAt_5068e_11 rfl (lv_at hl 1 rfl) ?_
  refine rcI (va_runS (As := [.ref (av i), .int k]) (rest := []) ⟨hx, hb, hml, hown, hw⟩ (ctJ1_charAt l G ad av i hi k hk _) (kS hw calJ1_charAt kw_9_13 rfl rfl ⟨Nat.le_of_ble_eq_true rfl, Nat.le_of_ble_eq_true rfl⟩) (rsS pnil hE hS hA hK) rfl rfl hl.1 rfl (lv_room (Nat.le_of_ble_eq_true rfl)) dJ0_charAt_5068e_12 ⟨Nat.zero_le _, Nat.zero_le _⟩) hS hA hP (fun H locs hP hS => ?_)
  exact retRT hx hb hr hlk hS (sc_nar _) rfl dJ0_charAt_5068e_15

