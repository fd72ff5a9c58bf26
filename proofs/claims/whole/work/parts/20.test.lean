def fX7_lesser (v0 : Int32) : Option Int32 :=
  some (v0 / 20)
def fX7_greater (v0 : Int32) : Option Int32 :=
  some (v0 - v0 / 20 * 20)
def fX7_crossing (v0 : Int32) (v1 : Int32) : Option Int32 :=
  bd1 (fX7_lesser v0) (fun r_1 => bd1 (fX7_greater v0) (fun r_3 => bd1 (fX7_lesser v1) (fun r_5 => bd1 (fX7_greater v1) (fun r_7 => jn (fun (z_9 : Int32) => if z_9 = 0 then some 0 else jn (fun (z_12 : Int32) => jn (fun (z_14 : Int32) => if z_12 = z_14 then some 0 else some 1) (fun k_15 => if r_7 ≤ r_1 then k_15 0 else if r_3 ≤ r_7 then k_15 0 else k_15 1)) (fun k_13 => if r_5 ≤ r_1 then k_13 0 else if r_3 ≤ r_5 then k_13 0 else k_13 1)) (fun k_10 => if r_1 = r_5 then k_10 0 else if r_1 = r_7 then k_10 0 else if r_3 = r_5 then k_10 0 else if r_3 = r_7 then k_10 0 else k_10 1)))))
def fX7_pairOf (v0 : Int32) (v1 : Int32) : Option Int32 :=
  bnd (if v1 < v0 then v1 else v0) (fun y_1 => bnd (if v0 < v1 then v1 else v0) (fun y_2 => some ((20 * y_1) + y_2)))
def fX1_hasWindow (t_windows : Int32) (v1 : Int32) : Option Int32 :=
  if v1 < 0 then some 0 else if t_windows ≤ v1 then some 0 else some 1
def fX1_hasPair (t_windows : Int32) (v1 : Int64) : Option Int32 :=
  if (lg_cmp v1 0) < 0 then some 0 else if (lg_cmp v1 240) < 0 then bnd (Int64.toInt32 v1) (fun y_3 => bd1 (fX7_lesser y_3) (fun r_4 => bd1 (fX7_greater y_3) (fun r_6 => if r_6 ≤ r_4 then some 0 else bd1 (fX7_greater y_3) (fun r_9 => if t_windows ≤ r_9 then some 0 else some 1)))) else some 0
def fX1_lengthOf (t_windows : Int32) (v1 : Int32) : Option Int32 :=
  bd1 (fX7_greater v1) (fun r_1 => bd1 (fX7_lesser v1) (fun r_3 => bnd (r_1 - r_3) (fun y_5 => some (y_5 * (t_windows - y_5)))))
def fX1_indexOf_2  (l1 : Int32) (t_strings : Int32) (t_pairs : Nat → Int32) (K : Option Int32) : Nat → Int32 → Option Int32
  | 0, _ => none
  | n + 1, l2 => if t_strings ≤ l2 then K else rdI 21 t_pairs l2 (fun x_2 => if x_2 = l1 then some l2 else fX1_indexOf_2 l1 t_strings t_pairs K n (l2 + 1))
def fX1_indexOf (t_strings : Int32) (t_pairs : Nat → Int32) (v1 : Int32) : Option Int32 :=
  fX1_indexOf_2 v1 t_strings t_pairs (some (-1)) FU 0
def fX1_stringsAt_4  (l1 : Int32) (t_strings : Int32) (t_pairs : Nat → Int32) (K : Int32 → Option Int32) : Nat → Int32 → Int32 → Option Int32
  | 0, _, _ => none
  | n + 1, l2, l3 => if t_strings ≤ l3 then K l2 else rdI 21 t_pairs l3 (fun x_2 => bd1 (fX7_lesser x_2) (fun r_4 => if r_4 = l1 then fX1_stringsAt_4 l1 t_strings t_pairs K n (l2 + 1) (l3 + 1) else rdI 21 t_pairs l3 (fun x_7 => bd1 (fX7_greater x_7) (fun r_9 => if r_9 = l1 then fX1_stringsAt_4 l1 t_strings t_pairs K n (l2 + 1) (l3 + 1) else fX1_stringsAt_4 l1 t_strings t_pairs K n l2 (l3 + 1)))))
def fX1_stringsAt (t_strings : Int32) (t_pairs : Nat → Int32) (v1 : Int32) : Option Int32 :=
  fX1_stringsAt_4 v1 t_strings t_pairs (fun (w_12 : Int32) => some w_12) FU 0 0
def fX1_whyNot_65  (l1 : Int32) (t_strings : Int32) (t_pairs : Nat → Int32) (K : Option Int32) : Nat → Int32 → Option Int32
  | 0, _ => none
  | n + 1, l4 => if t_strings ≤ l4 then K else rdI 21 t_pairs l4 (fun x_22 => bd1 (fX7_crossing l1 x_22) (fun r_24 => if r_24 = 0 then fX1_whyNot_65 l1 t_strings t_pairs K n (l4 + 1) else some 4))
def fX1_whyNot (t_windows : Int32) (t_strings : Int32) (t_cans : Nat → Int32) (t_pairs : Nat → Int32) (v1 : Int32) : Option Int32 :=
  bd1 (fX1_hasPair t_windows (Int32.toInt64 v1)) (fun r_1 => if r_1 = 0 then some 1 else bd1 (fX1_indexOf t_strings t_pairs v1) (fun r_4 => if r_4 = (-1) then bd1 (fX7_lesser v1) (fun r_7 => bd1 (fX7_greater v1) (fun r_9 => bd1 (fX1_stringsAt t_strings t_pairs r_7) (fun r_11 => rdI 12 t_cans r_7 (fun x_13 => if x_13 ≤ r_11 then some 3 else bd1 (fX1_stringsAt t_strings t_pairs r_9) (fun r_16 => rdI 12 t_cans r_9 (fun x_18 => if r_16 < x_18 then fX1_whyNot_65 v1 t_strings t_pairs (some 0) FU 0 else some 3)))))) else some 2))
def fX1_slackAt_2  (l1 : Int32) (l2 : Int32) (t_washes : Int32) (t_washPairs : Nat → Int32) (t_washHours : Nat → Int32) (K : Option Int32) : Nat → Int32 → Option Int32
  | 0, _ => none
  | n + 1, l3 => if t_washes ≤ l3 then K else rdI 8 t_washHours l3 (fun x_2 => jn (fun (z_4 : Int32) => if z_4 = 0 then fX1_slackAt_2 l1 l2 t_washes t_washPairs t_washHours K n (l3 + 1) else rdI 8 t_washPairs l3 (fun x_7 => bd1 (fX7_crossing l1 x_7) (fun r_9 => if r_9 = 0 then fX1_slackAt_2 l1 l2 t_washes t_washPairs t_washHours K n (l3 + 1) else some 1))) (fun k_5 => if ((x_2 >>> ((l2 - l2 / 12 * 12) &&& 31)) &&& 1) = 0 then k_5 0 else k_5 1))
def fX1_slackAt (t_washes : Int32) (t_washPairs : Nat → Int32) (t_washHours : Nat → Int32) (v1 : Int32) (v2 : Int32) : Option Int32 :=
  fX1_slackAt_2 v1 v2 t_washes t_washPairs t_washHours (some 0) FU 0
def fX1_addString_21  (l1 : Int32) (K : Int32 → (Nat → Int32) → (Nat → Int32) → Option (Int32 × (Nat → Int32) × (Nat → Int32))) : Nat → Int32 → Int32 → (Nat → Int32) → (Nat → Int32) → Option (Int32 × (Nat → Int32) × (Nat → Int32))
  | 0, _, _, _, _ => none
  | n + 1, l3, l4, t_pairs, t_knots => if l4 ≤ 0 then K l3 t_pairs t_knots else rdI 21 t_pairs (l4 - 1) (fun x_3 => if x_3 ≤ l1 then K l3 t_pairs t_knots else rdI 21 t_pairs (l4 - 1) (fun x_6 => wrI 21 t_pairs l4 x_6 (fun t_pairs_8 => rdI 21 t_knots (l4 - 1) (fun x_10 => wrI 21 t_knots l4 x_10 (fun t_knots_12 => bnd (l4 - 1) (fun y_14 => fX1_addString_21 l1 K n y_14 (l4 + (-1)) t_pairs_8 t_knots_12))))))
def fX1_addString (t_strings : Int32) (t_pairs : Nat → Int32) (t_knots : Nat → Int32) (v1 : Int32) (v2 : Int32) : Option (Int32 × (Nat → Int32) × (Nat → Int32)) :=
  if t_strings < 21 then fX1_addString_21 v1 (fun (w_15 : Int32) (t_pairs_16 : Nat → Int32) (t_knots_17 : Nat → Int32) => wrI 21 t_pairs_16 w_15 v1 (fun t_pairs_18 => wrI 21 t_knots_17 w_15 v2 (fun t_knots_20 => bnd (t_strings + 1) (fun y_22 => some (y_22, t_pairs_18, t_knots_20))))) FU t_strings t_strings t_pairs t_knots else some (t_strings, t_pairs, t_knots)
def fX1_removeString_17  (t_strings : Int32) (K : (Nat → Int32) → (Nat → Int32) → Option (Int32 × (Nat → Int32) × (Nat → Int32))) : Nat → Int32 → (Nat → Int32) → (Nat → Int32) → Option (Int32 × (Nat → Int32) × (Nat → Int32))
  | 0, _, _, _ => none
  | n + 1, l2, t_pairs, t_knots => if t_strings ≤ l2 then K t_pairs t_knots else rdI 21 t_pairs l2 (fun x_5 => wrI 21 t_pairs (l2 - 1) x_5 (fun t_pairs_7 => rdI 21 t_knots l2 (fun x_9 => wrI 21 t_knots (l2 - 1) x_9 (fun t_knots_11 => fX1_removeString_17 t_strings K n (l2 + 1) t_pairs_7 t_knots_11))))
def fX1_removeString (t_strings : Int32) (t_pairs : Nat → Int32) (t_knots : Nat → Int32) (v1 : Int32) : Option (Int32 × (Nat → Int32) × (Nat → Int32)) :=
  if v1 < 0 then some (t_strings, t_pairs, t_knots) else if v1 < t_strings then bnd (v1 + 1) (fun y_3 => fX1_removeString_17 t_strings (fun (t_pairs_13 : Nat → Int32) (t_knots_14 : Nat → Int32) => bnd (t_strings - 1) (fun y_15 => some (y_15, t_pairs_13, t_knots_14))) FU y_3 t_pairs t_knots) else some (t_strings, t_pairs, t_knots)
theorem calX7_lesser : CalS yX7_lesser cX7_lesser 1 (some .int) 1 := ⟨⟨kw_12_21, kw_1_2, by decide +kernel⟩, kw_12_20⟩
set_option maxHeartbeats 8000000 in
set_option maxRecDepth 100000 in
theorem ctX7_lesser (l : Launch) (G : GT) (v0 : Int32) (r : Int32) (hf : fX7_lesser v0 = some r) : RdI l yX7_lesser (Cond.code yX7_lesser cX7_lesser 1 (some .int)) { frames := 0, cells := 0, slots := 0, locals := 0 } G [.int v0] [] r := by
  intro sz
  refine Met.ofW (cc := cX7_lesser) (maxL := 1) (ret := (some .int)) (by decide) rfl ?_
  intro p e s m args below meth c s₁ B hml hv
  obtain ⟨hargs, hsz, hP, hK⟩ := hv
  subst hsz
  obtain ⟨hx, hb, hr, hw, hown, hlk⟩ := fwB B
  refine fw_enter hargs (Nat.le_of_ble_eq_true rfl) (fun ls hl => ?_)
  have hl : lv_has ls 1 [(0, .int v0)] := hl
  refine fw_Q (P := fun Q => ∃ A : Nat → Prop, va_S A s.heap s.heap [] ∧ (∀ q, s.heap.size ≤ q → A q) ∧ ∀ (v : Int32) (H : Heap) (locs : List Loc) (pc : Nat) (ls : Array Slot), some v = some r → va_S A s.heap H locs → decode cX7_lesser pc = .ok (.ireturn, 1) → W p l e ({ frames := 0, cells := 0, slots := 0, locals := 0 } : Room) s m args below meth c H locs 0 0 Q (F0 m pc ls [.int v])) ⟨fun q => s.heap.size ≤ q, va_S.rf, fun q h => h, fun v H locs pc ls h hS hd => retRI hx hb hr hlk hS h hd⟩ ?_
  rintro Q ⟨A, hS, hA, hRet⟩
  unfold fX7_lesser at hf
  refine lv_iload_n hx hb dX7_lesser_0 rfl (lv_at hl 0 rfl) ?_
  refine lv_bipush (v := 20) hx hb dX7_lesser_1 (by decide) ?_
  refine lv_idiv hx hb dX7_lesser_3 (by decide) ?_
  exact hRet _ _ _ _ _ hf hS dX7_lesser_4
theorem calX7_greater : CalS yX7_greater cX7_greater 1 (some .int) 1 := ⟨⟨kw_12_23, kw_1_2, by decide +kernel⟩, kw_12_22⟩
set_option maxHeartbeats 8000000 in
set_option maxRecDepth 100000 in
theorem ctX7_greater (l : Launch) (G : GT) (v0 : Int32) (r : Int32) (hf : fX7_greater v0 = some r) : RdI l yX7_greater (Cond.code yX7_greater cX7_greater 1 (some .int)) { frames := 0, cells := 0, slots := 0, locals := 0 } G [.int v0] [] r := by
  intro sz
  refine Met.ofW (cc := cX7_greater) (maxL := 1) (ret := (some .int)) (by decide) rfl ?_
  intro p e s m args below meth c s₁ B hml hv
  obtain ⟨hargs, hsz, hP, hK⟩ := hv
  subst hsz
  obtain ⟨hx, hb, hr, hw, hown, hlk⟩ := fwB B
  refine fw_enter hargs (Nat.le_of_ble_eq_true rfl) (fun ls hl => ?_)
  have hl : lv_has ls 1 [(0, .int v0)] := hl
  refine fw_Q (P := fun Q => ∃ A : Nat → Prop, va_S A s.heap s.heap [] ∧ (∀ q, s.heap.size ≤ q → A q) ∧ ∀ (v : Int32) (H : Heap) (locs : List Loc) (pc : Nat) (ls : Array Slot), some v = some r → va_S A s.heap H locs → decode cX7_greater pc = .ok (.ireturn, 1) → W p l e ({ frames := 0, cells := 0, slots := 0, locals := 0 } : Room) s m args below meth c H locs 0 0 Q (F0 m pc ls [.int v])) ⟨fun q => s.heap.size ≤ q, va_S.rf, fun q h => h, fun v H locs pc ls h hS hd => retRI hx hb hr hlk hS h hd⟩ ?_
  rintro Q ⟨A, hS, hA, hRet⟩
  unfold fX7_greater at hf
  refine lv_iload_n hx hb dX7_greater_0 rfl (lv_at hl 0 rfl) ?_
  refine lv_bipush (v := 20) hx hb dX7_greater_1 (by decide) ?_
  refine lv_irem hx hb dX7_greater_3 (by decide) ?_
  exact hRet _ _ _ _ _ hf hS dX7_greater_4
theorem calX7_crossing : CalS yX7_crossing cX7_crossing 7 (some .boolean) 2 := ⟨⟨kw_13_9, kw_1_2, by decide +kernel⟩, kw_13_8⟩
set_option maxHeartbeats 8000000 in
set_option maxRecDepth 100000 in
theorem ctX7_crossing (l : Launch) (G : GT) (v0 : Int32) (v1 : Int32) (r : Int32) (hf : fX7_crossing v0 v1 = some r) : RdI l yX7_crossing (Cond.code yX7_crossing cX7_crossing 7 (some .boolean)) { frames := 1, cells := 0, slots := 0, locals := 20 } G [.int v0, .int v1] [] r := by
  intro sz
  refine Met.ofW (cc := cX7_crossing) (maxL := 7) (ret := (some .boolean)) (by decide) rfl ?_
  intro p e s m args below meth c s₁ B hml hv
  obtain ⟨hargs, hsz, hP, hK⟩ := hv
  subst hsz
  obtain ⟨hx, hb, hr, hw, hown, hlk⟩ := fwB B
  refine fw_enter hargs (Nat.le_of_ble_eq_true rfl) (fun ls hl => ?_)
  have hl : lv_has ls 7 [(0, .int v0), (1, .int v1)] := hl
  refine fw_Q (P := fun Q => ∃ A : Nat → Prop, va_S A s.heap s.heap [] ∧ (∀ q, s.heap.size ≤ q → A q) ∧ ∀ (v : Int32) (H : Heap) (locs : List Loc) (pc : Nat) (ls : Array Slot), some v = some r → va_S A s.heap H locs → narrow .boolean (.int v) = .int v → decode cX7_crossing pc = .ok (.ireturn, 1) → W p l e ({ frames := 1, cells := 0, slots := 0, locals := 20 } : Room) s m args below meth c H locs 0 0 Q (F0 m pc ls [.int v])) ⟨fun q => s.heap.size ≤ q, va_S.rf, fun q h => h, fun v H locs pc ls h hS hn hd => retRZ hx hb hr hlk hS hn h hd⟩ ?_
  rintro Q ⟨A, hS, hA, hRet⟩
  unfold fX7_crossing at hf
  refine lv_iload_n hx hb dX7_crossing_0 rfl (lv_at hl 0 rfl) ?_
  obtain ⟨r_1, hc_2, hf⟩ := bd1_in hf
  refine rcI (va_runS (As := [.int v0]) (rest := []) ⟨hx, hb, hml, hown, hw⟩ ((ctX7_lesser l G v0 _ hc_2) _) (kS hw calX7_lesser kw_13_10 rfl rfl ⟨Nat.le_of_ble_eq_true rfl, Nat.le_of_ble_eq_true rfl⟩) (rpS (hP.sub (ws' := []) [] rfl) hK) rfl rfl hl.1 rfl (lv_room (Nat.le_of_ble_eq_true rfl)) dX7_crossing_1 ⟨Nat.zero_le _, Nat.zero_le _⟩) hS hA hP (fun H locs hP hS => ?_)
  refine lv_istore_n (lv' := [(2, .int r_1), (0, .int v0), (1, .int v1)]) hx hb dX7_crossing_4 rfl hl (by decide) rfl (fun ls hl => ?_)
  refine lv_iload_n hx hb dX7_crossing_5 rfl (lv_at hl 1 rfl) ?_
  obtain ⟨r_3, hc_4, hf⟩ := bd1_in hf
  refine rcI (va_runS (As := [.int v0]) (rest := []) ⟨hx, hb, hml, hown, hw⟩ ((ctX7_greater l G v0 _ hc_4) _) (kS hw calX7_greater kw_13_11 rfl rfl ⟨Nat.le_of_ble_eq_true rfl, Nat.le_of_ble_eq_true rfl⟩) (rpS (hP.sub (ws' := []) [] rfl) hK) rfl rfl hl.1 rfl (lv_room (Nat.le_of_ble_eq_true rfl)) dX7_crossing_6 ⟨Nat.zero_le _, Nat.zero_le _⟩) hS hA hP (fun H locs hP hS => ?_)
  refine lv_istore_n (lv' := [(3, .int r_3), (2, .int r_1), (0, .int v0), (1, .int v1)]) hx hb dX7_crossing_9 rfl hl (by decide) rfl (fun ls hl => ?_)
  refine lv_iload_n hx hb dX7_crossing_10 rfl (lv_at hl 3 rfl) ?_
  obtain ⟨r_5, hc_6, hf⟩ := bd1_in hf
  refine rcI (va_runS (As := [.int v1]) (rest := []) ⟨hx, hb, hml, hown, hw⟩ ((ctX7_lesser l G v1 _ hc_6) _) (kS hw calX7_lesser kw_13_10 rfl rfl ⟨Nat.le_of_ble_eq_true rfl, Nat.le_of_ble_eq_true rfl⟩) (rpS (hP.sub (ws' := []) [] rfl) hK) rfl rfl hl.1 rfl (lv_room (Nat.le_of_ble_eq_true rfl)) dX7_crossing_11 ⟨Nat.zero_le _, Nat.zero_le _⟩) hS hA hP (fun H locs hP hS => ?_)
  refine lv_istore (lv' := [(4, .int r_5), (3, .int r_3), (2, .int r_1), (0, .int v0), (1, .int v1)]) hx hb dX7_crossing_14 hl (by decide) rfl (fun ls hl => ?_)
  refine lv_iload_n hx hb dX7_crossing_16 rfl (lv_at hl 4 rfl) ?_
  obtain ⟨r_7, hc_8, hf⟩ := bd1_in hf
  refine rcI (va_runS (As := [.int v1]) (rest := []) ⟨hx, hb, hml, hown, hw⟩ ((ctX7_greater l G v1 _ hc_8) _) (kS hw calX7_greater kw_13_11 rfl rfl ⟨Nat.le_of_ble_eq_true rfl, Nat.le_of_ble_eq_true rfl⟩) (rpS (hP.sub (ws' := []) [] rfl) hK) rfl rfl hl.1 rfl (lv_room (Nat.le_of_ble_eq_true rfl)) dX7_crossing_17 ⟨Nat.zero_le _, Nat.zero_le _⟩) hS hA hP (fun H locs hP hS => ?_)
  refine lv_istore (lv' := [(5, .int r_7), (4, .int r_5), (3, .int r_3), (2, .int r_1), (0, .int v0), (1, .int v1)]) hx hb dX7_crossing_20 hl (by decide) rfl (fun ls hl => ?_)
  refine lv_iload_n hx hb dX7_crossing_22 rfl (lv_at hl 3 rfl) ?_
  refine lv_iload hx hb dX7_crossing_23 (lv_at hl 1 rfl) ?_
  refine jn_el hf (fun k_10 ek_10 hf => ?_)
  have J51 : ∀ (z_9 : Int32) (H : Heap) (locs : List Loc) (ls : Array Slot), va_P G.1 vwCl [] H → va_S A s.heap H locs → lv_has ls 7 [(2, .int r_1), (3, .int r_3), (4, .int r_5), (5, .int r_7)] → k_10 z_9 = some r → W p l e ({ frames := 1, cells := 0, slots := 0, locals := 20 } : Room) s m args below meth c H locs 0 0 Q (F0 m 51 ls [.int z_9]) := by
    intro z_9 H locs ls hP hS hl hf
    rw [ek_10] at hf
    refine lv_istore (lv' := [(6, .int z_9), (2, .int r_1), (3, .int r_3), (4, .int r_5), (5, .int r_7)]) hx hb dX7_crossing_51 hl (by decide) rfl (fun ls hl => ?_)
    refine lv_iload hx hb dX7_crossing_53 (lv_at hl 0 rfl) ?_
    refine lv_if_eq (tgt := 99) hx hb dX7_crossing_55 (by decide) (fun c_11 => ?_) (fun c_11 => ?_)
    · have hf := ip c_11 hf
      refine lv_iconst (v := 0) hx hb dX7_crossing_99 (by decide) ?_
      exact hRet _ _ _ _ _ hf hS (by decide +kernel) dX7_crossing_100
    · have hf := iq c_11 hf
      refine lv_iload hx hb dX7_crossing_58 (lv_at hl 3 rfl) ?_
      refine lv_iload_n hx hb dX7_crossing_60 rfl (lv_at hl 1 rfl) ?_
      refine jn_el hf (fun k_13 ek_13 hf => ?_)
      have J75 : ∀ (z_12 : Int32) (H : Heap) (locs : List Loc) (ls : Array Slot), va_P G.1 vwCl [] H → va_S A s.heap H locs → lv_has ls 7 [(2, .int r_1), (3, .int r_3), (5, .int r_7)] → k_13 z_12 = some r → W p l e ({ frames := 1, cells := 0, slots := 0, locals := 20 } : Room) s m args below meth c H locs 0 0 Q (F0 m 75 ls [.int z_12]) := by
        intro z_12 H locs ls hP hS hl hf
        rw [ek_13] at hf
        refine lv_iload hx hb dX7_crossing_75 (lv_at hl 2 rfl) ?_
        refine lv_iload_n hx hb dX7_crossing_77 rfl (lv_at hl 0 rfl) ?_
        refine jn_el hf (fun k_15 ek_15 hf => ?_)
        have J92 : ∀ (z_14 : Int32) (H : Heap) (locs : List Loc) (ls : Array Slot), va_P G.1 vwCl [] H → va_S A s.heap H locs → lv_has ls 7 [] → k_15 z_14 = some r → W p l e ({ frames := 1, cells := 0, slots := 0, locals := 20 } : Room) s m args below meth c H locs 0 0 Q (F0 m 92 ls [.int z_14, .int z_12]) := by
          intro z_14 H locs ls hP hS hl hf
          rw [ek_15] at hf
          refine lv_icmp_eq (tgt := 99) hx hb dX7_crossing_92 (by decide) (fun c_16 => ?_) (fun c_16 => ?_)
          · have hf := ip c_16 hf
            refine lv_iconst (v := 0) hx hb dX7_crossing_99 (by decide) ?_
            exact hRet _ _ _ _ _ hf hS (by decide +kernel) dX7_crossing_100
          · have hf := iq c_16 hf
            refine lv_iconst (v := 1) hx hb dX7_crossing_95 (by decide) ?_
            refine lv_goto (tgt := 100) hx hb dX7_crossing_96 (by decide) ?_
            exact hRet _ _ _ _ _ hf hS (by decide +kernel) dX7_crossing_100
        refine lv_icmp_le (tgt := 91) hx hb dX7_crossing_78 (by decide) (fun c_17 => ?_) (fun c_17 => ?_)
        · have hf := ip c_17 hf
          refine lv_iconst (v := 0) hx hb dX7_crossing_91 (by decide) ?_
          exact J92 _ _ _ _ hP hS (lv_sub hl [] rfl) hf
        · have hf := iq c_17 hf
          refine lv_iload hx hb dX7_crossing_81 (lv_at hl 2 rfl) ?_
          refine lv_iload_n hx hb dX7_crossing_83 rfl (lv_at hl 1 rfl) ?_
          refine lv_icmp_ge (tgt := 91) hx hb dX7_crossing_84 (by decide) (fun c_18 => ?_) (fun c_18 => ?_)
          · have hf := ip c_18 hf
            refine lv_iconst (v := 0) hx hb dX7_crossing_91 (by decide) ?_
            exact J92 _ _ _ _ hP hS (lv_sub hl [] rfl) hf
          · have hf := iq c_18 hf
            refine lv_iconst (v := 1) hx hb dX7_crossing_87 (by decide) ?_
            refine lv_goto (tgt := 92) hx hb dX7_crossing_88 (by decide) ?_
            exact J92 _ _ _ _ hP hS (lv_sub hl [] rfl) hf
      refine lv_icmp_le (tgt := 74) hx hb dX7_crossing_61 (by decide) (fun c_19 => ?_) (fun c_19 => ?_)
      · have hf := ip c_19 hf
        refine lv_iconst (v := 0) hx hb dX7_crossing_74 (by decide) ?_
        exact J75 _ _ _ _ hP hS (lv_sub hl [1, 2, 4] rfl) hf
      · have hf := iq c_19 hf
        refine lv_iload hx hb dX7_crossing_64 (lv_at hl 3 rfl) ?_
        refine lv_iload_n hx hb dX7_crossing_66 rfl (lv_at hl 2 rfl) ?_
        refine lv_icmp_ge (tgt := 74) hx hb dX7_crossing_67 (by decide) (fun c_20 => ?_) (fun c_20 => ?_)
        · have hf := ip c_20 hf
          refine lv_iconst (v := 0) hx hb dX7_crossing_74 (by decide) ?_
          exact J75 _ _ _ _ hP hS (lv_sub hl [1, 2, 4] rfl) hf
        · have hf := iq c_20 hf
          refine lv_iconst (v := 1) hx hb dX7_crossing_70 (by decide) ?_
          refine lv_goto (tgt := 75) hx hb dX7_crossing_71 (by decide) ?_
          exact J75 _ _ _ _ hP hS (lv_sub hl [1, 2, 4] rfl) hf
  refine lv_icmp_eq (tgt := 50) hx hb dX7_crossing_25 (by decide) (fun c_21 => ?_) (fun c_21 => ?_)
  · have hf := ip c_21 hf
    refine lv_iconst (v := 0) hx hb dX7_crossing_50 (by decide) ?_
    exact J51 _ _ _ _ hP hS (lv_sub hl [3, 2, 1, 0] rfl) hf
  · have hf := iq c_21 hf
    refine lv_iload_n hx hb dX7_crossing_28 rfl (lv_at hl 3 rfl) ?_
    refine lv_iload hx hb dX7_crossing_29 (lv_at hl 0 rfl) ?_
    refine lv_icmp_eq (tgt := 50) hx hb dX7_crossing_31 (by decide) (fun c_22 => ?_) (fun c_22 => ?_)
    · have hf := ip c_22 hf
      refine lv_iconst (v := 0) hx hb dX7_crossing_50 (by decide) ?_
      exact J51 _ _ _ _ hP hS (lv_sub hl [3, 2, 1, 0] rfl) hf
    · have hf := iq c_22 hf
      refine lv_iload_n hx hb dX7_crossing_34 rfl (lv_at hl 2 rfl) ?_
      refine lv_iload hx hb dX7_crossing_35 (lv_at hl 1 rfl) ?_
      refine lv_icmp_eq (tgt := 50) hx hb dX7_crossing_37 (by decide) (fun c_23 => ?_) (fun c_23 => ?_)
      · have hf := ip c_23 hf
        refine lv_iconst (v := 0) hx hb dX7_crossing_50 (by decide) ?_
        exact J51 _ _ _ _ hP hS (lv_sub hl [3, 2, 1, 0] rfl) hf
      · have hf := iq c_23 hf
        refine lv_iload_n hx hb dX7_crossing_40 rfl (lv_at hl 2 rfl) ?_
        refine lv_iload hx hb dX7_crossing_41 (lv_at hl 0 rfl) ?_
        refine lv_icmp_eq (tgt := 50) hx hb dX7_crossing_43 (by decide) (fun c_24 => ?_) (fun c_24 => ?_)
        · have hf := ip c_24 hf
          refine lv_iconst (v := 0) hx hb dX7_crossing_50 (by decide) ?_
          exact J51 _ _ _ _ hP hS (lv_sub hl [3, 2, 1, 0] rfl) hf
        · have hf := iq c_24 hf
          refine lv_iconst (v := 1) hx hb dX7_crossing_46 (by decide) ?_
          refine lv_goto (tgt := 51) hx hb dX7_crossing_47 (by decide) ?_
          exact J51 _ _ _ _ hP hS (lv_sub hl [3, 2, 1, 0] rfl) hf
theorem calX7_pairOf : CalS yX7_pairOf cX7_pairOf 2 (some .int) 2 := ⟨⟨kw_12_2, kw_1_2, by decide +kernel⟩, kw_12_1⟩
set_option maxHeartbeats 8000000 in
set_option maxRecDepth 100000 in
theorem ctX7_pairOf (l : Launch) (G : GT) (v0 : Int32) (v1 : Int32) (r : Int32) (hf : fX7_pairOf v0 v1 = some r) : RdI l yX7_pairOf (Cond.code yX7_pairOf cX7_pairOf 2 (some .int)) { frames := 1, cells := 0, slots := 0, locals := 32 } G [.int v0, .int v1] [] r := by
  intro sz
  refine Met.ofW (cc := cX7_pairOf) (maxL := 2) (ret := (some .int)) (by decide) rfl ?_
  intro p e s m args below meth c s₁ B hml hv
  obtain ⟨hargs, hsz, hP, hK⟩ := hv
  subst hsz
  obtain ⟨hx, hb, hr, hw, hown, hlk⟩ := fwB B
  refine fw_enter hargs (Nat.le_of_ble_eq_true rfl) (fun ls hl => ?_)
  have hl : lv_has ls 2 [(0, .int v0), (1, .int v1)] := hl
  refine fw_Q (P := fun Q => ∃ A : Nat → Prop, va_S A s.heap s.heap [] ∧ (∀ q, s.heap.size ≤ q → A q) ∧ ∀ (v : Int32) (H : Heap) (locs : List Loc) (pc : Nat) (ls : Array Slot), some v = some r → va_S A s.heap H locs → decode cX7_pairOf pc = .ok (.ireturn, 1) → W p l e ({ frames := 1, cells := 0, slots := 0, locals := 32 } : Room) s m args below meth c H locs 0 0 Q (F0 m pc ls [.int v])) ⟨fun q => s.heap.size ≤ q, va_S.rf, fun q h => h, fun v H locs pc ls h hS hd => retRI hx hb hr hlk hS h hd⟩ ?_
  rintro Q ⟨A, hS, hA, hRet⟩
  unfold fX7_pairOf at hf
  refine lv_bipush (v := 20) hx hb dX7_pairOf_0 (by decide) ?_
  refine lv_iload_n hx hb dX7_pairOf_2 rfl (lv_at hl 0 rfl) ?_
  refine lv_iload_n hx hb dX7_pairOf_3 rfl (lv_at hl 1 rfl) ?_
  refine va_mmin hx hb (by rw [hml]; exact hl.1.symm) hown (hw _ kw_12_3) (hw _ kw_7_8) (hw _ kw_7_9) (hw _ kw_7_10) (Nat.le_of_ble_eq_true rfl) (Nat.le_of_ble_eq_true rfl) (Nat.zero_le _) (Nat.zero_le _) dX7_pairOf_4 ?_
  refine lv_topi (fun y_1 ey_1 => ?_)
  have hf := bnd_all hf y_1 ey_1
  refine lv_imul hx hb dX7_pairOf_7 ?_
  refine lv_iload_n hx hb dX7_pairOf_8 rfl (lv_at hl 0 rfl) ?_
  refine lv_iload_n hx hb dX7_pairOf_9 rfl (lv_at hl 1 rfl) ?_
  refine va_mmax hx hb (by rw [hml]; exact hl.1.symm) hown (hw _ kw_12_4) (hw _ kw_12_5) (hw _ kw_7_9) (hw _ kw_12_6) (Nat.le_of_ble_eq_true rfl) (Nat.le_of_ble_eq_true rfl) (Nat.zero_le _) (Nat.zero_le _) dX7_pairOf_10 ?_
  refine lv_topi (fun y_2 ey_2 => ?_)
  have hf := bnd_all hf y_2 ey_2
  refine lv_iadd hx hb dX7_pairOf_13 ?_
  exact hRet _ _ _ _ _ hf hS dX7_pairOf_14
theorem calX1_hasWindow : CalV yX1_hasWindow cX1_hasWindow 2 (some .boolean) 1 := ⟨⟨kw_18_4, kw_1_19, by decide +kernel⟩, kw_18_2, kw_18_3⟩
set_option maxHeartbeats 8000000 in
set_option maxRecDepth 100000 in
theorem ctX1_hasWindow (l : Launch) (G : GT) (t_h : Nat) (t_a : Nat → Nat) (t_windows : Int32) (t_washes : Int32) (t_damp : Int32) (t_heard : Int32) (t_lines : Int32) (t_hour : Int32) (t_strings : Int32) (v1 : Int32) (r : Int32) (hf : fX1_hasWindow t_windows v1 = some r) : RdI l yX1_hasWindow (Cond.code yX1_hasWindow cX1_hasWindow 2 (some .boolean)) { frames := 0, cells := 0, slots := 0, locals := 0 } G [.ref t_h, .int v1] [oX1 t_h t_a t_windows t_washes t_damp t_heard t_lines t_hour t_strings] r := by
  intro sz
  refine Met.ofW (cc := cX1_hasWindow) (maxL := 2) (ret := (some .boolean)) (by decide) rfl ?_
  intro p e s m args below meth c s₁ B hml hv
  obtain ⟨hargs, hsz, hP, hK⟩ := hv
  subst hsz
  obtain ⟨hx, hb, hr, hw, hown, hlk⟩ := fwB B
  refine fw_enter hargs (Nat.le_of_ble_eq_true rfl) (fun ls hl => ?_)
  have hl : lv_has ls 2 [(0, .ref t_h), (1, .int v1)] := hl
  refine fw_Q (P := fun Q => ∃ A : Nat → Prop, va_S A s.heap s.heap [] ∧ (∀ q, s.heap.size ≤ q → A q) ∧ ∀ (v : Int32) (H : Heap) (locs : List Loc) (pc : Nat) (ls : Array Slot), some v = some r → va_S A s.heap H locs → narrow .boolean (.int v) = .int v → decode cX1_hasWindow pc = .ok (.ireturn, 1) → W p l e ({ frames := 0, cells := 0, slots := 0, locals := 0 } : Room) s m args below meth c H locs 0 0 Q (F0 m pc ls [.int v])) ⟨fun q => s.heap.size ≤ q, va_S.rf, fun q h => h, fun v H locs pc ls h hS hn hd => retRZ hx hb hr hlk hS hn h hd⟩ ?_
  rintro Q ⟨A, hS, hA, hRet⟩
  unfold fX1_hasWindow at hf
  refine lv_iload_n hx hb dX1_hasWindow_0 rfl (lv_at hl 1 rfl) ?_
  refine lv_if_lt (tgt := 16) hx hb dX1_hasWindow_1 (by decide) (fun c_1 => ?_) (fun c_1 => ?_)
  · have hf := ip c_1 hf
    refine lv_iconst (v := 0) hx hb dX1_hasWindow_16 (by decide) ?_
    exact hRet _ _ _ _ _ hf hS (by decide +kernel) dX1_hasWindow_17
  · have hf := iq c_1 hf
    refine lv_iload_n hx hb dX1_hasWindow_4 rfl (lv_at hl 1 rfl) ?_
    refine lv_aload_n hx hb dX1_hasWindow_5 rfl (lv_at hl 0 rfl) ?_
    refine va_get (D := G.1) (ci := 1) (v := .int t_windows) (C := RX1) (T := TX1) (N := 12) hx hb hw inW1 hown hK.1 hP 0 rfl rfl 0 (by decide) (hw _ kw_3_17) (fun _ h9 => h9) rfl dX1_hasWindow_6 ?_
    refine lv_icmp_ge (tgt := 16) hx hb dX1_hasWindow_9 (by decide) (fun c_2 => ?_) (fun c_2 => ?_)
    · have hf := ip c_2 hf
      refine lv_iconst (v := 0) hx hb dX1_hasWindow_16 (by decide) ?_
      exact hRet _ _ _ _ _ hf hS (by decide +kernel) dX1_hasWindow_17
    · have hf := iq c_2 hf
      refine lv_iconst (v := 1) hx hb dX1_hasWindow_12 (by decide) ?_
      refine lv_goto (tgt := 17) hx hb dX1_hasWindow_13 (by decide) ?_
      exact hRet _ _ _ _ _ hf hS (by decide +kernel) dX1_hasWindow_17
theorem calX1_hasPair : CalV yX1_hasPair cX1_hasPair 4 (some .boolean) 1 := ⟨⟨kw_12_18, kw_1_19, by decide +kernel⟩, kw_12_16, kw_12_17⟩
set_option maxHeartbeats 8000000 in
set_option maxRecDepth 100000 in
theorem ctX1_hasPair (l : Launch) (G : GT) (t_h : Nat) (t_a : Nat → Nat) (t_windows : Int32) (t_washes : Int32) (t_damp : Int32) (t_heard : Int32) (t_lines : Int32) (t_hour : Int32) (t_strings : Int32) (v1 : Int64) (r : Int32) (hf : fX1_hasPair t_windows v1 = some r) : RdI l yX1_hasPair (Cond.code yX1_hasPair cX1_hasPair 4 (some .boolean)) { frames := 1, cells := 0, slots := 0, locals := 20 } G [.ref t_h, .long v1] [oX1 t_h t_a t_windows t_washes t_damp t_heard t_lines t_hour t_strings] r := by
  intro sz
  refine Met.ofW (cc := cX1_hasPair) (maxL := 4) (ret := (some .boolean)) (by decide) rfl ?_
  intro p e s m args below meth c s₁ B hml hv
  obtain ⟨hargs, hsz, hP, hK⟩ := hv
  subst hsz
  obtain ⟨hx, hb, hr, hw, hown, hlk⟩ := fwB B
  refine fw_enter hargs (Nat.le_of_ble_eq_true rfl) (fun ls hl => ?_)
  have hl : lv_has ls 4 [(0, .ref t_h), (1, .long v1)] := hl
  refine fw_Q (P := fun Q => ∃ A : Nat → Prop, va_S A s.heap s.heap [] ∧ (∀ q, s.heap.size ≤ q → A q) ∧ ∀ (v : Int32) (H : Heap) (locs : List Loc) (pc : Nat) (ls : Array Slot), some v = some r → va_S A s.heap H locs → narrow .boolean (.int v) = .int v → decode cX1_hasPair pc = .ok (.ireturn, 1) → W p l e ({ frames := 1, cells := 0, slots := 0, locals := 20 } : Room) s m args below meth c H locs 0 0 Q (F0 m pc ls [.int v])) ⟨fun q => s.heap.size ≤ q, va_S.rf, fun q h => h, fun v H locs pc ls h hS hn hd => retRZ hx hb hr hlk hS hn h hd⟩ ?_
  rintro Q ⟨A, hS, hA, hRet⟩
  unfold fX1_hasPair at hf
  refine lv_lload_n hx hb dX1_hasPair_0 rfl (lv_at hl 1 rfl) ?_
  refine lv_lconst (v := 0) hx hb dX1_hasPair_1 (by decide) ?_
  refine W.lcmp hx hb dX1_hasPair_2 ?_
  refine lv_if_lt (tgt := 14) hx hb dX1_hasPair_3 (by decide) (fun c_1 => ?_) (fun c_1 => ?_)
  · have hf := ip c_1 hf
    refine lv_iconst (v := 0) hx hb dX1_hasPair_14 (by decide) ?_
    exact hRet _ _ _ _ _ hf hS (by decide +kernel) dX1_hasPair_15
  · have hf := iq c_1 hf
    refine lv_lload_n hx hb dX1_hasPair_6 rfl (lv_at hl 1 rfl) ?_
    refine lv_ldc2 hx hb hown (hw _ kw_12_19) dX1_hasPair_7 ?_
    refine W.lcmp hx hb dX1_hasPair_10 ?_
    refine lv_if_lt (tgt := 16) hx hb dX1_hasPair_11 (by decide) (fun c_2 => ?_) (fun c_2 => ?_)
    · have hf := ip c_2 hf
      refine lv_lload_n hx hb dX1_hasPair_16 rfl (lv_at hl 1 rfl) ?_
      refine lv_l2i hx hb dX1_hasPair_17 rfl ?_
      refine lv_topi (fun y_3 ey_3 => ?_)
      have hf := bnd_all hf y_3 ey_3
      refine lv_istore_n (lv' := [(3, .int y_3), (0, .ref t_h), (1, .long v1)]) hx hb dX1_hasPair_18 rfl hl (by decide) rfl (fun ls hl => ?_)
      refine lv_iload_n hx hb dX1_hasPair_19 rfl (lv_at hl 0 rfl) ?_
      obtain ⟨r_4, hc_5, hf⟩ := bd1_in hf
      refine rcI (va_runSN (As := [.int y_3]) (rest := []) ⟨hx, hb, hml, hown, hw⟩ ((ctX7_lesser l G y_3 _ hc_5) _) (kSN hw calX7_lesser (nm_7 hK.2) rfl rfl ⟨Nat.le_of_ble_eq_true rfl, Nat.le_of_ble_eq_true rfl⟩) (rpS (hP.sub (ws' := []) [] rfl) hK) rfl rfl hl.1 rfl (lv_room (Nat.le_of_ble_eq_true rfl)) dX1_hasPair_20 ⟨Nat.zero_le _, Nat.zero_le _⟩) hS hA hP (fun H locs hP hS => ?_)
      refine lv_iload_n hx hb dX1_hasPair_23 rfl (lv_at hl 0 rfl) ?_
      obtain ⟨r_6, hc_7, hf⟩ := bd1_in hf
      refine rcI (va_runSN (As := [.int y_3]) (rest := [.int r_4]) ⟨hx, hb, hml, hown, hw⟩ ((ctX7_greater l G y_3 _ hc_7) _) (kSN hw calX7_greater (nm_8 hK.2) rfl rfl ⟨Nat.le_of_ble_eq_true rfl, Nat.le_of_ble_eq_true rfl⟩) (rpS (hP.sub (ws' := []) [] rfl) hK) rfl rfl hl.1 rfl (lv_room (Nat.le_of_ble_eq_true rfl)) dX1_hasPair_24 ⟨Nat.zero_le _, Nat.zero_le _⟩) hS hA hP (fun H locs hP hS => ?_)
      refine lv_icmp_ge (tgt := 45) hx hb dX1_hasPair_27 (by decide) (fun c_8 => ?_) (fun c_8 => ?_)
      · have hf := ip c_8 hf
        refine lv_iconst (v := 0) hx hb dX1_hasPair_45 (by decide) ?_
        exact hRet _ _ _ _ _ hf hS (by decide +kernel) dX1_hasPair_46
      · have hf := iq c_8 hf
        refine lv_iload_n hx hb dX1_hasPair_30 rfl (lv_at hl 0 rfl) ?_
        obtain ⟨r_9, hc_10, hf⟩ := bd1_in hf
        refine rcI (va_runSN (As := [.int y_3]) (rest := []) ⟨hx, hb, hml, hown, hw⟩ ((ctX7_greater l G y_3 _ hc_10) _) (kSN hw calX7_greater (nm_8 hK.2) rfl rfl ⟨Nat.le_of_ble_eq_true rfl, Nat.le_of_ble_eq_true rfl⟩) (rpS (hP.sub (ws' := []) [] rfl) hK) rfl rfl hl.1 rfl (lv_room (Nat.le_of_ble_eq_true rfl)) dX1_hasPair_31 ⟨Nat.zero_le _, Nat.zero_le _⟩) hS hA hP (fun H locs hP hS => ?_)
        refine lv_aload_n hx hb dX1_hasPair_34 rfl (lv_at hl 1 rfl) ?_
        refine va_get (D := G.1) (ci := 1) (v := .int t_windows) (C := RX1) (T := TX1) (N := 12) hx hb hw inW1 hown hK.1 hP 0 rfl rfl 0 (by decide) (hw _ kw_3_17) (fun _ h9 => h9) rfl dX1_hasPair_35 ?_
        refine lv_icmp_ge (tgt := 45) hx hb dX1_hasPair_38 (by decide) (fun c_11 => ?_) (fun c_11 => ?_)
        · have hf := ip c_11 hf
          refine lv_iconst (v := 0) hx hb dX1_hasPair_45 (by decide) ?_
          exact hRet _ _ _ _ _ hf hS (by decide +kernel) dX1_hasPair_46
        · have hf := iq c_11 hf
          refine lv_iconst (v := 1) hx hb dX1_hasPair_41 (by decide) ?_
          refine lv_goto (tgt := 46) hx hb dX1_hasPair_42 (by decide) ?_
          exact hRet _ _ _ _ _ hf hS (by decide +kernel) dX1_hasPair_46
    · have hf := iq c_2 hf
      refine lv_iconst (v := 0) hx hb dX1_hasPair_14 (by decide) ?_
      exact hRet _ _ _ _ _ hf hS (by decide +kernel) dX1_hasPair_15
theorem calX1_lengthOf : CalV yX1_lengthOf cX1_lengthOf 3 (some .int) 1 := ⟨⟨kw_19_11, kw_1_19, by decide +kernel⟩, kw_19_9, kw_19_10⟩
set_option maxHeartbeats 8000000 in
set_option maxRecDepth 100000 in
theorem ctX1_lengthOf (l : Launch) (G : GT) (t_h : Nat) (t_a : Nat → Nat) (t_windows : Int32) (t_washes : Int32) (t_damp : Int32) (t_heard : Int32) (t_lines : Int32) (t_hour : Int32) (t_strings : Int32) (v1 : Int32) (r : Int32) (hf : fX1_lengthOf t_windows v1 = some r) : RdI l yX1_lengthOf (Cond.code yX1_lengthOf cX1_lengthOf 3 (some .int)) { frames := 1, cells := 0, slots := 0, locals := 20 } G [.ref t_h, .int v1] [oX1 t_h t_a t_windows t_washes t_damp t_heard t_lines t_hour t_strings] r := by
  intro sz
  refine Met.ofW (cc := cX1_lengthOf) (maxL := 3) (ret := (some .int)) (by decide) rfl ?_
  intro p e s m args below meth c s₁ B hml hv
  obtain ⟨hargs, hsz, hP, hK⟩ := hv
  subst hsz
  obtain ⟨hx, hb, hr, hw, hown, hlk⟩ := fwB B
  refine fw_enter hargs (Nat.le_of_ble_eq_true rfl) (fun ls hl => ?_)
  have hl : lv_has ls 3 [(0, .ref t_h), (1, .int v1)] := hl
  refine fw_Q (P := fun Q => ∃ A : Nat → Prop, va_S A s.heap s.heap [] ∧ (∀ q, s.heap.size ≤ q → A q) ∧ ∀ (v : Int32) (H : Heap) (locs : List Loc) (pc : Nat) (ls : Array Slot), some v = some r → va_S A s.heap H locs → decode cX1_lengthOf pc = .ok (.ireturn, 1) → W p l e ({ frames := 1, cells := 0, slots := 0, locals := 20 } : Room) s m args below meth c H locs 0 0 Q (F0 m pc ls [.int v])) ⟨fun q => s.heap.size ≤ q, va_S.rf, fun q h => h, fun v H locs pc ls h hS hd => retRI hx hb hr hlk hS h hd⟩ ?_
  rintro Q ⟨A, hS, hA, hRet⟩
  unfold fX1_lengthOf at hf
  refine lv_iload_n hx hb dX1_lengthOf_0 rfl (lv_at hl 1 rfl) ?_
  obtain ⟨r_1, hc_2, hf⟩ := bd1_in hf
  refine rcI (va_runSN (As := [.int v1]) (rest := []) ⟨hx, hb, hml, hown, hw⟩ ((ctX7_greater l G v1 _ hc_2) _) (kSN hw calX7_greater (nm_8 hK.2) rfl rfl ⟨Nat.le_of_ble_eq_true rfl, Nat.le_of_ble_eq_true rfl⟩) (rpS (hP.sub (ws' := []) [] rfl) hK) rfl rfl hl.1 rfl (lv_room (Nat.le_of_ble_eq_true rfl)) dX1_lengthOf_1 ⟨Nat.zero_le _, Nat.zero_le _⟩) hS hA hP (fun H locs hP hS => ?_)
  refine lv_iload_n hx hb dX1_lengthOf_4 rfl (lv_at hl 1 rfl) ?_
  obtain ⟨r_3, hc_4, hf⟩ := bd1_in hf
  refine rcI (va_runSN (As := [.int v1]) (rest := [.int r_1]) ⟨hx, hb, hml, hown, hw⟩ ((ctX7_lesser l G v1 _ hc_4) _) (kSN hw calX7_lesser (nm_7 hK.2) rfl rfl ⟨Nat.le_of_ble_eq_true rfl, Nat.le_of_ble_eq_true rfl⟩) (rpS (hP.sub (ws' := []) [] rfl) hK) rfl rfl hl.1 rfl (lv_room (Nat.le_of_ble_eq_true rfl)) dX1_lengthOf_5 ⟨Nat.zero_le _, Nat.zero_le _⟩) hS hA hP (fun H locs hP hS => ?_)
  refine lv_isub hx hb dX1_lengthOf_8 ?_
  refine lv_topi (fun y_5 ey_5 => ?_)
  have hf := bnd_all hf y_5 ey_5
  refine lv_istore_n (lv' := [(2, .int y_5), (0, .ref t_h), (1, .int v1)]) hx hb dX1_lengthOf_9 rfl hl (by decide) rfl (fun ls hl => ?_)
  refine lv_iload_n hx hb dX1_lengthOf_10 rfl (lv_at hl 0 rfl) ?_
  refine lv_aload_n hx hb dX1_lengthOf_11 rfl (lv_at hl 1 rfl) ?_
  refine va_get (D := G.1) (ci := 1) (v := .int t_windows) (C := RX1) (T := TX1) (N := 12) hx hb hw inW1 hown hK.1 hP 0 rfl rfl 0 (by decide) (hw _ kw_3_17) (fun _ h9 => h9) rfl dX1_lengthOf_12 ?_
  refine lv_iload_n hx hb dX1_lengthOf_15 rfl (lv_at hl 0 rfl) ?_
  refine lv_isub hx hb dX1_lengthOf_16 ?_
  refine lv_imul hx hb dX1_lengthOf_17 ?_
  exact hRet _ _ _ _ _ hf hS dX1_lengthOf_18
theorem calX1_indexOf : CalV yX1_indexOf cX1_indexOf 3 (some .int) 1 := ⟨⟨kw_13_3, kw_1_19, by decide +kernel⟩, kw_13_1, kw_13_2⟩
set_option maxHeartbeats 8000000 in
set_option maxRecDepth 100000 in
theorem ctX1_indexOf (l : Launch) (G : GT) (t_h : Nat) (t_a : Nat → Nat) (t_windows : Int32) (t_washes : Int32) (t_damp : Int32) (t_heard : Int32) (t_lines : Int32) (t_hour : Int32) (t_strings : Int32) (t_pairs : Nat → Int32) (v1 : Int32) (r : Int32) (hf : fX1_indexOf t_strings t_pairs v1 = some r) : RdI l yX1_indexOf (Cond.code yX1_indexOf cX1_indexOf 3 (some .int)) { frames := 0, cells := 0, slots := 0, locals := 0 } G [.ref t_h, .int v1] [oX1 t_h t_a t_windows t_washes t_damp t_heard t_lines t_hour t_strings, arI G (t_a 10) 21 t_pairs] r := by
  intro sz
  refine Met.ofW (cc := cX1_indexOf) (maxL := 3) (ret := (some .int)) (by decide) rfl ?_
  intro p e s m args below meth c s₁ B hml hv
  obtain ⟨hargs, hsz, hP, hK⟩ := hv
  subst hsz
  obtain ⟨hx, hb, hr, hw, hown, hlk⟩ := fwB B
  refine fw_enter hargs (Nat.le_of_ble_eq_true rfl) (fun ls hl => ?_)
  have hl : lv_has ls 3 [(0, .ref t_h), (1, .int v1)] := hl
  refine fw_Q (P := fun Q => ∃ A : Nat → Prop, va_S A s.heap s.heap [] ∧ (∀ q, s.heap.size ≤ q → A q) ∧ ∀ (v : Int32) (H : Heap) (locs : List Loc) (pc : Nat) (ls : Array Slot), some v = some r → va_S A s.heap H locs → decode cX1_indexOf pc = .ok (.ireturn, 1) → W p l e ({ frames := 0, cells := 0, slots := 0, locals := 0 } : Room) s m args below meth c H locs 0 0 Q (F0 m pc ls [.int v])) ⟨fun q => s.heap.size ≤ q, va_S.rf, fun q h => h, fun v H locs pc ls h hS hd => retRI hx hb hr hlk hS h hd⟩ ?_
  rintro Q ⟨A, hS, hA, hRet⟩
  have L2 : ∀ (l1 : Int32) (K : Option Int32) (n : Nat) (l2 : Int32) (H : Heap) (locs : List Loc) (ls : Array Slot), va_P G.1 vwCl [oX1 t_h t_a t_windows t_washes t_damp t_heard t_lines t_hour t_strings, arI G (t_a 10) 21 t_pairs] H → va_S A s.heap H locs → lv_has ls 3 [(0, .ref t_h), (1, .int l1), (2, .int l2)] → fX1_indexOf_2 l1 t_strings t_pairs K n l2 = some r → (∀  (H : Heap) (locs : List Loc) (ls : Array Slot), va_P G.1 vwCl [oX1 t_h t_a t_windows t_washes t_damp t_heard t_lines t_hour t_strings, arI G (t_a 10) 21 t_pairs] H → va_S A s.heap H locs → lv_has ls 3 [] → K = some r → W p l e ({ frames := 0, cells := 0, slots := 0, locals := 0 } : Room) s m args below meth c H locs 0 0 Q (F0 m 28 ls [])) → W p l e ({ frames := 0, cells := 0, slots := 0, locals := 0 } : Room) s m args below meth c H locs 0 0 Q (F0 m 2 ls []) := by
    intro l1 K n
    induction n with
    | zero => intro l2 H locs ls hP hS hl hf; rw [fX1_indexOf_2] at hf; cases hf
    | succ n ih =>
      intro l2 H locs ls hP hS hl hf hX
      rw [fX1_indexOf_2] at hf
      refine lv_iload_n hx hb dX1_indexOf_2 rfl (lv_at hl 2 rfl) ?_
      refine lv_aload_n hx hb dX1_indexOf_3 rfl (lv_at hl 0 rfl) ?_
      refine va_get (D := G.1) (ci := 1) (v := .int t_strings) (C := RX1) (T := TX1) (N := 12) hx hb hw inW1 hown hK.1 hP 0 rfl rfl 6 (by decide) (hw _ kw_3_23) (fun _ h9 => h9) rfl dX1_indexOf_4 ?_
      refine lv_icmp_ge (tgt := 28) hx hb dX1_indexOf_7 (by decide) (fun c_1 => ?_) (fun c_1 => ?_)
      · have hf := ip c_1 hf
        exact hX  _ _ _ hP hS (lv_sub hl [] rfl) hf
      · have hf := iq c_1 hf
        refine lv_aload_n hx hb dX1_indexOf_10 rfl (lv_at hl 0 rfl) ?_
        refine va_get (D := G.1) (ci := 1) (v := .ref (t_a 10)) (C := RX1) (T := TX1) (N := 12) hx hb hw inW1 hown hK.1 hP 0 rfl rfl 10 (by decide) (hw _ kw_3_11) (fun _ h9 => h9) rfl dX1_indexOf_11 ?_
        refine lv_iload_n hx hb dX1_indexOf_14 rfl (lv_at hl 2 rfl) ?_
        obtain ⟨hi_3, hf⟩ := rdI_in hf
        refine va_iald hx hb hK.1 hP 1 0 rfl rfl hi_3 dX1_indexOf_15 ?_
        refine lv_topi (fun x_2 ex_2 => ?_)
        have hf := hf x_2 ex_2
        refine lv_iload_n hx hb dX1_indexOf_16 rfl (lv_at hl 1 rfl) ?_
        refine lv_icmp_ne (tgt := 22) hx hb dX1_indexOf_17 (by decide) (fun c_4 => ?_) (fun c_4 => ?_)
        · have hf := iq c_4 hf
          refine lv_iinc (v := (l2 + 1)) (lv' := [(2, .int (l2 + 1)), (0, .ref t_h), (1, .int l1)]) hx hb dX1_indexOf_22 hl (k := 2) rfl (by rfl) (by decide) rfl (fun ls hl => ?_)
          refine lv_goto (tgt := 2) hx hb dX1_indexOf_25 (by decide) ?_
          exact ih _ _ _ _ hP hS (lv_sub hl [1, 2, 0] rfl) hf hX
        · have hf := ip c_4 hf
          refine lv_iload_n hx hb dX1_indexOf_20 rfl (lv_at hl 2 rfl) ?_
          exact hRet _ _ _ _ _ hf hS dX1_indexOf_21
  unfold fX1_indexOf at hf
  refine lv_iconst (v := 0) hx hb dX1_indexOf_0 (by decide) ?_
  refine lv_istore_n (lv' := [(2, .int 0), (0, .ref t_h), (1, .int v1)]) hx hb dX1_indexOf_1 rfl hl (by decide) rfl (fun ls hl => ?_)
  refine L2 _ _ _ _ _ _ _ hP hS (lv_sub hl [1, 2, 0] rfl) hf (fun  H locs ls hP hS hl hf => ?_)
  refine lv_iconst (v := (-1)) hx hb dX1_indexOf_28 (by decide) ?_
  exact hRet _ _ _ _ _ hf hS dX1_indexOf_29
theorem calX1_stringsAt : CalV yX1_stringsAt cX1_stringsAt 4 (some .int) 1 := ⟨⟨kw_13_7, kw_1_19, by decide +kernel⟩, kw_13_5, kw_13_6⟩
set_option maxHeartbeats 8000000 in
set_option maxRecDepth 100000 in
theorem ctX1_stringsAt (l : Launch) (G : GT) (t_h : Nat) (t_a : Nat → Nat) (t_windows : Int32) (t_washes : Int32) (t_damp : Int32) (t_heard : Int32) (t_lines : Int32) (t_hour : Int32) (t_strings : Int32) (t_pairs : Nat → Int32) (v1 : Int32) (r : Int32) (hf : fX1_stringsAt t_strings t_pairs v1 = some r) : RdI l yX1_stringsAt (Cond.code yX1_stringsAt cX1_stringsAt 4 (some .int)) { frames := 1, cells := 0, slots := 0, locals := 20 } G [.ref t_h, .int v1] [oX1 t_h t_a t_windows t_washes t_damp t_heard t_lines t_hour t_strings, arI G (t_a 10) 21 t_pairs] r := by
  intro sz
  refine Met.ofW (cc := cX1_stringsAt) (maxL := 4) (ret := (some .int)) (by decide) rfl ?_
  intro p e s m args below meth c s₁ B hml hv
  obtain ⟨hargs, hsz, hP, hK⟩ := hv
  subst hsz
  obtain ⟨hx, hb, hr, hw, hown, hlk⟩ := fwB B
  refine fw_enter hargs (Nat.le_of_ble_eq_true rfl) (fun ls hl => ?_)
  have hl : lv_has ls 4 [(0, .ref t_h), (1, .int v1)] := hl
  refine fw_Q (P := fun Q => ∃ A : Nat → Prop, va_S A s.heap s.heap [] ∧ (∀ q, s.heap.size ≤ q → A q) ∧ ∀ (v : Int32) (H : Heap) (locs : List Loc) (pc : Nat) (ls : Array Slot), some v = some r → va_S A s.heap H locs → decode cX1_stringsAt pc = .ok (.ireturn, 1) → W p l e ({ frames := 1, cells := 0, slots := 0, locals := 20 } : Room) s m args below meth c H locs 0 0 Q (F0 m pc ls [.int v])) ⟨fun q => s.heap.size ≤ q, va_S.rf, fun q h => h, fun v H locs pc ls h hS hd => retRI hx hb hr hlk hS h hd⟩ ?_
  rintro Q ⟨A, hS, hA, hRet⟩
  have L4 : ∀ (l1 : Int32) (K : Int32 → Option Int32) (n : Nat) (l2 : Int32) (l3 : Int32) (H : Heap) (locs : List Loc) (ls : Array Slot), va_P G.1 vwCl [oX1 t_h t_a t_windows t_washes t_damp t_heard t_lines t_hour t_strings, arI G (t_a 10) 21 t_pairs] H → va_S A s.heap H locs → lv_has ls 4 [(0, .ref t_h), (1, .int l1), (2, .int l2), (3, .int l3)] → fX1_stringsAt_4 l1 t_strings t_pairs K n l2 l3 = some r → (∀ (k2 : Int32) (H : Heap) (locs : List Loc) (ls : Array Slot), va_P G.1 vwCl [oX1 t_h t_a t_windows t_washes t_damp t_heard t_lines t_hour t_strings, arI G (t_a 10) 21 t_pairs] H → va_S A s.heap H locs → lv_has ls 4 [(2, .int k2)] → K k2 = some r → W p l e ({ frames := 1, cells := 0, slots := 0, locals := 20 } : Room) s m args below meth c H locs 0 0 Q (F0 m 47 ls [])) → W p l e ({ frames := 1, cells := 0, slots := 0, locals := 20 } : Room) s m args below meth c H locs 0 0 Q (F0 m 4 ls []) := by
    intro l1 K n
    induction n with
    | zero => intro l2 l3 H locs ls hP hS hl hf; rw [fX1_stringsAt_4] at hf; cases hf
    | succ n ih =>
      intro l2 l3 H locs ls hP hS hl hf hX
      rw [fX1_stringsAt_4] at hf
      refine lv_iload_n hx hb dX1_stringsAt_4 rfl (lv_at hl 3 rfl) ?_
      refine lv_aload_n hx hb dX1_stringsAt_5 rfl (lv_at hl 0 rfl) ?_
      refine va_get (D := G.1) (ci := 1) (v := .int t_strings) (C := RX1) (T := TX1) (N := 12) hx hb hw inW1 hown hK.1 hP 0 rfl rfl 6 (by decide) (hw _ kw_3_23) (fun _ h9 => h9) rfl dX1_stringsAt_6 ?_
      refine lv_icmp_ge (tgt := 47) hx hb dX1_stringsAt_9 (by decide) (fun c_1 => ?_) (fun c_1 => ?_)
      · have hf := ip c_1 hf
        exact hX _ _ _ _ hP hS (lv_sub hl [2] rfl) hf
      · have hf := iq c_1 hf
        refine lv_aload_n hx hb dX1_stringsAt_12 rfl (lv_at hl 0 rfl) ?_
        refine va_get (D := G.1) (ci := 1) (v := .ref (t_a 10)) (C := RX1) (T := TX1) (N := 12) hx hb hw inW1 hown hK.1 hP 0 rfl rfl 10 (by decide) (hw _ kw_3_11) (fun _ h9 => h9) rfl dX1_stringsAt_13 ?_
        refine lv_iload_n hx hb dX1_stringsAt_16 rfl (lv_at hl 3 rfl) ?_
        obtain ⟨hi_3, hf⟩ := rdI_in hf
        refine va_iald hx hb hK.1 hP 1 0 rfl rfl hi_3 dX1_stringsAt_17 ?_
        refine lv_topi (fun x_2 ex_2 => ?_)
        have hf := hf x_2 ex_2
        obtain ⟨r_4, hc_5, hf⟩ := bd1_in hf
        refine rcI (va_runSN (As := [.int x_2]) (rest := []) ⟨hx, hb, hml, hown, hw⟩ ((ctX7_lesser l G x_2 _ hc_5) _) (kSN hw calX7_lesser (nm_7 hK.2) rfl rfl ⟨Nat.le_of_ble_eq_true rfl, Nat.le_of_ble_eq_true rfl⟩) (rpS (hP.sub (ws' := []) [] rfl) hK) rfl rfl hl.1 rfl (lv_room (Nat.le_of_ble_eq_true rfl)) dX1_stringsAt_18 ⟨Nat.zero_le _, Nat.zero_le _⟩) hS hA hP (fun H locs hP hS => ?_)
        refine lv_iload_n hx hb dX1_stringsAt_21 rfl (lv_at hl 1 rfl) ?_
        refine lv_icmp_eq (tgt := 38) hx hb dX1_stringsAt_22 (by decide) (fun c_6 => ?_) (fun c_6 => ?_)
        · have hf := ip c_6 hf
          refine lv_iinc (v := (l2 + 1)) (lv' := [(2, .int (l2 + 1)), (0, .ref t_h), (1, .int l1), (3, .int l3)]) hx hb dX1_stringsAt_38 hl (k := 2) rfl (by rfl) (by decide) rfl (fun ls hl => ?_)
          refine lv_iinc (v := (l3 + 1)) (lv' := [(3, .int (l3 + 1)), (2, .int (l2 + 1)), (0, .ref t_h), (1, .int l1)]) hx hb dX1_stringsAt_41 hl (k := 3) rfl (by rfl) (by decide) rfl (fun ls hl => ?_)
          refine lv_goto (tgt := 4) hx hb dX1_stringsAt_44 (by decide) ?_
          exact ih _ _ _ _ _ hP hS (lv_sub hl [2, 3, 1, 0] rfl) hf hX
        · have hf := iq c_6 hf
          refine lv_aload_n hx hb dX1_stringsAt_25 rfl (lv_at hl 0 rfl) ?_
          refine va_get (D := G.1) (ci := 1) (v := .ref (t_a 10)) (C := RX1) (T := TX1) (N := 12) hx hb hw inW1 hown hK.1 hP 0 rfl rfl 10 (by decide) (hw _ kw_3_11) (fun _ h9 => h9) rfl dX1_stringsAt_26 ?_
          refine lv_iload_n hx hb dX1_stringsAt_29 rfl (lv_at hl 3 rfl) ?_
          obtain ⟨hi_8, hf⟩ := rdI_in hf
          refine va_iald hx hb hK.1 hP 1 0 rfl rfl hi_8 dX1_stringsAt_30 ?_
          refine lv_topi (fun x_7 ex_7 => ?_)
          have hf := hf x_7 ex_7
          obtain ⟨r_9, hc_10, hf⟩ := bd1_in hf
          refine rcI (va_runSN (As := [.int x_7]) (rest := []) ⟨hx, hb, hml, hown, hw⟩ ((ctX7_greater l G x_7 _ hc_10) _) (kSN hw calX7_greater (nm_8 hK.2) rfl rfl ⟨Nat.le_of_ble_eq_true rfl, Nat.le_of_ble_eq_true rfl⟩) (rpS (hP.sub (ws' := []) [] rfl) hK) rfl rfl hl.1 rfl (lv_room (Nat.le_of_ble_eq_true rfl)) dX1_stringsAt_31 ⟨Nat.zero_le _, Nat.zero_le _⟩) hS hA hP (fun H locs hP hS => ?_)
          refine lv_iload_n hx hb dX1_stringsAt_34 rfl (lv_at hl 1 rfl) ?_
          refine lv_icmp_ne (tgt := 41) hx hb dX1_stringsAt_35 (by decide) (fun c_11 => ?_) (fun c_11 => ?_)
          · have hf := iq c_11 hf
            refine lv_iinc (v := (l3 + 1)) (lv' := [(3, .int (l3 + 1)), (0, .ref t_h), (1, .int l1), (2, .int l2)]) hx hb dX1_stringsAt_41 hl (k := 3) rfl (by rfl) (by decide) rfl (fun ls hl => ?_)
            refine lv_goto (tgt := 4) hx hb dX1_stringsAt_44 (by decide) ?_
            exact ih _ _ _ _ _ hP hS (lv_sub hl [1, 2, 3, 0] rfl) hf hX
          · have hf := ip c_11 hf
            refine lv_iinc (v := (l2 + 1)) (lv' := [(2, .int (l2 + 1)), (0, .ref t_h), (1, .int l1), (3, .int l3)]) hx hb dX1_stringsAt_38 hl (k := 2) rfl (by rfl) (by decide) rfl (fun ls hl => ?_)
            refine lv_iinc (v := (l3 + 1)) (lv' := [(3, .int (l3 + 1)), (2, .int (l2 + 1)), (0, .ref t_h), (1, .int l1)]) hx hb dX1_stringsAt_41 hl (k := 3) rfl (by rfl) (by decide) rfl (fun ls hl => ?_)
            refine lv_goto (tgt := 4) hx hb dX1_stringsAt_44 (by decide) ?_
            exact ih _ _ _ _ _ hP hS (lv_sub hl [2, 3, 1, 0] rfl) hf hX
  unfold fX1_stringsAt at hf
  refine lv_iconst (v := 0) hx hb dX1_stringsAt_0 (by decide) ?_
  refine lv_istore_n (lv' := [(2, .int 0), (0, .ref t_h), (1, .int v1)]) hx hb dX1_stringsAt_1 rfl hl (by decide) rfl (fun ls hl => ?_)
  refine lv_iconst (v := 0) hx hb dX1_stringsAt_2 (by decide) ?_
  refine lv_istore_n (lv' := [(3, .int 0), (2, .int 0), (0, .ref t_h), (1, .int v1)]) hx hb dX1_stringsAt_3 rfl hl (by decide) rfl (fun ls hl => ?_)
  refine L4 _ _ _ _ _ _ _ _ hP hS (lv_sub hl [2, 3, 1, 0] rfl) hf (fun w_12 H locs ls hP hS hl hf => ?_)
  refine lv_iload_n hx hb dX1_stringsAt_47 rfl (lv_at hl 0 rfl) ?_
  exact hRet _ _ _ _ _ hf hS dX1_stringsAt_48
theorem calX1_whyNot : CalV yX1_whyNot cX1_whyNot 5 (some .int) 1 := ⟨⟨kw_12_14, kw_1_19, by decide +kernel⟩, kw_12_12, kw_12_13⟩
set_option maxHeartbeats 8000000 in
set_option maxRecDepth 100000 in
theorem ctX1_whyNot (l : Launch) (G : GT) (t_h : Nat) (t_a : Nat → Nat) (t_windows : Int32) (t_washes : Int32) (t_damp : Int32) (t_heard : Int32) (t_lines : Int32) (t_hour : Int32) (t_strings : Int32) (t_cans : Nat → Int32) (t_pairs : Nat → Int32) (v1 : Int32) (r : Int32) (hf : fX1_whyNot t_windows t_strings t_cans t_pairs v1 = some r) : RdI l yX1_whyNot (Cond.code yX1_whyNot cX1_whyNot 5 (some .int)) { frames := 2, cells := 0, slots := 0, locals := 46 } G [.ref t_h, .int v1] [oX1 t_h t_a t_windows t_washes t_damp t_heard t_lines t_hour t_strings, arI G (t_a 7) 12 t_cans, arI G (t_a 10) 21 t_pairs] r := by
  intro sz
  refine Met.ofW (cc := cX1_whyNot) (maxL := 5) (ret := (some .int)) (by decide) rfl ?_
  intro p e s m args below meth c s₁ B hml hv
  obtain ⟨hargs, hsz, hP, hK⟩ := hv
  subst hsz
  obtain ⟨hx, hb, hr, hw, hown, hlk⟩ := fwB B
  refine fw_enter hargs (Nat.le_of_ble_eq_true rfl) (fun ls hl => ?_)
  have hl : lv_has ls 5 [(0, .ref t_h), (1, .int v1)] := hl
  refine fw_Q (P := fun Q => ∃ A : Nat → Prop, va_S A s.heap s.heap [] ∧ (∀ q, s.heap.size ≤ q → A q) ∧ ∀ (v : Int32) (H : Heap) (locs : List Loc) (pc : Nat) (ls : Array Slot), some v = some r → va_S A s.heap H locs → decode cX1_whyNot pc = .ok (.ireturn, 1) → W p l e ({ frames := 2, cells := 0, slots := 0, locals := 46 } : Room) s m args below meth c H locs 0 0 Q (F0 m pc ls [.int v])) ⟨fun q => s.heap.size ≤ q, va_S.rf, fun q h => h, fun v H locs pc ls h hS hd => retRI hx hb hr hlk hS h hd⟩ ?_
  rintro Q ⟨A, hS, hA, hRet⟩
  have L65 : ∀ (l1 : Int32) (K : Option Int32) (n : Nat) (l4 : Int32) (H : Heap) (locs : List Loc) (ls : Array Slot), va_P G.1 vwCl [oX1 t_h t_a t_windows t_washes t_damp t_heard t_lines t_hour t_strings, arI G (t_a 7) 12 t_cans, arI G (t_a 10) 21 t_pairs] H → va_S A s.heap H locs → lv_has ls 5 [(0, .ref t_h), (1, .int l1), (4, .int l4)] → fX1_whyNot_65 l1 t_strings t_pairs K n l4 = some r → (∀  (H : Heap) (locs : List Loc) (ls : Array Slot), va_P G.1 vwCl [oX1 t_h t_a t_windows t_washes t_damp t_heard t_lines t_hour t_strings, arI G (t_a 7) 12 t_cans, arI G (t_a 10) 21 t_pairs] H → va_S A s.heap H locs → lv_has ls 5 [] → K = some r → W p l e ({ frames := 2, cells := 0, slots := 0, locals := 46 } : Room) s m args below meth c H locs 0 0 Q (F0 m 96 ls [])) → W p l e ({ frames := 2, cells := 0, slots := 0, locals := 46 } : Room) s m args below meth c H locs 0 0 Q (F0 m 65 ls []) := by
    intro l1 K n
    induction n with
    | zero => intro l4 H locs ls hP hS hl hf; rw [fX1_whyNot_65] at hf; cases hf
    | succ n ih =>
      intro l4 H locs ls hP hS hl hf hX
      rw [fX1_whyNot_65] at hf
      refine lv_iload hx hb dX1_whyNot_65 (lv_at hl 2 rfl) ?_
      refine lv_aload_n hx hb dX1_whyNot_67 rfl (lv_at hl 0 rfl) ?_
      refine va_get (D := G.1) (ci := 1) (v := .int t_strings) (C := RX1) (T := TX1) (N := 12) hx hb hw inW1 hown hK.1 hP 0 rfl rfl 6 (by decide) (hw _ kw_3_23) (fun _ h9 => h9) rfl dX1_whyNot_68 ?_
      refine lv_icmp_ge (tgt := 96) hx hb dX1_whyNot_71 (by decide) (fun c_21 => ?_) (fun c_21 => ?_)
      · have hf := ip c_21 hf
        exact hX  _ _ _ hP hS (lv_sub hl [] rfl) hf
      · have hf := iq c_21 hf
        refine lv_iload_n hx hb dX1_whyNot_74 rfl (lv_at hl 1 rfl) ?_
        refine lv_aload_n hx hb dX1_whyNot_75 rfl (lv_at hl 0 rfl) ?_
        refine va_get (D := G.1) (ci := 1) (v := .ref (t_a 10)) (C := RX1) (T := TX1) (N := 12) hx hb hw inW1 hown hK.1 hP 0 rfl rfl 10 (by decide) (hw _ kw_3_11) (fun _ h9 => h9) rfl dX1_whyNot_76 ?_
        refine lv_iload hx hb dX1_whyNot_79 (lv_at hl 2 rfl) ?_
        obtain ⟨hi_23, hf⟩ := rdI_in hf
        refine va_iald hx hb hK.1 hP 2 0 rfl rfl hi_23 dX1_whyNot_81 ?_
        refine lv_topi (fun x_22 ex_22 => ?_)
        have hf := hf x_22 ex_22
        obtain ⟨r_24, hc_25, hf⟩ := bd1_in hf
        refine rcI (va_runSN (As := [.int l1, .int x_22]) (rest := []) ⟨hx, hb, hml, hown, hw⟩ ((ctX7_crossing l G l1 x_22 _ hc_25) _) (kSN hw calX7_crossing (nm_9 hK.2) rfl rfl ⟨Nat.le_of_ble_eq_true rfl, Nat.le_of_ble_eq_true rfl⟩) (rpS (hP.sub (ws' := []) [] rfl) hK) rfl rfl hl.1 rfl (lv_room (Nat.le_of_ble_eq_true rfl)) dX1_whyNot_82 ⟨Nat.zero_le _, Nat.zero_le _⟩) hS hA hP (fun H locs hP hS => ?_)
        refine lv_if_eq (tgt := 90) hx hb dX1_whyNot_85 (by decide) (fun c_26 => ?_) (fun c_26 => ?_)
        · have hf := ip c_26 hf
          refine lv_iinc (v := (l4 + 1)) (lv' := [(4, .int (l4 + 1)), (0, .ref t_h), (1, .int l1)]) hx hb dX1_whyNot_90 hl (k := 2) rfl (by rfl) (by decide) rfl (fun ls hl => ?_)
          refine lv_goto (tgt := 65) hx hb dX1_whyNot_93 (by decide) ?_
          exact ih _ _ _ _ hP hS (lv_sub hl [1, 2, 0] rfl) hf hX
        · have hf := iq c_26 hf
          refine lv_iconst (v := 4) hx hb dX1_whyNot_88 (by decide) ?_
          exact hRet _ _ _ _ _ hf hS dX1_whyNot_89
  unfold fX1_whyNot at hf
  refine lv_aload_n hx hb dX1_whyNot_0 rfl (lv_at hl 0 rfl) ?_
  refine lv_iload_n hx hb dX1_whyNot_1 rfl (lv_at hl 1 rfl) ?_
  refine lv_i2l hx hb dX1_whyNot_2 rfl ?_
  obtain ⟨r_1, hc_2, hf⟩ := bd1_in hf
  refine rcI (va_runV (As := [.long (Int32.toInt64 v1)]) (rest := []) ⟨hx, hb, hml, hown, hw⟩ ((ctX1_hasPair l G t_h t_a t_windows t_washes t_damp t_heard t_lines t_hour t_strings (Int32.toInt64 v1) _ hc_2) _) (kV hw calX1_hasPair kw_12_15 rfl rfl ⟨Nat.le_of_ble_eq_true rfl, Nat.le_of_ble_eq_true rfl⟩) (rpV (hP.sub (ws' := [oX1 t_h t_a t_windows t_washes t_damp t_heard t_lines t_hour t_strings]) [0] rfl) hK (ci := 1) (q0 := 0) rfl rfl) rfl rfl hl.1 rfl (lv_room (Nat.le_of_ble_eq_true rfl)) dX1_whyNot_3 ⟨Nat.zero_le _, Nat.zero_le _⟩) hS hA hP (fun H locs hP hS => ?_)
  refine lv_if_ne (tgt := 11) hx hb dX1_whyNot_6 (by decide) (fun c_3 => ?_) (fun c_3 => ?_)
  · have hf := iq c_3 hf
    refine lv_aload_n hx hb dX1_whyNot_11 rfl (lv_at hl 0 rfl) ?_
    refine lv_iload_n hx hb dX1_whyNot_12 rfl (lv_at hl 1 rfl) ?_
    obtain ⟨r_4, hc_5, hf⟩ := bd1_in hf
    refine rcI (va_runV (As := [.int v1]) (rest := []) ⟨hx, hb, hml, hown, hw⟩ ((ctX1_indexOf l G t_h t_a t_windows t_washes t_damp t_heard t_lines t_hour t_strings t_pairs v1 _ hc_5) _) (kV hw calX1_indexOf kw_13_0 rfl rfl ⟨Nat.le_of_ble_eq_true rfl, Nat.le_of_ble_eq_true rfl⟩) (rpV (hP.sub (ws' := [oX1 t_h t_a t_windows t_washes t_damp t_heard t_lines t_hour t_strings, arI G (t_a 10) 21 t_pairs]) [0, 2] rfl) hK (ci := 1) (q0 := 0) rfl rfl) rfl rfl hl.1 rfl (lv_room (Nat.le_of_ble_eq_true rfl)) dX1_whyNot_13 ⟨Nat.zero_le _, Nat.zero_le _⟩) hS hA hP (fun H locs hP hS => ?_)
    refine lv_iconst (v := (-1)) hx hb dX1_whyNot_16 (by decide) ?_
    refine lv_icmp_eq (tgt := 22) hx hb dX1_whyNot_17 (by decide) (fun c_6 => ?_) (fun c_6 => ?_)
    · have hf := ip c_6 hf
      refine lv_iload_n hx hb dX1_whyNot_22 rfl (lv_at hl 1 rfl) ?_
      obtain ⟨r_7, hc_8, hf⟩ := bd1_in hf
      refine rcI (va_runSN (As := [.int v1]) (rest := []) ⟨hx, hb, hml, hown, hw⟩ ((ctX7_lesser l G v1 _ hc_8) _) (kSN hw calX7_lesser (nm_7 hK.2) rfl rfl ⟨Nat.le_of_ble_eq_true rfl, Nat.le_of_ble_eq_true rfl⟩) (rpS (hP.sub (ws' := []) [] rfl) hK) rfl rfl hl.1 rfl (lv_room (Nat.le_of_ble_eq_true rfl)) dX1_whyNot_23 ⟨Nat.zero_le _, Nat.zero_le _⟩) hS hA hP (fun H locs hP hS => ?_)
      refine lv_istore_n (lv' := [(2, .int r_7), (0, .ref t_h), (1, .int v1)]) hx hb dX1_whyNot_26 rfl hl (by decide) rfl (fun ls hl => ?_)
      refine lv_iload_n hx hb dX1_whyNot_27 rfl (lv_at hl 2 rfl) ?_
      obtain ⟨r_9, hc_10, hf⟩ := bd1_in hf
      refine rcI (va_runSN (As := [.int v1]) (rest := []) ⟨hx, hb, hml, hown, hw⟩ ((ctX7_greater l G v1 _ hc_10) _) (kSN hw calX7_greater (nm_8 hK.2) rfl rfl ⟨Nat.le_of_ble_eq_true rfl, Nat.le_of_ble_eq_true rfl⟩) (rpS (hP.sub (ws' := []) [] rfl) hK) rfl rfl hl.1 rfl (lv_room (Nat.le_of_ble_eq_true rfl)) dX1_whyNot_28 ⟨Nat.zero_le _, Nat.zero_le _⟩) hS hA hP (fun H locs hP hS => ?_)
      refine lv_istore_n (lv' := [(3, .int r_9), (2, .int r_7), (0, .ref t_h), (1, .int v1)]) hx hb dX1_whyNot_31 rfl hl (by decide) rfl (fun ls hl => ?_)
      refine lv_aload_n hx hb dX1_whyNot_32 rfl (lv_at hl 2 rfl) ?_
      refine lv_iload_n hx hb dX1_whyNot_33 rfl (lv_at hl 1 rfl) ?_
      obtain ⟨r_11, hc_12, hf⟩ := bd1_in hf
      refine rcI (va_runV (As := [.int r_7]) (rest := []) ⟨hx, hb, hml, hown, hw⟩ ((ctX1_stringsAt l G t_h t_a t_windows t_washes t_damp t_heard t_lines t_hour t_strings t_pairs r_7 _ hc_12) _) (kV hw calX1_stringsAt kw_13_4 rfl rfl ⟨Nat.le_of_ble_eq_true rfl, Nat.le_of_ble_eq_true rfl⟩) (rpV (hP.sub (ws' := [oX1 t_h t_a t_windows t_washes t_damp t_heard t_lines t_hour t_strings, arI G (t_a 10) 21 t_pairs]) [0, 2] rfl) hK (ci := 1) (q0 := 0) rfl rfl) rfl rfl hl.1 rfl (lv_room (Nat.le_of_ble_eq_true rfl)) dX1_whyNot_34 ⟨Nat.zero_le _, Nat.zero_le _⟩) hS hA hP (fun H locs hP hS => ?_)
      refine lv_aload_n hx hb dX1_whyNot_37 rfl (lv_at hl 2 rfl) ?_
      refine va_get (D := G.1) (ci := 1) (v := .ref (t_a 7)) (C := RX1) (T := TX1) (N := 12) hx hb hw inW1 hown hK.1 hP 0 rfl rfl 7 (by decide) (hw _ kw_3_8) (fun _ h9 => h9) rfl dX1_whyNot_38 ?_
      refine lv_iload_n hx hb dX1_whyNot_41 rfl (lv_at hl 1 rfl) ?_
      obtain ⟨hi_14, hf⟩ := rdI_in hf
      refine va_iald hx hb hK.1 hP 1 0 rfl rfl hi_14 dX1_whyNot_42 ?_
      refine lv_topi (fun x_13 ex_13 => ?_)
      have hf := hf x_13 ex_13
      refine lv_icmp_ge (tgt := 60) hx hb dX1_whyNot_43 (by decide) (fun c_15 => ?_) (fun c_15 => ?_)
      · have hf := ip c_15 hf
        refine lv_iconst (v := 3) hx hb dX1_whyNot_60 (by decide) ?_
        exact hRet _ _ _ _ _ hf hS dX1_whyNot_61
      · have hf := iq c_15 hf
        refine lv_aload_n hx hb dX1_whyNot_46 rfl (lv_at hl 2 rfl) ?_
        refine lv_iload_n hx hb dX1_whyNot_47 rfl (lv_at hl 0 rfl) ?_
        obtain ⟨r_16, hc_17, hf⟩ := bd1_in hf
        refine rcI (va_runV (As := [.int r_9]) (rest := []) ⟨hx, hb, hml, hown, hw⟩ ((ctX1_stringsAt l G t_h t_a t_windows t_washes t_damp t_heard t_lines t_hour t_strings t_pairs r_9 _ hc_17) _) (kV hw calX1_stringsAt kw_13_4 rfl rfl ⟨Nat.le_of_ble_eq_true rfl, Nat.le_of_ble_eq_true rfl⟩) (rpV (hP.sub (ws' := [oX1 t_h t_a t_windows t_washes t_damp t_heard t_lines t_hour t_strings, arI G (t_a 10) 21 t_pairs]) [0, 2] rfl) hK (ci := 1) (q0 := 0) rfl rfl) rfl rfl hl.1 rfl (lv_room (Nat.le_of_ble_eq_true rfl)) dX1_whyNot_48 ⟨Nat.zero_le _, Nat.zero_le _⟩) hS hA hP (fun H locs hP hS => ?_)
        refine lv_aload_n hx hb dX1_whyNot_51 rfl (lv_at hl 2 rfl) ?_
        refine va_get (D := G.1) (ci := 1) (v := .ref (t_a 7)) (C := RX1) (T := TX1) (N := 12) hx hb hw inW1 hown hK.1 hP 0 rfl rfl 7 (by decide) (hw _ kw_3_8) (fun _ h9 => h9) rfl dX1_whyNot_52 ?_
        refine lv_iload_n hx hb dX1_whyNot_55 rfl (lv_at hl 0 rfl) ?_
        obtain ⟨hi_19, hf⟩ := rdI_in hf
        refine va_iald hx hb hK.1 hP 1 0 rfl rfl hi_19 dX1_whyNot_56 ?_
        refine lv_topi (fun x_18 ex_18 => ?_)
        have hf := hf x_18 ex_18
        refine lv_icmp_lt (tgt := 62) hx hb dX1_whyNot_57 (by decide) (fun c_20 => ?_) (fun c_20 => ?_)
        · have hf := ip c_20 hf
          refine lv_iconst (v := 0) hx hb dX1_whyNot_62 (by decide) ?_
          refine lv_istore (lv' := [(4, .int 0), (3, .int r_9), (2, .int r_7), (0, .ref t_h), (1, .int v1)]) hx hb dX1_whyNot_63 hl (by decide) rfl (fun ls hl => ?_)
          refine L65 _ _ _ _ _ _ _ hP hS (lv_sub hl [3, 4, 0] rfl) hf (fun  H locs ls hP hS hl hf => ?_)
          refine lv_iconst (v := 0) hx hb dX1_whyNot_96 (by decide) ?_
          exact hRet _ _ _ _ _ hf hS dX1_whyNot_97
        · have hf := iq c_20 hf
          refine lv_iconst (v := 3) hx hb dX1_whyNot_60 (by decide) ?_
          exact hRet _ _ _ _ _ hf hS dX1_whyNot_61
    · have hf := iq c_6 hf
      refine lv_iconst (v := 2) hx hb dX1_whyNot_20 (by decide) ?_
      exact hRet _ _ _ _ _ hf hS dX1_whyNot_21
  · have hf := ip c_3 hf
    refine lv_iconst (v := 1) hx hb dX1_whyNot_9 (by decide) ?_
    exact hRet _ _ _ _ _ hf hS dX1_whyNot_10
theorem calX1_slackAt : CalV yX1_slackAt cX1_slackAt 5 (some .boolean) 2 := ⟨⟨kw_18_19, kw_1_19, by decide +kernel⟩, kw_18_17, kw_18_18⟩
set_option maxHeartbeats 8000000 in
set_option maxRecDepth 100000 in
theorem ctX1_slackAt (l : Launch) (G : GT) (t_h : Nat) (t_a : Nat → Nat) (t_windows : Int32) (t_washes : Int32) (t_damp : Int32) (t_heard : Int32) (t_lines : Int32) (t_hour : Int32) (t_strings : Int32) (t_washPairs : Nat → Int32) (t_washHours : Nat → Int32) (v1 : Int32) (v2 : Int32) (r : Int32) (hf : fX1_slackAt t_washes t_washPairs t_washHours v1 v2 = some r) : RdI l yX1_slackAt (Cond.code yX1_slackAt cX1_slackAt 5 (some .boolean)) { frames := 2, cells := 0, slots := 0, locals := 46 } G [.ref t_h, .int v1, .int v2] [oX1 t_h t_a t_windows t_washes t_damp t_heard t_lines t_hour t_strings, arI G (t_a 8) 8 t_washPairs, arI G (t_a 9) 8 t_washHours] r := by
  intro sz
  refine Met.ofW (cc := cX1_slackAt) (maxL := 5) (ret := (some .boolean)) (by decide) rfl ?_
  intro p e s m args below meth c s₁ B hml hv
  obtain ⟨hargs, hsz, hP, hK⟩ := hv
  subst hsz
  obtain ⟨hx, hb, hr, hw, hown, hlk⟩ := fwB B
  refine fw_enter hargs (Nat.le_of_ble_eq_true rfl) (fun ls hl => ?_)
  have hl : lv_has ls 5 [(0, .ref t_h), (1, .int v1), (2, .int v2)] := hl
  refine fw_Q (P := fun Q => ∃ A : Nat → Prop, va_S A s.heap s.heap [] ∧ (∀ q, s.heap.size ≤ q → A q) ∧ ∀ (v : Int32) (H : Heap) (locs : List Loc) (pc : Nat) (ls : Array Slot), some v = some r → va_S A s.heap H locs → narrow .boolean (.int v) = .int v → decode cX1_slackAt pc = .ok (.ireturn, 1) → W p l e ({ frames := 2, cells := 0, slots := 0, locals := 46 } : Room) s m args below meth c H locs 0 0 Q (F0 m pc ls [.int v])) ⟨fun q => s.heap.size ≤ q, va_S.rf, fun q h => h, fun v H locs pc ls h hS hn hd => retRZ hx hb hr hlk hS hn h hd⟩ ?_
  rintro Q ⟨A, hS, hA, hRet⟩
  have L2 : ∀ (l1 : Int32) (l2 : Int32) (K : Option Int32) (n : Nat) (l3 : Int32) (H : Heap) (locs : List Loc) (ls : Array Slot), va_P G.1 vwCl [oX1 t_h t_a t_windows t_washes t_damp t_heard t_lines t_hour t_strings, arI G (t_a 8) 8 t_washPairs, arI G (t_a 9) 8 t_washHours] H → va_S A s.heap H locs → lv_has ls 5 [(0, .ref t_h), (1, .int l1), (2, .int l2), (3, .int l3)] → fX1_slackAt_2 l1 l2 t_washes t_washPairs t_washHours K n l3 = some r → (∀  (H : Heap) (locs : List Loc) (ls : Array Slot), va_P G.1 vwCl [oX1 t_h t_a t_windows t_washes t_damp t_heard t_lines t_hour t_strings, arI G (t_a 8) 8 t_washPairs, arI G (t_a 9) 8 t_washHours] H → va_S A s.heap H locs → lv_has ls 5 [] → K = some r → W p l e ({ frames := 2, cells := 0, slots := 0, locals := 46 } : Room) s m args below meth c H locs 0 0 Q (F0 m 59 ls [])) → W p l e ({ frames := 2, cells := 0, slots := 0, locals := 46 } : Room) s m args below meth c H locs 0 0 Q (F0 m 2 ls []) := by
    intro l1 l2 K n
    induction n with
    | zero => intro l3 H locs ls hP hS hl hf; rw [fX1_slackAt_2] at hf; cases hf
    | succ n ih =>
      intro l3 H locs ls hP hS hl hf hX
      rw [fX1_slackAt_2] at hf
      refine lv_iload_n hx hb dX1_slackAt_2 rfl (lv_at hl 3 rfl) ?_
      refine lv_aload_n hx hb dX1_slackAt_3 rfl (lv_at hl 0 rfl) ?_
      refine va_get (D := G.1) (ci := 1) (v := .int t_washes) (C := RX1) (T := TX1) (N := 12) hx hb hw inW1 hown hK.1 hP 0 rfl rfl 1 (by decide) (hw _ kw_3_18) (fun _ h9 => h9) rfl dX1_slackAt_4 ?_
      refine lv_icmp_ge (tgt := 59) hx hb dX1_slackAt_7 (by decide) (fun c_1 => ?_) (fun c_1 => ?_)
      · have hf := ip c_1 hf
        exact hX  _ _ _ hP hS (lv_sub hl [] rfl) hf
      · have hf := iq c_1 hf
        refine lv_aload_n hx hb dX1_slackAt_10 rfl (lv_at hl 0 rfl) ?_
        refine va_get (D := G.1) (ci := 1) (v := .ref (t_a 9)) (C := RX1) (T := TX1) (N := 12) hx hb hw inW1 hown hK.1 hP 0 rfl rfl 9 (by decide) (hw _ kw_3_10) (fun _ h9 => h9) rfl dX1_slackAt_11 ?_
        refine lv_iload_n hx hb dX1_slackAt_14 rfl (lv_at hl 3 rfl) ?_
        obtain ⟨hi_3, hf⟩ := rdI_in hf
        refine va_iald hx hb hK.1 hP 2 0 rfl rfl hi_3 dX1_slackAt_15 ?_
        refine lv_topi (fun x_2 ex_2 => ?_)
        have hf := hf x_2 ex_2
        refine lv_iload_n hx hb dX1_slackAt_16 rfl (lv_at hl 2 rfl) ?_
        refine lv_bipush (v := 12) hx hb dX1_slackAt_17 (by decide) ?_
        refine lv_irem hx hb dX1_slackAt_19 (by decide) ?_
        refine lv_ishr hx hb dX1_slackAt_20 ?_
        refine lv_iconst (v := 1) hx hb dX1_slackAt_21 (by decide) ?_
        refine lv_iand hx hb dX1_slackAt_22 ?_
        refine jn_el hf (fun k_5 ek_5 hf => ?_)
        have J31 : ∀ (z_4 : Int32) (H : Heap) (locs : List Loc) (ls : Array Slot), va_P G.1 vwCl [oX1 t_h t_a t_windows t_washes t_damp t_heard t_lines t_hour t_strings, arI G (t_a 8) 8 t_washPairs, arI G (t_a 9) 8 t_washHours] H → va_S A s.heap H locs → lv_has ls 5 [(0, .ref t_h), (1, .int l1), (2, .int l2), (3, .int l3)] → k_5 z_4 = some r → W p l e ({ frames := 2, cells := 0, slots := 0, locals := 46 } : Room) s m args below meth c H locs 0 0 Q (F0 m 31 ls [.int z_4]) := by
          intro z_4 H locs ls hP hS hl hf
          rw [ek_5] at hf
          refine lv_istore (lv' := [(4, .int z_4), (0, .ref t_h), (1, .int l1), (2, .int l2), (3, .int l3)]) hx hb dX1_slackAt_31 hl (by decide) rfl (fun ls hl => ?_)
          refine lv_iload hx hb dX1_slackAt_33 (lv_at hl 0 rfl) ?_
          refine lv_if_eq (tgt := 53) hx hb dX1_slackAt_35 (by decide) (fun c_6 => ?_) (fun c_6 => ?_)
          · have hf := ip c_6 hf
            refine lv_iinc (v := (l3 + 1)) (lv' := [(3, .int (l3 + 1)), (4, .int z_4), (0, .ref t_h), (1, .int l1), (2, .int l2)]) hx hb dX1_slackAt_53 hl (k := 4) rfl (by rfl) (by decide) rfl (fun ls hl => ?_)
            refine lv_goto (tgt := 2) hx hb dX1_slackAt_56 (by decide) ?_
            exact ih _ _ _ _ hP hS (lv_sub hl [2, 3, 4, 0] rfl) hf hX
          · have hf := iq c_6 hf
            refine lv_iload_n hx hb dX1_slackAt_38 rfl (lv_at hl 2 rfl) ?_
            refine lv_aload_n hx hb dX1_slackAt_39 rfl (lv_at hl 1 rfl) ?_
            refine va_get (D := G.1) (ci := 1) (v := .ref (t_a 8)) (C := RX1) (T := TX1) (N := 12) hx hb hw inW1 hown hK.1 hP 0 rfl rfl 8 (by decide) (hw _ kw_3_9) (fun _ h9 => h9) rfl dX1_slackAt_40 ?_
            refine lv_iload_n hx hb dX1_slackAt_43 rfl (lv_at hl 4 rfl) ?_
            obtain ⟨hi_8, hf⟩ := rdI_in hf
            refine va_iald hx hb hK.1 hP 1 0 rfl rfl hi_8 dX1_slackAt_44 ?_
            refine lv_topi (fun x_7 ex_7 => ?_)
            have hf := hf x_7 ex_7
            obtain ⟨r_9, hc_10, hf⟩ := bd1_in hf
            refine rcI (va_runSN (As := [.int l1, .int x_7]) (rest := []) ⟨hx, hb, hml, hown, hw⟩ ((ctX7_crossing l G l1 x_7 _ hc_10) _) (kSN hw calX7_crossing (nm_9 hK.2) rfl rfl ⟨Nat.le_of_ble_eq_true rfl, Nat.le_of_ble_eq_true rfl⟩) (rpS (hP.sub (ws' := []) [] rfl) hK) rfl rfl hl.1 rfl (lv_room (Nat.le_of_ble_eq_true rfl)) dX1_slackAt_45 ⟨Nat.zero_le _, Nat.zero_le _⟩) hS hA hP (fun H locs hP hS => ?_)
            refine lv_if_eq (tgt := 53) hx hb dX1_slackAt_48 (by decide) (fun c_11 => ?_) (fun c_11 => ?_)
            · have hf := ip c_11 hf
              refine lv_iinc (v := (l3 + 1)) (lv' := [(3, .int (l3 + 1)), (4, .int z_4), (0, .ref t_h), (1, .int l1), (2, .int l2)]) hx hb dX1_slackAt_53 hl (k := 4) rfl (by rfl) (by decide) rfl (fun ls hl => ?_)
              refine lv_goto (tgt := 2) hx hb dX1_slackAt_56 (by decide) ?_
              exact ih _ _ _ _ hP hS (lv_sub hl [2, 3, 4, 0] rfl) hf hX
            · have hf := iq c_11 hf
              refine lv_iconst (v := 1) hx hb dX1_slackAt_51 (by decide) ?_
              exact hRet _ _ _ _ _ hf hS (by decide +kernel) dX1_slackAt_52
        refine lv_if_eq (tgt := 30) hx hb dX1_slackAt_23 (by decide) (fun c_12 => ?_) (fun c_12 => ?_)
        · have hf := ip c_12 hf
          refine lv_iconst (v := 0) hx hb dX1_slackAt_30 (by decide) ?_
          exact J31 _ _ _ _ hP hS (lv_sub hl [0, 1, 2, 3] rfl) hf
        · have hf := iq c_12 hf
          refine lv_iconst (v := 1) hx hb dX1_slackAt_26 (by decide) ?_
          refine lv_goto (tgt := 31) hx hb dX1_slackAt_27 (by decide) ?_
          exact J31 _ _ _ _ hP hS (lv_sub hl [0, 1, 2, 3] rfl) hf
  unfold fX1_slackAt at hf
  refine lv_iconst (v := 0) hx hb dX1_slackAt_0 (by decide) ?_
  refine lv_istore_n (lv' := [(3, .int 0), (0, .ref t_h), (1, .int v1), (2, .int v2)]) hx hb dX1_slackAt_1 rfl hl (by decide) rfl (fun ls hl => ?_)
  refine L2 _ _ _ _ _ _ _ _ hP hS (lv_sub hl [1, 2, 3, 0] rfl) hf (fun  H locs ls hP hS hl hf => ?_)
  refine lv_iconst (v := 0) hx hb dX1_slackAt_59 (by decide) ?_
  exact hRet _ _ _ _ _ hf hS (by decide +kernel) dX1_slackAt_60
theorem calX1_addString : CalV yX1_addString cX1_addString 5 none 2 := ⟨⟨kw_13_15, kw_1_19, by decide +kernel⟩, kw_13_13, kw_13_14⟩
set_option maxHeartbeats 8000000 in
set_option maxRecDepth 100000 in
theorem ctX1_addString (l : Launch) (G : GT) (t_h : Nat) (t_a : Nat → Nat) (t_windows : Int32) (t_washes : Int32) (t_damp : Int32) (t_heard : Int32) (t_lines : Int32) (t_hour : Int32) (t_strings : Int32) (t_pairs : Nat → Int32) (t_knots : Nat → Int32) (v1 : Int32) (v2 : Int32) (o_t_strings : Int32) (o_t_pairs : Nat → Int32) (o_t_knots : Nat → Int32) (hf : fX1_addString t_strings t_pairs t_knots v1 v2 = some (o_t_strings, o_t_pairs, o_t_knots)) : WrV l yX1_addString (Cond.code yX1_addString cX1_addString 5 none) { frames := 0, cells := 0, slots := 0, locals := 0 } G [.ref t_h, .int v1, .int v2] [oX1 t_h t_a t_windows t_washes t_damp t_heard t_lines t_hour t_strings, arI G (t_a 10) 21 t_pairs, arI G (t_a 11) 21 t_knots] [oX1 t_h t_a t_windows t_washes t_damp t_heard t_lines t_hour o_t_strings, arI G (t_a 10) 21 o_t_pairs, arI G (t_a 11) 21 o_t_knots] := by
  intro sz
  refine Met.ofW (cc := cX1_addString) (maxL := 5) (ret := none) (by decide) rfl ?_
  intro p e s m args below meth c s₁ B hml hv
  obtain ⟨hargs, hsz, hP, hD0, hK⟩ := hv
  subst hsz
  obtain ⟨hx, hb, hr, hw, hown, hlk⟩ := fwB B
  refine fw_enter hargs (Nat.le_of_ble_eq_true rfl) (fun ls hl => ?_)
  have hl : lv_has ls 5 [(0, .ref t_h), (1, .int v1), (2, .int v2)] := hl
  refine fw_Q (P := fun Q => ∃ A : Nat → Prop, va_D A [oX1 t_h t_a t_windows t_washes t_damp t_heard t_lines t_hour t_strings, arI G (t_a 10) 21 t_pairs, arI G (t_a 11) 21 t_knots] ∧ va_S A s.heap s.heap [] ∧ (∀ q, s.heap.size ≤ q → A q) ∧ ∀ (n_t_strings : Int32) (n_t_pairs : Nat → Int32) (n_t_knots : Nat → Int32) (H : Heap) (locs : List Loc) (pc : Nat) (ls : Array Slot), some (n_t_strings, n_t_pairs, n_t_knots) = some (o_t_strings, o_t_pairs, o_t_knots) → va_P G.1 vwCl [oX1 t_h t_a t_windows t_washes t_damp t_heard t_lines t_hour n_t_strings, arI G (t_a 10) 21 n_t_pairs, arI G (t_a 11) 21 n_t_knots] H → va_S A s.heap H locs → decode cX1_addString pc = .ok (.return_, 1) → W p l e ({ frames := 0, cells := 0, slots := 0, locals := 0 } : Room) s m args below meth c H locs 0 0 Q (F0 m pc ls [])) ⟨va_A [oX1 t_h t_a t_windows t_washes t_damp t_heard t_lines t_hour t_strings, arI G (t_a 10) 21 t_pairs, arI G (t_a 11) 21 t_knots] s.heap.size, hD0.self (sz := s.heap.size), va_S.rf, fun q h => Or.inr h, ?_⟩ ?_
  · intro n_t_strings n_t_pairs n_t_knots H locs pc ls h hP hS hd
    cases h
    exact retWV hx hb hr hlk hS hP hd
  rintro Q ⟨A, hD, hS, hA, hRet⟩
  have L21 : ∀ (l1 : Int32) (l2 : Int32) (t_strings : Int32) (K : Int32 → (Nat → Int32) → (Nat → Int32) → Option (Int32 × (Nat → Int32) × (Nat → Int32))) (n : Nat) (l3 : Int32) (l4 : Int32) (t_pairs : Nat → Int32) (t_knots : Nat → Int32) (H : Heap) (locs : List Loc) (ls : Array Slot), va_P G.1 vwCl [oX1 t_h t_a t_windows t_washes t_damp t_heard t_lines t_hour t_strings, arI G (t_a 10) 21 t_pairs, arI G (t_a 11) 21 t_knots] H → va_D A [oX1 t_h t_a t_windows t_washes t_damp t_heard t_lines t_hour t_strings, arI G (t_a 10) 21 t_pairs, arI G (t_a 11) 21 t_knots] → va_S A s.heap H locs → lv_has ls 5 [(0, .ref t_h), (1, .int l1), (2, .int l2), (3, .int l3), (4, .int l4)] → fX1_addString_21 l1 K n l3 l4 t_pairs t_knots = some (o_t_strings, o_t_pairs, o_t_knots) → (∀ (k3 : Int32) (kt_pairs : Nat → Int32) (kt_knots : Nat → Int32) (H : Heap) (locs : List Loc) (ls : Array Slot), va_P G.1 vwCl [oX1 t_h t_a t_windows t_washes t_damp t_heard t_lines t_hour t_strings, arI G (t_a 10) 21 kt_pairs, arI G (t_a 11) 21 kt_knots] H → va_D A [oX1 t_h t_a t_windows t_washes t_damp t_heard t_lines t_hour t_strings, arI G (t_a 10) 21 kt_pairs, arI G (t_a 11) 21 kt_knots] → va_S A s.heap H locs → lv_has ls 5 [(0, .ref t_h), (1, .int l1), (2, .int l2), (3, .int k3)] → K k3 kt_pairs kt_knots = some (o_t_strings, o_t_pairs, o_t_knots) → W p l e ({ frames := 0, cells := 0, slots := 0, locals := 0 } : Room) s m args below meth c H locs 0 0 Q (F0 m 82 ls [])) → W p l e ({ frames := 0, cells := 0, slots := 0, locals := 0 } : Room) s m args below meth c H locs 0 0 Q (F0 m 21 ls []) := by
    intro l1 l2 t_strings K n
    induction n with
    | zero => intro l3 l4 t_pairs t_knots H locs ls hP hD hS hl hf; rw [fX1_addString_21] at hf; cases hf
    | succ n ih =>
      intro l3 l4 t_pairs t_knots H locs ls hP hD hS hl hf hX
      rw [fX1_addString_21] at hf
      refine lv_iload hx hb dX1_addString_21 (lv_at hl 4 rfl) ?_
      refine lv_if_le (tgt := 82) hx hb dX1_addString_23 (by decide) (fun c_2 => ?_) (fun c_2 => ?_)
      · have hf := ip c_2 hf
        exact hX _ _ _ _ _ _ hP hD hS (lv_sub hl [0, 1, 2, 3] rfl) hf
      · have hf := iq c_2 hf
        refine lv_aload_n hx hb dX1_addString_26 rfl (lv_at hl 0 rfl) ?_
        refine va_get (D := G.1) (ci := 1) (v := .ref (t_a 10)) (C := RX1) (T := TX1) (N := 12) hx hb hw inW1 hown hK.1 hP 0 rfl rfl 10 (by decide) (hw _ kw_3_11) (fun _ h9 => h9) rfl dX1_addString_27 ?_
        refine lv_iload hx hb dX1_addString_30 (lv_at hl 4 rfl) ?_
        refine lv_iconst (v := 1) hx hb dX1_addString_32 (by decide) ?_
        refine lv_isub hx hb dX1_addString_33 ?_
        obtain ⟨hi_4, hf⟩ := rdI_in hf
        refine va_iald hx hb hK.1 hP 1 0 rfl rfl hi_4 dX1_addString_34 ?_
        refine lv_topi (fun x_3 ex_3 => ?_)
        have hf := hf x_3 ex_3
        refine lv_iload_n hx hb dX1_addString_35 rfl (lv_at hl 1 rfl) ?_
        refine lv_icmp_le (tgt := 82) hx hb dX1_addString_36 (by decide) (fun c_5 => ?_) (fun c_5 => ?_)
        · have hf := ip c_5 hf
          exact hX _ _ _ _ _ _ hP hD hS (lv_sub hl [0, 1, 2, 3] rfl) hf
        · have hf := iq c_5 hf
          refine lv_aload_n hx hb dX1_addString_39 rfl (lv_at hl 0 rfl) ?_
          refine va_get (D := G.1) (ci := 1) (v := .ref (t_a 10)) (C := RX1) (T := TX1) (N := 12) hx hb hw inW1 hown hK.1 hP 0 rfl rfl 10 (by decide) (hw _ kw_3_11) (fun _ h9 => h9) rfl dX1_addString_40 ?_
          refine lv_iload hx hb dX1_addString_43 (lv_at hl 4 rfl) ?_
          refine lv_aload_n hx hb dX1_addString_45 rfl (lv_at hl 0 rfl) ?_
          refine va_get (D := G.1) (ci := 1) (v := .ref (t_a 10)) (C := RX1) (T := TX1) (N := 12) hx hb hw inW1 hown hK.1 hP 0 rfl rfl 10 (by decide) (hw _ kw_3_11) (fun _ h9 => h9) rfl dX1_addString_46 ?_
          refine lv_iload hx hb dX1_addString_49 (lv_at hl 4 rfl) ?_
          refine lv_iconst (v := 1) hx hb dX1_addString_51 (by decide) ?_
          refine lv_isub hx hb dX1_addString_52 ?_
          obtain ⟨hi_7, hf⟩ := rdI_in hf
          refine va_iald hx hb hK.1 hP 1 0 rfl rfl hi_7 dX1_addString_53 ?_
          refine lv_topi (fun x_6 ex_6 => ?_)
          have hf := hf x_6 ex_6
          obtain ⟨hi_9, hf⟩ := wrI_in hf
          refine xiast hx hb hK.1 hP hD hS 1 0 rfl rfl hi_9 dX1_addString_54 (fun t_pairs_8 H locs et_pairs_8 hP hD hS => ?_)
          have hf := hf t_pairs_8 et_pairs_8
          have hP : va_P G.1 vwCl [oX1 t_h t_a t_windows t_washes t_damp t_heard t_lines t_hour t_strings, arI G (t_a 10) 21 t_pairs_8, arI G (t_a 11) 21 t_knots] H := hP
          have hD : va_D A [oX1 t_h t_a t_windows t_washes t_damp t_heard t_lines t_hour t_strings, arI G (t_a 10) 21 t_pairs_8, arI G (t_a 11) 21 t_knots] := hD
          refine lv_aload_n hx hb dX1_addString_55 rfl (lv_at hl 0 rfl) ?_
          refine va_get (D := G.1) (ci := 1) (v := .ref (t_a 11)) (C := RX1) (T := TX1) (N := 12) hx hb hw inW1 hown hK.1 hP 0 rfl rfl 11 (by decide) (hw _ kw_3_12) (fun _ h9 => h9) rfl dX1_addString_56 ?_
          refine lv_iload hx hb dX1_addString_59 (lv_at hl 4 rfl) ?_
          refine lv_aload_n hx hb dX1_addString_61 rfl (lv_at hl 0 rfl) ?_
          refine va_get (D := G.1) (ci := 1) (v := .ref (t_a 11)) (C := RX1) (T := TX1) (N := 12) hx hb hw inW1 hown hK.1 hP 0 rfl rfl 11 (by decide) (hw _ kw_3_12) (fun _ h9 => h9) rfl dX1_addString_62 ?_
          refine lv_iload hx hb dX1_addString_65 (lv_at hl 4 rfl) ?_
          refine lv_iconst (v := 1) hx hb dX1_addString_67 (by decide) ?_
          refine lv_isub hx hb dX1_addString_68 ?_
          obtain ⟨hi_11, hf⟩ := rdI_in hf
          refine va_iald hx hb hK.1 hP 2 0 rfl rfl hi_11 dX1_addString_69 ?_
          refine lv_topi (fun x_10 ex_10 => ?_)
          have hf := hf x_10 ex_10
          obtain ⟨hi_13, hf⟩ := wrI_in hf
          refine xiast hx hb hK.1 hP hD hS 2 0 rfl rfl hi_13 dX1_addString_70 (fun t_knots_12 H locs et_knots_12 hP hD hS => ?_)
          have hf := hf t_knots_12 et_knots_12
          have hP : va_P G.1 vwCl [oX1 t_h t_a t_windows t_washes t_damp t_heard t_lines t_hour t_strings, arI G (t_a 10) 21 t_pairs_8, arI G (t_a 11) 21 t_knots_12] H := hP
          have hD : va_D A [oX1 t_h t_a t_windows t_washes t_damp t_heard t_lines t_hour t_strings, arI G (t_a 10) 21 t_pairs_8, arI G (t_a 11) 21 t_knots_12] := hD
          refine lv_iload hx hb dX1_addString_71 (lv_at hl 4 rfl) ?_
          refine lv_iconst (v := 1) hx hb dX1_addString_73 (by decide) ?_
          refine lv_isub hx hb dX1_addString_74 ?_
          refine lv_topi (fun y_14 ey_14 => ?_)
          have hf := bnd_all hf y_14 ey_14
          refine lv_istore_n (lv' := [(3, .int y_14), (0, .ref t_h), (1, .int l1), (2, .int l2), (4, .int l4)]) hx hb dX1_addString_75 rfl hl (by decide) rfl (fun ls hl => ?_)
          refine lv_iinc (v := (l4 + (-1))) (lv' := [(4, .int (l4 + (-1))), (3, .int y_14), (0, .ref t_h), (1, .int l1), (2, .int l2)]) hx hb dX1_addString_76 hl (k := 4) rfl (by rfl) (by decide) rfl (fun ls hl => ?_)
          refine lv_goto (tgt := 21) hx hb dX1_addString_79 (by decide) ?_
          exact ih _ _ _ _ _ _ _ hP hD hS (lv_sub hl [2, 3, 4, 1, 0] rfl) hf hX
  unfold fX1_addString at hf
  refine lv_aload_n hx hb dX1_addString_0 rfl (lv_at hl 0 rfl) ?_
  refine va_get (D := G.1) (ci := 1) (v := .int t_strings) (C := RX1) (T := TX1) (N := 12) hx hb hw inW1 hown hK.1 hP 0 rfl rfl 6 (by decide) (hw _ kw_3_23) (fun _ h9 => h9) rfl dX1_addString_1 ?_
  refine lv_bipush (v := 21) hx hb dX1_addString_4 (by decide) ?_
  refine lv_icmp_lt (tgt := 10) hx hb dX1_addString_6 (by decide) (fun c_1 => ?_) (fun c_1 => ?_)
  · have hf := ip c_1 hf
    refine lv_aload_n hx hb dX1_addString_10 rfl (lv_at hl 0 rfl) ?_
    refine va_get (D := G.1) (ci := 1) (v := .int t_strings) (C := RX1) (T := TX1) (N := 12) hx hb hw inW1 hown hK.1 hP 0 rfl rfl 6 (by decide) (hw _ kw_3_23) (fun _ h9 => h9) rfl dX1_addString_11 ?_
    refine lv_istore_n (lv' := [(3, .int t_strings), (0, .ref t_h), (1, .int v1), (2, .int v2)]) hx hb dX1_addString_14 rfl hl (by decide) rfl (fun ls hl => ?_)
    refine lv_aload_n hx hb dX1_addString_15 rfl (lv_at hl 1 rfl) ?_
    refine va_get (D := G.1) (ci := 1) (v := .int t_strings) (C := RX1) (T := TX1) (N := 12) hx hb hw inW1 hown hK.1 hP 0 rfl rfl 6 (by decide) (hw _ kw_3_23) (fun _ h9 => h9) rfl dX1_addString_16 ?_
    refine lv_istore (lv' := [(4, .int t_strings), (3, .int t_strings), (0, .ref t_h), (1, .int v1), (2, .int v2)]) hx hb dX1_addString_19 hl (by decide) rfl (fun ls hl => ?_)
    refine L21 _ _ _ _ _ _ _ _ _ _ _ _ hP hD hS (lv_sub hl [2, 3, 4, 1, 0] rfl) hf (fun w_15 t_pairs_16 t_knots_17 H locs ls hP hD hS hl hf => ?_)
    refine lv_aload_n hx hb dX1_addString_82 rfl (lv_at hl 0 rfl) ?_
    refine va_get (D := G.1) (ci := 1) (v := .ref (t_a 10)) (C := RX1) (T := TX1) (N := 12) hx hb hw inW1 hown hK.1 hP 0 rfl rfl 10 (by decide) (hw _ kw_3_11) (fun _ h9 => h9) rfl dX1_addString_83 ?_
    refine lv_iload_n hx hb dX1_addString_86 rfl (lv_at hl 3 rfl) ?_
    refine lv_iload_n hx hb dX1_addString_87 rfl (lv_at hl 1 rfl) ?_
    obtain ⟨hi_19, hf⟩ := wrI_in hf
    refine xiast hx hb hK.1 hP hD hS 1 0 rfl rfl hi_19 dX1_addString_88 (fun t_pairs_18 H locs et_pairs_18 hP hD hS => ?_)
    have hf := hf t_pairs_18 et_pairs_18
    have hP : va_P G.1 vwCl [oX1 t_h t_a t_windows t_washes t_damp t_heard t_lines t_hour t_strings, arI G (t_a 10) 21 t_pairs_18, arI G (t_a 11) 21 t_knots_17] H := hP
    have hD : va_D A [oX1 t_h t_a t_windows t_washes t_damp t_heard t_lines t_hour t_strings, arI G (t_a 10) 21 t_pairs_18, arI G (t_a 11) 21 t_knots_17] := hD
    refine lv_aload_n hx hb dX1_addString_89 rfl (lv_at hl 0 rfl) ?_
    refine va_get (D := G.1) (ci := 1) (v := .ref (t_a 11)) (C := RX1) (T := TX1) (N := 12) hx hb hw inW1 hown hK.1 hP 0 rfl rfl 11 (by decide) (hw _ kw_3_12) (fun _ h9 => h9) rfl dX1_addString_90 ?_
    refine lv_iload_n hx hb dX1_addString_93 rfl (lv_at hl 3 rfl) ?_
    refine lv_iload_n hx hb dX1_addString_94 rfl (lv_at hl 2 rfl) ?_
    obtain ⟨hi_21, hf⟩ := wrI_in hf
    refine xiast hx hb hK.1 hP hD hS 2 0 rfl rfl hi_21 dX1_addString_95 (fun t_knots_20 H locs et_knots_20 hP hD hS => ?_)
    have hf := hf t_knots_20 et_knots_20
    have hP : va_P G.1 vwCl [oX1 t_h t_a t_windows t_washes t_damp t_heard t_lines t_hour t_strings, arI G (t_a 10) 21 t_pairs_18, arI G (t_a 11) 21 t_knots_20] H := hP
    have hD : va_D A [oX1 t_h t_a t_windows t_washes t_damp t_heard t_lines t_hour t_strings, arI G (t_a 10) 21 t_pairs_18, arI G (t_a 11) 21 t_knots_20] := hD
    refine lv_aload_n hx hb dX1_addString_96 rfl (lv_at hl 0 rfl) ?_
    refine lv_dup hx hb dX1_addString_97 rfl ?_
    refine va_get (D := G.1) (ci := 1) (v := .int t_strings) (C := RX1) (T := TX1) (N := 12) hx hb hw inW1 hown hK.1 hP 0 rfl rfl 6 (by decide) (hw _ kw_3_23) (fun _ h9 => h9) rfl dX1_addString_98 ?_
    refine lv_iconst (v := 1) hx hb dX1_addString_101 (by decide) ?_
    refine lv_iadd hx hb dX1_addString_102 ?_
    refine lv_topi (fun y_22 ey_22 => ?_)
    have hf := bnd_all hf y_22 ey_22
    refine va_put (D := G.1) (ci := 1) (v := .int y_22) (ty := .int) (C := RX1) (T := TX1) (N := 12) hx hb hw inW1 tyX1 tyX1_ok nmX1 hown hK.1 hP hD hS 0 rfl rfl 6 (by decide) (hw _ kw_3_23) (fun _ h9 => h9) rfl (by decide +kernel) rfl rfl (Nat.le_of_ble_eq_true rfl) dX1_addString_103 (fun H locs hP hD hS => ?_)
    have hP : va_P G.1 vwCl [oX1 t_h t_a t_windows t_washes t_damp t_heard t_lines t_hour y_22, arI G (t_a 10) 21 t_pairs_18, arI G (t_a 11) 21 t_knots_20] H := hP
    have hD : va_D A [oX1 t_h t_a t_windows t_washes t_damp t_heard t_lines t_hour y_22, arI G (t_a 10) 21 t_pairs_18, arI G (t_a 11) 21 t_knots_20] := hD
    exact hRet _ _ _ _ _ _ _ hf hP hS dX1_addString_106
  · have hf := iq c_1 hf
    exact hRet _ _ _ _ _ _ _ hf hP hS dX1_addString_9
theorem calX1_removeString : CalV yX1_removeString cX1_removeString 3 none 1 := ⟨⟨kw_24_9, kw_1_19, by decide +kernel⟩, kw_24_7, kw_24_8⟩
set_option maxHeartbeats 8000000 in
set_option maxRecDepth 100000 in
theorem ctX1_removeString (l : Launch) (G : GT) (t_h : Nat) (t_a : Nat → Nat) (t_windows : Int32) (t_washes : Int32) (t_damp : Int32) (t_heard : Int32) (t_lines : Int32) (t_hour : Int32) (t_strings : Int32) (t_pairs : Nat → Int32) (t_knots : Nat → Int32) (v1 : Int32) (o_t_strings : Int32) (o_t_pairs : Nat → Int32) (o_t_knots : Nat → Int32) (hf : fX1_removeString t_strings t_pairs t_knots v1 = some (o_t_strings, o_t_pairs, o_t_knots)) : WrV l yX1_removeString (Cond.code yX1_removeString cX1_removeString 3 none) { frames := 0, cells := 0, slots := 0, locals := 0 } G [.ref t_h, .int v1] [oX1 t_h t_a t_windows t_washes t_damp t_heard t_lines t_hour t_strings, arI G (t_a 10) 21 t_pairs, arI G (t_a 11) 21 t_knots] [oX1 t_h t_a t_windows t_washes t_damp t_heard t_lines t_hour o_t_strings, arI G (t_a 10) 21 o_t_pairs, arI G (t_a 11) 21 o_t_knots] := by
  intro sz
  refine Met.ofW (cc := cX1_removeString) (maxL := 3) (ret := none) (by decide) rfl ?_
  intro p e s m args below meth c s₁ B hml hv
  obtain ⟨hargs, hsz, hP, hD0, hK⟩ := hv
  subst hsz
  obtain ⟨hx, hb, hr, hw, hown, hlk⟩ := fwB B
  refine fw_enter hargs (Nat.le_of_ble_eq_true rfl) (fun ls hl => ?_)
  have hl : lv_has ls 3 [(0, .ref t_h), (1, .int v1)] := hl
  refine fw_Q (P := fun Q => ∃ A : Nat → Prop, va_D A [oX1 t_h t_a t_windows t_washes t_damp t_heard t_lines t_hour t_strings, arI G (t_a 10) 21 t_pairs, arI G (t_a 11) 21 t_knots] ∧ va_S A s.heap s.heap [] ∧ (∀ q, s.heap.size ≤ q → A q) ∧ ∀ (n_t_strings : Int32) (n_t_pairs : Nat → Int32) (n_t_knots : Nat → Int32) (H : Heap) (locs : List Loc) (pc : Nat) (ls : Array Slot), some (n_t_strings, n_t_pairs, n_t_knots) = some (o_t_strings, o_t_pairs, o_t_knots) → va_P G.1 vwCl [oX1 t_h t_a t_windows t_washes t_damp t_heard t_lines t_hour n_t_strings, arI G (t_a 10) 21 n_t_pairs, arI G (t_a 11) 21 n_t_knots] H → va_S A s.heap H locs → decode cX1_removeString pc = .ok (.return_, 1) → W p l e ({ frames := 0, cells := 0, slots := 0, locals := 0 } : Room) s m args below meth c H locs 0 0 Q (F0 m pc ls [])) ⟨va_A [oX1 t_h t_a t_windows t_washes t_damp t_heard t_lines t_hour t_strings, arI G (t_a 10) 21 t_pairs, arI G (t_a 11) 21 t_knots] s.heap.size, hD0.self (sz := s.heap.size), va_S.rf, fun q h => Or.inr h, ?_⟩ ?_
  · intro n_t_strings n_t_pairs n_t_knots H locs pc ls h hP hS hd
    cases h
    exact retWV hx hb hr hlk hS hP hd
  rintro Q ⟨A, hD, hS, hA, hRet⟩
  have L17 : ∀ (t_strings : Int32) (K : (Nat → Int32) → (Nat → Int32) → Option (Int32 × (Nat → Int32) × (Nat → Int32))) (n : Nat) (l2 : Int32) (t_pairs : Nat → Int32) (t_knots : Nat → Int32) (H : Heap) (locs : List Loc) (ls : Array Slot), va_P G.1 vwCl [oX1 t_h t_a t_windows t_washes t_damp t_heard t_lines t_hour t_strings, arI G (t_a 10) 21 t_pairs, arI G (t_a 11) 21 t_knots] H → va_D A [oX1 t_h t_a t_windows t_washes t_damp t_heard t_lines t_hour t_strings, arI G (t_a 10) 21 t_pairs, arI G (t_a 11) 21 t_knots] → va_S A s.heap H locs → lv_has ls 3 [(0, .ref t_h), (2, .int l2)] → fX1_removeString_17 t_strings K n l2 t_pairs t_knots = some (o_t_strings, o_t_pairs, o_t_knots) → (∀ (kt_pairs : Nat → Int32) (kt_knots : Nat → Int32) (H : Heap) (locs : List Loc) (ls : Array Slot), va_P G.1 vwCl [oX1 t_h t_a t_windows t_washes t_damp t_heard t_lines t_hour t_strings, arI G (t_a 10) 21 kt_pairs, arI G (t_a 11) 21 kt_knots] H → va_D A [oX1 t_h t_a t_windows t_washes t_damp t_heard t_lines t_hour t_strings, arI G (t_a 10) 21 kt_pairs, arI G (t_a 11) 21 kt_knots] → va_S A s.heap H locs → lv_has ls 3 [(0, .ref t_h)] → K kt_pairs kt_knots = some (o_t_strings, o_t_pairs, o_t_knots) → W p l e ({ frames := 0, cells := 0, slots := 0, locals := 0 } : Room) s m args below meth c H locs 0 0 Q (F0 m 59 ls [])) → W p l e ({ frames := 0, cells := 0, slots := 0, locals := 0 } : Room) s m args below meth c H locs 0 0 Q (F0 m 17 ls []) := by
    intro t_strings K n
    induction n with
    | zero => intro l2 t_pairs t_knots H locs ls hP hD hS hl hf; rw [fX1_removeString_17] at hf; cases hf
    | succ n ih =>
      intro l2 t_pairs t_knots H locs ls hP hD hS hl hf hX
      rw [fX1_removeString_17] at hf
      refine lv_iload_n hx hb dX1_removeString_17 rfl (lv_at hl 1 rfl) ?_
      refine lv_aload_n hx hb dX1_removeString_18 rfl (lv_at hl 0 rfl) ?_
      refine va_get (D := G.1) (ci := 1) (v := .int t_strings) (C := RX1) (T := TX1) (N := 12) hx hb hw inW1 hown hK.1 hP 0 rfl rfl 6 (by decide) (hw _ kw_3_23) (fun _ h9 => h9) rfl dX1_removeString_19 ?_
      refine lv_icmp_ge (tgt := 59) hx hb dX1_removeString_22 (by decide) (fun c_4 => ?_) (fun c_4 => ?_)
      · have hf := ip c_4 hf
        exact hX _ _ _ _ _ hP hD hS (lv_sub hl [0] rfl) hf
      · have hf := iq c_4 hf
        refine lv_aload_n hx hb dX1_removeString_25 rfl (lv_at hl 0 rfl) ?_
        refine va_get (D := G.1) (ci := 1) (v := .ref (t_a 10)) (C := RX1) (T := TX1) (N := 12) hx hb hw inW1 hown hK.1 hP 0 rfl rfl 10 (by decide) (hw _ kw_3_11) (fun _ h9 => h9) rfl dX1_removeString_26 ?_
        refine lv_iload_n hx hb dX1_removeString_29 rfl (lv_at hl 1 rfl) ?_
        refine lv_iconst (v := 1) hx hb dX1_removeString_30 (by decide) ?_
        refine lv_isub hx hb dX1_removeString_31 ?_
        refine lv_aload_n hx hb dX1_removeString_32 rfl (lv_at hl 0 rfl) ?_
        refine va_get (D := G.1) (ci := 1) (v := .ref (t_a 10)) (C := RX1) (T := TX1) (N := 12) hx hb hw inW1 hown hK.1 hP 0 rfl rfl 10 (by decide) (hw _ kw_3_11) (fun _ h9 => h9) rfl dX1_removeString_33 ?_
        refine lv_iload_n hx hb dX1_removeString_36 rfl (lv_at hl 1 rfl) ?_
        obtain ⟨hi_6, hf⟩ := rdI_in hf
        refine va_iald hx hb hK.1 hP 1 0 rfl rfl hi_6 dX1_removeString_37 ?_
        refine lv_topi (fun x_5 ex_5 => ?_)
        have hf := hf x_5 ex_5
        obtain ⟨hi_8, hf⟩ := wrI_in hf
        refine xiast hx hb hK.1 hP hD hS 1 0 rfl rfl hi_8 dX1_removeString_38 (fun t_pairs_7 H locs et_pairs_7 hP hD hS => ?_)
        have hf := hf t_pairs_7 et_pairs_7
        have hP : va_P G.1 vwCl [oX1 t_h t_a t_windows t_washes t_damp t_heard t_lines t_hour t_strings, arI G (t_a 10) 21 t_pairs_7, arI G (t_a 11) 21 t_knots] H := hP
        have hD : va_D A [oX1 t_h t_a t_windows t_washes t_damp t_heard t_lines t_hour t_strings, arI G (t_a 10) 21 t_pairs_7, arI G (t_a 11) 21 t_knots] := hD
        refine lv_aload_n hx hb dX1_removeString_39 rfl (lv_at hl 0 rfl) ?_
        refine va_get (D := G.1) (ci := 1) (v := .ref (t_a 11)) (C := RX1) (T := TX1) (N := 12) hx hb hw inW1 hown hK.1 hP 0 rfl rfl 11 (by decide) (hw _ kw_3_12) (fun _ h9 => h9) rfl dX1_removeString_40 ?_
        refine lv_iload_n hx hb dX1_removeString_43 rfl (lv_at hl 1 rfl) ?_
        refine lv_iconst (v := 1) hx hb dX1_removeString_44 (by decide) ?_
        refine lv_isub hx hb dX1_removeString_45 ?_
        refine lv_aload_n hx hb dX1_removeString_46 rfl (lv_at hl 0 rfl) ?_
        refine va_get (D := G.1) (ci := 1) (v := .ref (t_a 11)) (C := RX1) (T := TX1) (N := 12) hx hb hw inW1 hown hK.1 hP 0 rfl rfl 11 (by decide) (hw _ kw_3_12) (fun _ h9 => h9) rfl dX1_removeString_47 ?_
        refine lv_iload_n hx hb dX1_removeString_50 rfl (lv_at hl 1 rfl) ?_
        obtain ⟨hi_10, hf⟩ := rdI_in hf
        refine va_iald hx hb hK.1 hP 2 0 rfl rfl hi_10 dX1_removeString_51 ?_
        refine lv_topi (fun x_9 ex_9 => ?_)
        have hf := hf x_9 ex_9
        obtain ⟨hi_12, hf⟩ := wrI_in hf
        refine xiast hx hb hK.1 hP hD hS 2 0 rfl rfl hi_12 dX1_removeString_52 (fun t_knots_11 H locs et_knots_11 hP hD hS => ?_)
        have hf := hf t_knots_11 et_knots_11
        have hP : va_P G.1 vwCl [oX1 t_h t_a t_windows t_washes t_damp t_heard t_lines t_hour t_strings, arI G (t_a 10) 21 t_pairs_7, arI G (t_a 11) 21 t_knots_11] H := hP
        have hD : va_D A [oX1 t_h t_a t_windows t_washes t_damp t_heard t_lines t_hour t_strings, arI G (t_a 10) 21 t_pairs_7, arI G (t_a 11) 21 t_knots_11] := hD
        refine lv_iinc (v := (l2 + 1)) (lv' := [(2, .int (l2 + 1)), (0, .ref t_h)]) hx hb dX1_removeString_53 hl (k := 1) rfl (by rfl) (by decide) rfl (fun ls hl => ?_)
        refine lv_goto (tgt := 17) hx hb dX1_removeString_56 (by decide) ?_
        exact ih _ _ _ _ _ _ hP hD hS (lv_sub hl [1, 0] rfl) hf hX
  unfold fX1_removeString at hf
  refine lv_iload_n hx hb dX1_removeString_0 rfl (lv_at hl 1 rfl) ?_
  refine lv_if_lt (tgt := 12) hx hb dX1_removeString_1 (by decide) (fun c_1 => ?_) (fun c_1 => ?_)
  · have hf := ip c_1 hf
    exact hRet _ _ _ _ _ _ _ hf hP hS dX1_removeString_12
  · have hf := iq c_1 hf
    refine lv_iload_n hx hb dX1_removeString_4 rfl (lv_at hl 1 rfl) ?_
    refine lv_aload_n hx hb dX1_removeString_5 rfl (lv_at hl 0 rfl) ?_
    refine va_get (D := G.1) (ci := 1) (v := .int t_strings) (C := RX1) (T := TX1) (N := 12) hx hb hw inW1 hown hK.1 hP 0 rfl rfl 6 (by decide) (hw _ kw_3_23) (fun _ h9 => h9) rfl dX1_removeString_6 ?_
    refine lv_icmp_lt (tgt := 13) hx hb dX1_removeString_9 (by decide) (fun c_2 => ?_) (fun c_2 => ?_)
    · have hf := ip c_2 hf
      refine lv_iload_n hx hb dX1_removeString_13 rfl (lv_at hl 1 rfl) ?_
      refine lv_iconst (v := 1) hx hb dX1_removeString_14 (by decide) ?_
      refine lv_iadd hx hb dX1_removeString_15 ?_
      refine lv_topi (fun y_3 ey_3 => ?_)
      have hf := bnd_all hf y_3 ey_3
      refine lv_istore_n (lv' := [(2, .int y_3), (0, .ref t_h), (1, .int v1)]) hx hb dX1_removeString_16 rfl hl (by decide) rfl (fun ls hl => ?_)
      refine L17 _ _ _ _ _ _ _ _ _ hP hD hS (lv_sub hl [1, 0] rfl) hf (fun t_pairs_13 t_knots_14 H locs ls hP hD hS hl hf => ?_)
      refine lv_aload_n hx hb dX1_removeString_59 rfl (lv_at hl 0 rfl) ?_
      refine lv_dup hx hb dX1_removeString_60 rfl ?_
      refine va_get (D := G.1) (ci := 1) (v := .int t_strings) (C := RX1) (T := TX1) (N := 12) hx hb hw inW1 hown hK.1 hP 0 rfl rfl 6 (by decide) (hw _ kw_3_23) (fun _ h9 => h9) rfl dX1_removeString_61 ?_
      refine lv_iconst (v := 1) hx hb dX1_removeString_64 (by decide) ?_
      refine lv_isub hx hb dX1_removeString_65 ?_
      refine lv_topi (fun y_15 ey_15 => ?_)
      have hf := bnd_all hf y_15 ey_15
      refine va_put (D := G.1) (ci := 1) (v := .int y_15) (ty := .int) (C := RX1) (T := TX1) (N := 12) hx hb hw inW1 tyX1 tyX1_ok nmX1 hown hK.1 hP hD hS 0 rfl rfl 6 (by decide) (hw _ kw_3_23) (fun _ h9 => h9) rfl (by decide +kernel) rfl rfl (Nat.le_of_ble_eq_true rfl) dX1_removeString_66 (fun H locs hP hD hS => ?_)
      have hP : va_P G.1 vwCl [oX1 t_h t_a t_windows t_washes t_damp t_heard t_lines t_hour y_15, arI G (t_a 10) 21 t_pairs_13, arI G (t_a 11) 21 t_knots_14] H := hP
      have hD : va_D A [oX1 t_h t_a t_windows t_washes t_damp t_heard t_lines t_hour y_15, arI G (t_a 10) 21 t_pairs_13, arI G (t_a 11) 21 t_knots_14] := hD
      exact hRet _ _ _ _ _ _ _ hf hP hS dX1_removeString_69
    · have hf := iq c_2 hf
      exact hRet _ _ _ _ _ _ _ hf hP hS dX1_removeString_12
