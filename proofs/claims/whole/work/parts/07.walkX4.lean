section KX4
variable {p : Program} {l : Launch} {e : Env} {s : State} {m : MethodId} {args : Array Value} {below : List Frame} {meth : Method} {c : Code} {Q : State → Prop} {D : va_G} {a : Nat → Nat} {cI cZ : ClassId} {A : Nat → Prop}
abbrev rmX3_firstGood : Room := { frames := 3, cells := 0, slots := 0, locals := 70 }
theorem iwX3_firstGood_3 : ∀ w ∈ wsX30, w ∈ wsX3_firstGood := fun _ h => List.mem_cons_of_mem _ (List.mem_append_left _ (List.mem_append_right _ h))
theorem iwX3_firstGood_0 : ∀ w ∈ wsX00, w ∈ wsX3_firstGood := fun _ h => List.mem_cons_of_mem _ (List.mem_append_right _ h)
set_option maxHeartbeats 4000000 in
set_option maxRecDepth 100000 in
theorem kX3_firstGood {r : Int32 × zS} (hC0 : zC p m c cX3_firstGood 3 s args wsX3_firstGood RX3 D cI cZ) (hQ : zRi p l e rmX3_firstGood s m args below meth c cX3_firstGood D A (wX a cI) Q r) {S : zS} (hf : fX3_firstGood S = some r) {H : Heap} {locs : List Loc} (hP : va_P D vwCl (wX a cI S) H) (hD : va_D A (wX a cI S)) (hS : va_S A s.heap H locs) {ls : Array Slot} (hl : lv_has ls 3 [(0, .ref (a 14)), (1, .ref (a 6))]) : W p l e rmX3_firstGood s m args below meth c H locs 0 0 Q (F0 m 0 ls []) := by
  obtain ⟨hC, hK, hN⟩ := id hC0
  obtain ⟨hx, hb, hml, hown, hts⟩ := id hC
  have iw3 := iwX3_firstGood_3
  have iw0 := iwX3_firstGood_0
  unfold fX3_firstGood at hf
  refine lv_aload_n hx hb dX3_firstGood_0 rfl (lv_at hl 0 rfl) ?_
  refine lv_iconst (v := (0 : Int32)) hx hb dX3_firstGood_1 (by decide) ?_
  refine lv_aload_n hx hb dX3_firstGood_2 rfl (lv_at hl 1 rfl) ?_
  obtain ⟨y_1, S_1, hg_1, hf⟩ := obnd_some hf
  refine zci (va_runV (As := [.int (0 : Int32), .ref (a 6)]) (rest := []) hC (tX3_slotInOrder hg_1) (cwV 2 hts gX3_firstGood_X3_slotInOrder rfl rfl rfl (by decide +kernel) ⟨Nat.le_of_ble_eq_true rfl, Nat.le_of_ble_eq_true rfl⟩) (zpV hP hK hD hN (rX_14 hK hP)) rfl rfl hl.1 rfl (lv_room (Nat.le_of_ble_eq_true rfl)) dX3_firstGood_3 ⟨Nat.zero_le _, Nat.zero_le _⟩) hS (fun H locs hP hD hS => ?_)
  refine z_istore_n hf hx hb (fun y => [(2, .int y), (0, .ref (a 14)), (1, .ref (a 6))]) dX3_firstGood_6 rfl hl (by decide) (fun _ => rfl) (fun y_2 ls hf hl => ?_)
  refine lv_iload_n hx hb dX3_firstGood_7 rfl (lv_at hl 0 rfl) ?_
  refine lv_iconst (v := (-1 : Int32)) hx hb dX3_firstGood_8 (by decide) ?_
  refine lv_icmp_eq (tgt := 30) hx hb dX3_firstGood_9 (by decide) (fun h_1 => ?_) (fun h_1 => ?_)
  · have hf := zt h_1 hf
    refine lv_iconst (v := (-1 : Int32)) hx hb dX3_firstGood_30 (by decide) ?_
    exact zri hf hQ hP hD hS dX3_firstGood_31
  · have hf := zf h_1 hf
    refine lv_aload_n hx hb dX3_firstGood_12 rfl (lv_at hl 1 rfl) ?_
    refine lv_iload_n hx hb dX3_firstGood_13 rfl (lv_at hl 0 rfl) ?_
    refine lv_aload_n hx hb dX3_firstGood_14 rfl (lv_at hl 2 rfl) ?_
    obtain ⟨y_3, S_2, hg_2, hf⟩ := obnd_some hf
    refine zci (va_runV (As := [.int y_2, .ref (a 6)]) (rest := []) hC (tX3_isGood hg_2) (cwV 2 hts gX3_firstGood_X3_isGood rfl rfl rfl (by decide +kernel) ⟨Nat.le_of_ble_eq_true rfl, Nat.le_of_ble_eq_true rfl⟩) (zpV hP hK hD hN (rX_14 hK hP)) rfl rfl hl.1 rfl (lv_room (Nat.le_of_ble_eq_true rfl)) dX3_firstGood_15 ⟨Nat.zero_le _, Nat.zero_le _⟩) hS (fun H locs hP hD hS => ?_)
    refine lv_if_eq (tgt := 30) hx hb dX3_firstGood_18 (by decide) (fun h_2 => ?_) (fun h_2 => ?_)
    · have hf := zt h_2 hf
      refine lv_iconst (v := (-1 : Int32)) hx hb dX3_firstGood_30 (by decide) ?_
      exact zri hf hQ hP hD hS dX3_firstGood_31
    · have hf := zf h_2 hf
      refine lv_aload_n hx hb dX3_firstGood_21 rfl (lv_at hl 1 rfl) ?_
      refine gX3_addresses hx hb hts iw3 hown hK hP (List.mem_of_getElem? (i := 1) rfl) dX3_firstGood_22 ?_
      refine lv_iload_n hx hb dX3_firstGood_25 rfl (lv_at hl 0 rfl) ?_
      refine lX3_addresses hf hx hb hK hP dX3_firstGood_26 (fun hf => ?_)
      refine lv_goto (tgt := 31) hx hb dX3_firstGood_27 (by decide) ?_
      exact zri hf hQ hP hD hS dX3_firstGood_31
theorem tX3_firstGood {S : zS} {r : Int32 × zS} (hf : fX3_firstGood S = some r) : zMi l yX3_firstGood wsX3_firstGood rmX3_firstGood D (zT cI cZ) A (wX a cI) [.ref (a 14), .ref (a 6)] S r :=
  zMi_of (by decide) rfl rfl (Nat.le_of_ble_eq_true rfl) (fun hC0 hQ hP hD hS _ hl => kX3_firstGood hC0 hQ hf hP hD hS hl)
abbrev rmX3_leastAbove : Room := { frames := 0, cells := 0, slots := 0, locals := 0 }
theorem iwX3_leastAbove_3 : ∀ w ∈ wsX30, w ∈ wsX3_leastAbove := fun _ h => List.mem_cons_of_mem _ (List.mem_append_right _ h)
set_option maxHeartbeats 4000000 in
set_option maxRecDepth 100000 in
theorem kX3_leastAbove_40 {r : Int32 × zS} (hC0 : zC p m c cX3_leastAbove 5 s args wsX3_leastAbove RX3 D cI cZ) (hQ : zRi p l e rmX3_leastAbove s m args below meth c cX3_leastAbove D A (wX a cI) Q r) {F4 : zS → Int32 → Int32 → Int32 → Option (Int32 × zS)} (hF4 : ∀ (S : zS) (x1 : Int32) (x2 : Int32) (x3 : Int32), F4 S x1 x2 x3 = some r → ∀ {H : Heap} {locs : List Loc}, va_P D vwCl (wX a cI S) H → va_D A (wX a cI S) → va_S A s.heap H locs → ∀ {ls : Array Slot}, lv_has ls 5 [(0, .ref (a 14)), (1, .int x1), (2, .int x2), (3, .int x3)] → W p l e rmX3_leastAbove s m args below meth c H locs 0 0 Q (F0 m 4 ls [])) {S : zS} {x1 : Int32} {x2 : Int32} {x3 : Int32} (hf : fX3_leastAbove_40 F4 S x1 x2 x3 = some r) {H : Heap} {locs : List Loc} (hP : va_P D vwCl (wX a cI S) H) (hD : va_D A (wX a cI S)) (hS : va_S A s.heap H locs) {ls : Array Slot} (hl : lv_has ls 5 [(0, .ref (a 14)), (1, .int x1), (2, .int x2), (3, .int x3)]) : W p l e rmX3_leastAbove s m args below meth c H locs 0 0 Q (F0 m 40 ls []) := by
  obtain ⟨hC, hK, hN⟩ := id hC0
  obtain ⟨hx, hb, hml, hown, hts⟩ := id hC
  have iw3 := iwX3_leastAbove_3
  unfold fX3_leastAbove_40 at hf
  refine z_iinc hf hx hb 3 (fun y => [(3, .int y), (0, .ref (a 14)), (1, .int x1), (2, .int x2)]) dX3_leastAbove_40 hl rfl (by decide) (by decide) (fun _ => rfl) (fun y_1 ls hf hl => ?_)
  refine lv_goto (tgt := 4) hx hb dX3_leastAbove_43 (by decide) ?_
  exact hF4 _ _ _ _ hf hP hD hS (lv_sub hl [1, 2, 3, 0] rfl)
set_option maxHeartbeats 4000000 in
set_option maxRecDepth 100000 in
theorem kX3_leastAbove_37 {r : Int32 × zS} (hC0 : zC p m c cX3_leastAbove 5 s args wsX3_leastAbove RX3 D cI cZ) (hQ : zRi p l e rmX3_leastAbove s m args below meth c cX3_leastAbove D A (wX a cI) Q r) {F4 : zS → Int32 → Int32 → Int32 → Option (Int32 × zS)} (hF4 : ∀ (S : zS) (x1 : Int32) (x2 : Int32) (x3 : Int32), F4 S x1 x2 x3 = some r → ∀ {H : Heap} {locs : List Loc}, va_P D vwCl (wX a cI S) H → va_D A (wX a cI S) → va_S A s.heap H locs → ∀ {ls : Array Slot}, lv_has ls 5 [(0, .ref (a 14)), (1, .int x1), (2, .int x2), (3, .int x3)] → W p l e rmX3_leastAbove s m args below meth c H locs 0 0 Q (F0 m 4 ls [])) {S : zS} {x1 : Int32} {x3 : Int32} {x4 : Int32} (hf : fX3_leastAbove_37 F4 S x1 x3 x4 = some r) {H : Heap} {locs : List Loc} (hP : va_P D vwCl (wX a cI S) H) (hD : va_D A (wX a cI S)) (hS : va_S A s.heap H locs) {ls : Array Slot} (hl : lv_has ls 5 [(0, .ref (a 14)), (1, .int x1), (3, .int x3), (4, .int x4)]) : W p l e rmX3_leastAbove s m args below meth c H locs 0 0 Q (F0 m 37 ls []) := by
  obtain ⟨hC, hK, hN⟩ := id hC0
  obtain ⟨hx, hb, hml, hown, hts⟩ := id hC
  have iw3 := iwX3_leastAbove_3
  unfold fX3_leastAbove_37 at hf
  refine lv_iload hx hb dX3_leastAbove_37 (lv_at hl 3 rfl) ?_
  refine z_istore_n hf hx hb (fun y => [(2, .int y), (0, .ref (a 14)), (1, .int x1), (3, .int x3), (4, .int x4)]) dX3_leastAbove_39 rfl hl (by decide) (fun _ => rfl) (fun y_1 ls hf hl => ?_)
  exact kX3_leastAbove_40 hC0 hQ hF4 hf hP hD hS (lv_sub hl [1, 2, 0, 3] rfl)
set_option maxHeartbeats 4000000 in
set_option maxRecDepth 100000 in
theorem kX3_leastAbove_4b {r : Int32 × zS} (hC0 : zC p m c cX3_leastAbove 5 s args wsX3_leastAbove RX3 D cI cZ) (hQ : zRi p l e rmX3_leastAbove s m args below meth c cX3_leastAbove D A (wX a cI) Q r) {F4 : zS → Int32 → Int32 → Int32 → Option (Int32 × zS)} (hF4 : ∀ (S : zS) (x1 : Int32) (x2 : Int32) (x3 : Int32), F4 S x1 x2 x3 = some r → ∀ {H : Heap} {locs : List Loc}, va_P D vwCl (wX a cI S) H → va_D A (wX a cI S) → va_S A s.heap H locs → ∀ {ls : Array Slot}, lv_has ls 5 [(0, .ref (a 14)), (1, .int x1), (2, .int x2), (3, .int x3)] → W p l e rmX3_leastAbove s m args below meth c H locs 0 0 Q (F0 m 4 ls [])) {S : zS} {x1 : Int32} {x2 : Int32} {x3 : Int32} (hf : bX3_leastAbove_4 F4 S x1 x2 x3 = some r) {H : Heap} {locs : List Loc} (hP : va_P D vwCl (wX a cI S) H) (hD : va_D A (wX a cI S)) (hS : va_S A s.heap H locs) {ls : Array Slot} (hl : lv_has ls 5 [(0, .ref (a 14)), (1, .int x1), (2, .int x2), (3, .int x3)]) : W p l e rmX3_leastAbove s m args below meth c H locs 0 0 Q (F0 m 4 ls []) := by
  obtain ⟨hC, hK, hN⟩ := id hC0
  obtain ⟨hx, hb, hml, hown, hts⟩ := id hC
  have iw3 := iwX3_leastAbove_3
  unfold bX3_leastAbove_4 at hf
  refine lv_iload_n hx hb dX3_leastAbove_4 rfl (lv_at hl 3 rfl) ?_
  refine lv_aload_n hx hb dX3_leastAbove_5 rfl (lv_at hl 0 rfl) ?_
  refine gX3_size hx hb hts iw3 hown hK hP (List.mem_of_getElem? (i := 1) rfl) dX3_leastAbove_6 ?_
  refine lv_icmp_ge (tgt := 46) hx hb dX3_leastAbove_9 (by decide) (fun h_1 => ?_) (fun h_1 => ?_)
  · have hf := zt h_1 hf
    refine lv_iload_n hx hb dX3_leastAbove_46 rfl (lv_at hl 2 rfl) ?_
    exact zri hf hQ hP hD hS dX3_leastAbove_47
  · have hf := zf h_1 hf
    refine lv_aload_n hx hb dX3_leastAbove_12 rfl (lv_at hl 0 rfl) ?_
    refine gX3_addresses hx hb hts iw3 hown hK hP (List.mem_of_getElem? (i := 2) rfl) dX3_leastAbove_13 ?_
    refine lv_iload_n hx hb dX3_leastAbove_16 rfl (lv_at hl 3 rfl) ?_
    refine lX3_addresses hf hx hb hK hP dX3_leastAbove_17 (fun hf => ?_)
    refine z_istore hf hx hb (fun y => [(4, .int y), (0, .ref (a 14)), (1, .int x1), (2, .int x2), (3, .int x3)]) dX3_leastAbove_18 hl (by decide) (fun _ => rfl) (fun y_1 ls hf hl => ?_)
    refine lv_iload hx hb dX3_leastAbove_20 (lv_at hl 0 rfl) ?_
    refine lv_iload_n hx hb dX3_leastAbove_22 rfl (lv_at hl 2 rfl) ?_
    refine lv_icmp_le (tgt := 40) hx hb dX3_leastAbove_23 (by decide) (fun h_2 => ?_) (fun h_2 => ?_)
    · have hf := zt h_2 hf
      exact kX3_leastAbove_40 hC0 hQ hF4 hf hP hD hS (lv_sub hl [1, 2, 3, 4] rfl)
    · have hf := zf h_2 hf
      refine lv_iload_n hx hb dX3_leastAbove_26 rfl (lv_at hl 3 rfl) ?_
      refine lv_iconst (v := (-1 : Int32)) hx hb dX3_leastAbove_27 (by decide) ?_
      refine lv_icmp_eq (tgt := 37) hx hb dX3_leastAbove_28 (by decide) (fun h_3 => ?_) (fun h_3 => ?_)
      · have hf := zt h_3 hf
        exact kX3_leastAbove_37 hC0 hQ hF4 hf hP hD hS (lv_sub hl [1, 2, 4, 0] rfl)
      · have hf := zf h_3 hf
        refine lv_iload hx hb dX3_leastAbove_31 (lv_at hl 0 rfl) ?_
        refine lv_iload_n hx hb dX3_leastAbove_33 rfl (lv_at hl 3 rfl) ?_
        refine lv_icmp_ge (tgt := 40) hx hb dX3_leastAbove_34 (by decide) (fun h_4 => ?_) (fun h_4 => ?_)
        · have hf := zt h_4 hf
          exact kX3_leastAbove_40 hC0 hQ hF4 hf hP hD hS (lv_sub hl [1, 2, 3, 4] rfl)
        · have hf := zf h_4 hf
          exact kX3_leastAbove_37 hC0 hQ hF4 hf hP hD hS (lv_sub hl [1, 2, 4, 0] rfl)
theorem kX3_leastAbove_4 {r : Int32 × zS} (hC0 : zC p m c cX3_leastAbove 5 s args wsX3_leastAbove RX3 D cI cZ) (hQ : zRi p l e rmX3_leastAbove s m args below meth c cX3_leastAbove D A (wX a cI) Q r) (n : Nat) : ∀ (S : zS) (x1 : Int32) (x2 : Int32) (x3 : Int32), fX3_leastAbove_4 n S x1 x2 x3 = some r → ∀ {H : Heap} {locs : List Loc}, va_P D vwCl (wX a cI S) H → va_D A (wX a cI S) → va_S A s.heap H locs → ∀ {ls : Array Slot}, lv_has ls 5 [(0, .ref (a 14)), (1, .int x1), (2, .int x2), (3, .int x3)] → W p l e rmX3_leastAbove s m args below meth c H locs 0 0 Q (F0 m 4 ls []) := by
  induction n with
  | zero => intro S x1 x2 x3 hf; cases hf
  | succ n ih => intro S x1 x2 x3 hf; exact kX3_leastAbove_4b hC0 hQ ih hf
set_option maxHeartbeats 4000000 in
set_option maxRecDepth 100000 in
theorem kX3_leastAbove {r : Int32 × zS} (hC0 : zC p m c cX3_leastAbove 5 s args wsX3_leastAbove RX3 D cI cZ) (hQ : zRi p l e rmX3_leastAbove s m args below meth c cX3_leastAbove D A (wX a cI) Q r) {S : zS} {x1 : Int32} (hf : fX3_leastAbove S x1 = some r) {H : Heap} {locs : List Loc} (hP : va_P D vwCl (wX a cI S) H) (hD : va_D A (wX a cI S)) (hS : va_S A s.heap H locs) {ls : Array Slot} (hl : lv_has ls 5 [(0, .ref (a 14)), (1, .int x1)]) : W p l e rmX3_leastAbove s m args below meth c H locs 0 0 Q (F0 m 0 ls []) := by
  obtain ⟨hC, hK, hN⟩ := id hC0
  obtain ⟨hx, hb, hml, hown, hts⟩ := id hC
  have iw3 := iwX3_leastAbove_3
  unfold fX3_leastAbove at hf
  refine lv_iconst (v := (-1 : Int32)) hx hb dX3_leastAbove_0 (by decide) ?_
  refine z_istore_n hf hx hb (fun y => [(2, .int y), (0, .ref (a 14)), (1, .int x1)]) dX3_leastAbove_1 rfl hl (by decide) (fun _ => rfl) (fun y_1 ls hf hl => ?_)
  refine lv_iconst (v := (0 : Int32)) hx hb dX3_leastAbove_2 (by decide) ?_
  refine z_istore_n hf hx hb (fun y => [(3, .int y), (2, .int y_1), (0, .ref (a 14)), (1, .int x1)]) dX3_leastAbove_3 rfl hl (by decide) (fun _ => rfl) (fun y_2 ls hf hl => ?_)
  exact kX3_leastAbove_4 hC0 hQ 64 _ _ _ _ hf hP hD hS (lv_sub hl [2, 3, 1, 0] rfl)
theorem tX3_leastAbove {S : zS} {x1 : Int32} {r : Int32 × zS} (hf : fX3_leastAbove S x1 = some r) : zMi l yX3_leastAbove wsX3_leastAbove rmX3_leastAbove D (zT cI cZ) A (wX a cI) [.ref (a 14), .int x1] S r :=
  zMi_of (by decide) rfl rfl (Nat.le_of_ble_eq_true rfl) (fun hC0 hQ hP hD hS _ hl => kX3_leastAbove hC0 hQ hf hP hD hS hl)
abbrev rmX3_tell : Room := { frames := 0, cells := 0, slots := 0, locals := 0 }
theorem iwX3_tell_3 : ∀ w ∈ wsX30, w ∈ wsX3_tell := fun _ h => List.mem_cons_of_mem _ (List.mem_append_right _ h)
set_option maxHeartbeats 4000000 in
set_option maxRecDepth 100000 in
theorem kX3_tell {r : Int32 × zS} (hC0 : zC p m c cX3_tell 3 s args wsX3_tell RX3 D cI cZ) (hQ : zRi p l e rmX3_tell s m args below meth c cX3_tell D A (wX a cI) Q r) {S : zS} {x1 : Int32} {x2 : Int32} (hf : fX3_tell S x1 x2 = some r) {H : Heap} {locs : List Loc} (hP : va_P D vwCl (wX a cI S) H) (hD : va_D A (wX a cI S)) (hS : va_S A s.heap H locs) {ls : Array Slot} (hl : lv_has ls 3 [(0, .ref (a 14)), (1, .int x1), (2, .int x2)]) : W p l e rmX3_tell s m args below meth c H locs 0 0 Q (F0 m 0 ls []) := by
  obtain ⟨hC, hK, hN⟩ := id hC0
  obtain ⟨hx, hb, hml, hown, hts⟩ := id hC
  have iw3 := iwX3_tell_3
  unfold fX3_tell at hf
  refine lv_iload_n hx hb dX3_tell_0 rfl (lv_at hl 2 rfl) ?_
  by_cases h_1 : x2 = (0 : Int32)
  · have hf := zt h_1 hf
    refine lv_tableIn (off := 27) (tgt := 28) hx hb dX3_tell_1 (by rw [h_1]; decide) (by rw [h_1]; decide) (by rw [h_1]; rfl) (by decide) ?_
    refine lv_aload_n hx hb dX3_tell_28 rfl (lv_at hl 0 rfl) ?_
    refine gX3_addresses hx hb hts iw3 hown hK hP (List.mem_of_getElem? (i := 1) rfl) dX3_tell_29 ?_
    refine lv_iload_n hx hb dX3_tell_32 rfl (lv_at hl 1 rfl) ?_
    refine lX3_addresses hf hx hb hK hP dX3_tell_33 (fun hf => ?_)
    exact zri hf hQ hP hD hS dX3_tell_34
  · have hf := zf h_1 hf
    by_cases h_2 : x2 = (1 : Int32)
    · have hf := zt h_2 hf
      refine lv_tableIn (off := 34) (tgt := 35) hx hb dX3_tell_1 (by rw [h_2]; decide) (by rw [h_2]; decide) (by rw [h_2]; rfl) (by decide) ?_
      refine lv_aload_n hx hb dX3_tell_35 rfl (lv_at hl 0 rfl) ?_
      refine gX3_ranks hx hb hts iw3 hown hK hP (List.mem_of_getElem? (i := 2) rfl) dX3_tell_36 ?_
      refine lv_iload_n hx hb dX3_tell_39 rfl (lv_at hl 1 rfl) ?_
      refine lX3_ranks hf hx hb hK hP dX3_tell_40 (fun hf => ?_)
      exact zri hf hQ hP hD hS dX3_tell_41
    · have hf := zf h_2 hf
      by_cases h_3 : x2 = (2 : Int32)
      · have hf := zt h_3 hf
        refine lv_tableIn (off := 41) (tgt := 42) hx hb dX3_tell_1 (by rw [h_3]; decide) (by rw [h_3]; decide) (by rw [h_3]; rfl) (by decide) ?_
        refine lv_aload_n hx hb dX3_tell_42 rfl (lv_at hl 0 rfl) ?_
        refine gX3_ends hx hb hts iw3 hown hK hP (List.mem_of_getElem? (i := 3) rfl) dX3_tell_43 ?_
        refine lv_iload_n hx hb dX3_tell_46 rfl (lv_at hl 1 rfl) ?_
        refine lX3_ends hf hx hb hK hP dX3_tell_47 (fun hf => ?_)
        exact zri hf hQ hP hD hS dX3_tell_48
      · have hf := zf h_3 hf
        refine lv_tableOut (tgt := 49) hx hb dX3_tell_1 (by have := zne h_1 (n := 0) (by decide); have := zne h_2 (n := 1) (by decide); have := zne h_3 (n := 2) (by decide); omega) (by decide) ?_
        refine lv_bipush (v := (-102 : Int32)) hx hb dX3_tell_49 (by decide) ?_
        exact zri hf hQ hP hD hS dX3_tell_51
theorem tX3_tell {S : zS} {x1 : Int32} {x2 : Int32} {r : Int32 × zS} (hf : fX3_tell S x1 x2 = some r) : zMi l yX3_tell wsX3_tell rmX3_tell D (zT cI cZ) A (wX a cI) [.ref (a 14), .int x1, .int x2] S r :=
  zMi_of (by decide) rfl rfl (Nat.le_of_ble_eq_true rfl) (fun hC0 hQ hP hD hS _ hl => kX3_tell hC0 hQ hf hP hD hS hl)
abbrev rmX4_trialGoesOn : Room := { frames := 1, cells := 0, slots := 0, locals := 26 }
theorem iwX4_trialGoesOn_4 : ∀ w ∈ wsX40, w ∈ wsX4_trialGoesOn := fun _ h => List.mem_cons_of_mem _ (List.mem_append_left _ (List.mem_append_right _ h))
theorem iwX4_trialGoesOn_2 : ∀ w ∈ wsX20, w ∈ wsX4_trialGoesOn := fun _ h => List.mem_cons_of_mem _ (List.mem_append_right _ h)
set_option maxHeartbeats 4000000 in
set_option maxRecDepth 100000 in
theorem kX4_trialGoesOn {r : zS} (hC0 : zC p m c cX4_trialGoesOn 2 s args wsX4_trialGoesOn RX4 D cI cZ) (hQ : zRv p l e rmX4_trialGoesOn s m args below meth c cX4_trialGoesOn D A (wX a cI) Q r) {S : zS} (hf : fX4_trialGoesOn S = some r) {H : Heap} {locs : List Loc} (hP : va_P D vwCl (wX a cI S) H) (hD : va_D A (wX a cI S)) (hS : va_S A s.heap H locs) {ls : Array Slot} (hl : lv_has ls 2 [(0, .ref (a 0))]) : W p l e rmX4_trialGoesOn s m args below meth c H locs 0 0 Q (F0 m 0 ls []) := by
  obtain ⟨hC, hK, hN⟩ := id hC0
  obtain ⟨hx, hb, hml, hown, hts⟩ := id hC
  have iw4 := iwX4_trialGoesOn_4
  have iw2 := iwX4_trialGoesOn_2
  unfold fX4_trialGoesOn at hf
  refine lv_aload_n hx hb dX4_trialGoesOn_0 rfl (lv_at hl 0 rfl) ?_
  refine gX4_trial hx hb hts iw4 hown hK hP (List.mem_of_getElem? (i := 1) rfl) dX4_trialGoesOn_1 ?_
  refine lv_iconst (v := (-1 : Int32)) hx hb dX4_trialGoesOn_4 (by decide) ?_
  refine lv_icmp_ne (tgt := 9) hx hb dX4_trialGoesOn_5 (by decide) (fun h_1 => ?_) (fun h_1 => ?_)
  · have hf := zf h_1 hf
    refine lv_aload_n hx hb dX4_trialGoesOn_9 rfl (lv_at hl 0 rfl) ?_
    refine gX4_clock hx hb hts iw4 hown hK hP (List.mem_of_getElem? (i := 2) rfl) dX4_trialGoesOn_10 ?_
    refine lv_aload_n hx hb dX4_trialGoesOn_13 rfl (lv_at hl 0 rfl) ?_
    refine gX4_trialBegan hx hb hts iw4 hown hK hP (List.mem_of_getElem? (i := 3) rfl) dX4_trialGoesOn_14 ?_
    refine lv_isub hx hb dX4_trialGoesOn_17 ?_
    refine z_istore_n hf hx hb (fun y => [(1, .int y), (0, .ref (a 0))]) dX4_trialGoesOn_18 rfl hl (by decide) (fun _ => rfl) (fun y_1 ls hf hl => ?_)
    refine lv_iload_n hx hb dX4_trialGoesOn_19 rfl (lv_at hl 0 rfl) ?_
    refine lv_iconst (v := (5 : Int32)) hx hb dX4_trialGoesOn_20 (by decide) ?_
    refine lv_icmp_ne (tgt := 45) hx hb dX4_trialGoesOn_21 (by decide) (fun h_2 => ?_) (fun h_2 => ?_)
    · have hf := zf h_2 hf
      refine lv_iload_n hx hb dX4_trialGoesOn_45 rfl (lv_at hl 0 rfl) ?_
      refine lv_bipush (v := (10 : Int32)) hx hb dX4_trialGoesOn_46 (by decide) ?_
      refine lv_icmp_ne (tgt := 64) hx hb dX4_trialGoesOn_48 (by decide) (fun h_3 => ?_) (fun h_3 => ?_)
      · have hf := zf h_3 hf
        exact zrv hf hQ hP hD hS dX4_trialGoesOn_64
      · have hf := zt h_3 hf
        refine lv_aload_n hx hb dX4_trialGoesOn_51 rfl (lv_at hl 1 rfl) ?_
        refine lv_aload_n hx hb dX4_trialGoesOn_52 rfl (lv_at hl 1 rfl) ?_
        refine gX4_trial hx hb hts iw4 hown hK hP (List.mem_of_getElem? (i := 1) rfl) dX4_trialGoesOn_53 ?_
        refine pX4_own hf hx hb hts iw4 hown hK hP hD hS (List.mem_of_getElem? (i := 5) rfl) dX4_trialGoesOn_56 (fun S_1 H locs hf hP hD hS => ?_)
        refine lv_aload_n hx hb dX4_trialGoesOn_59 rfl (lv_at hl 1 rfl) ?_
        refine lv_iconst (v := (-1 : Int32)) hx hb dX4_trialGoesOn_60 (by decide) ?_
        refine pX4_trial hf hx hb hts iw4 hown hK hP hD hS (List.mem_of_getElem? (i := 1) rfl) dX4_trialGoesOn_61 (fun S_2 H locs hf hP hD hS => ?_)
        exact zrv hf hQ hP hD hS dX4_trialGoesOn_64
    · have hf := zt h_2 hf
      refine lv_aload_n hx hb dX4_trialGoesOn_24 rfl (lv_at hl 1 rfl) ?_
      refine gX4_outbox hx hb hts iw4 hown hK hP (List.mem_of_getElem? (i := 4) rfl) dX4_trialGoesOn_25 ?_
      refine lv_iconst (v := (4 : Int32)) hx hb dX4_trialGoesOn_28 (by decide) ?_
      refine lv_aload_n hx hb dX4_trialGoesOn_29 rfl (lv_at hl 1 rfl) ?_
      refine gX4_trial hx hb hts iw4 hown hK hP (List.mem_of_getElem? (i := 1) rfl) dX4_trialGoesOn_30 ?_
      refine lv_iconst (v := (0 : Int32)) hx hb dX4_trialGoesOn_33 (by decide) ?_
      refine lv_iconst (v := (0 : Int32)) hx hb dX4_trialGoesOn_34 (by decide) ?_
      refine lv_aload_n hx hb dX4_trialGoesOn_35 rfl (lv_at hl 1 rfl) ?_
      refine gX4_clock hx hb hts iw4 hown hK hP (List.mem_of_getElem? (i := 2) rfl) dX4_trialGoesOn_36 ?_
      obtain ⟨S_3, hg_1, hf⟩ := obnv_some hf
      refine zcv (va_runVN (As := [.int (4 : Int32), .int (S.1 2), .int (0 : Int32), .int (0 : Int32), .int (S.1 0)]) (rest := []) hC (tX2_add hg_1) ⟨va_cnB 5 hts gX4_trialGoesOn_X2_add_n62 rfl rfl rfl (hN _ zN4) (hts _ (List.mem_of_getElem? (i := 7) rfl)) (by decide +kernel) ⟨Nat.le_of_ble_eq_true rfl, Nat.le_of_ble_eq_true rfl⟩, hts _ (List.mem_of_getElem? (i := 6) rfl), hts _ (List.mem_of_getElem? (i := 8) rfl)⟩ (zpV hP hK hD hN (rX_1 hK hP)) rfl rfl hl.1 rfl (lv_room (Nat.le_of_ble_eq_true rfl)) dX4_trialGoesOn_39 ⟨Nat.zero_le _, Nat.zero_le _⟩) hS (fun H locs hP hD hS => ?_)
      refine lv_goto (tgt := 64) hx hb dX4_trialGoesOn_42 (by decide) ?_
      exact zrv hf hQ hP hD hS dX4_trialGoesOn_64
  · have hf := zt h_1 hf
    exact zrv hf hQ hP hD hS dX4_trialGoesOn_8
theorem tX4_trialGoesOn {S : zS} {r : zS} (hf : fX4_trialGoesOn S = some r) : zMv l yX4_trialGoesOn wsX4_trialGoesOn rmX4_trialGoesOn D (zT cI cZ) A (wX a cI) [.ref (a 0)] S r :=
  zMv_of (by decide) rfl rfl (Nat.le_of_ble_eq_true rfl) (fun hC0 hQ hP hD hS _ hl => kX4_trialGoesOn hC0 hQ hf hP hD hS hl)
abbrev rmX4_solicitIfDue : Room := { frames := 1, cells := 0, slots := 0, locals := 26 }
theorem iwX4_solicitIfDue_4 : ∀ w ∈ wsX40, w ∈ wsX4_solicitIfDue := fun _ h => List.mem_cons_of_mem _ (List.mem_append_left _ (List.mem_append_right _ h))
theorem iwX4_solicitIfDue_2 : ∀ w ∈ wsX20, w ∈ wsX4_solicitIfDue := fun _ h => List.mem_cons_of_mem _ (List.mem_append_right _ h)
set_option maxHeartbeats 4000000 in
set_option maxRecDepth 100000 in
theorem kX4_solicitIfDue_22 {r : zS} (hC0 : zC p m c cX4_solicitIfDue 2 s args wsX4_solicitIfDue RX4 D cI cZ) (hQ : zRv p l e rmX4_solicitIfDue s m args below meth c cX4_solicitIfDue D A (wX a cI) Q r) {S : zS} {t0 : Int32} (hf : fX4_solicitIfDue_22 S t0 = some r) {H : Heap} {locs : List Loc} (hP : va_P D vwCl (wX a cI S) H) (hD : va_D A (wX a cI S)) (hS : va_S A s.heap H locs) {ls : Array Slot} (hl : lv_has ls 2 [(0, .ref (a 0))]) : W p l e rmX4_solicitIfDue s m args below meth c H locs 0 0 Q (F0 m 22 ls [.int t0]) := by
  obtain ⟨hC, hK, hN⟩ := id hC0
  obtain ⟨hx, hb, hml, hown, hts⟩ := id hC
  have iw4 := iwX4_solicitIfDue_4
  have iw2 := iwX4_solicitIfDue_2
  unfold fX4_solicitIfDue_22 at hf
  refine z_istore_n hf hx hb (fun y => [(1, .int y), (0, .ref (a 0))]) dX4_solicitIfDue_22 rfl hl (by decide) (fun _ => rfl) (fun y_1 ls hf hl => ?_)
  refine lv_iload_n hx hb dX4_solicitIfDue_23 rfl (lv_at hl 0 rfl) ?_
  refine lv_if_eq (tgt := 49) hx hb dX4_solicitIfDue_24 (by decide) (fun h_1 => ?_) (fun h_1 => ?_)
  · have hf := zt h_1 hf
    exact zrv hf hQ hP hD hS dX4_solicitIfDue_49
  · have hf := zf h_1 hf
    refine lv_aload_n hx hb dX4_solicitIfDue_27 rfl (lv_at hl 1 rfl) ?_
    refine gX4_routerWasTold hx hb hts iw4 hown hK hP (List.mem_of_getElem? (i := 2) rfl) dX4_solicitIfDue_28 ?_
    refine lv_if_ne (tgt := 49) hx hb dX4_solicitIfDue_31 (by decide) (fun h_2 => ?_) (fun h_2 => ?_)
    · have hf := zf h_2 hf
      exact zrv hf hQ hP hD hS dX4_solicitIfDue_49
    · have hf := zt h_2 hf
      refine lv_aload_n hx hb dX4_solicitIfDue_34 rfl (lv_at hl 1 rfl) ?_
      refine gX4_outbox hx hb hts iw4 hown hK hP (List.mem_of_getElem? (i := 3) rfl) dX4_solicitIfDue_35 ?_
      refine lv_iconst (v := (5 : Int32)) hx hb dX4_solicitIfDue_38 (by decide) ?_
      refine lv_iconst (v := (-1 : Int32)) hx hb dX4_solicitIfDue_39 (by decide) ?_
      refine lv_iconst (v := (0 : Int32)) hx hb dX4_solicitIfDue_40 (by decide) ?_
      refine lv_iconst (v := (0 : Int32)) hx hb dX4_solicitIfDue_41 (by decide) ?_
      refine lv_aload_n hx hb dX4_solicitIfDue_42 rfl (lv_at hl 1 rfl) ?_
      refine gX4_clock hx hb hts iw4 hown hK hP (List.mem_of_getElem? (i := 1) rfl) dX4_solicitIfDue_43 ?_
      obtain ⟨S_1, hg_1, hf⟩ := obnv_some hf
      refine zcv (va_runVN (As := [.int (5 : Int32), .int (-1 : Int32), .int (0 : Int32), .int (0 : Int32), .int (S.1 0)]) (rest := []) hC (tX2_add hg_1) ⟨va_cnB 5 hts gX4_solicitIfDue_X2_add_n62 rfl rfl rfl (hN _ zN4) (hts _ (List.mem_of_getElem? (i := 5) rfl)) (by decide +kernel) ⟨Nat.le_of_ble_eq_true rfl, Nat.le_of_ble_eq_true rfl⟩, hts _ (List.mem_of_getElem? (i := 4) rfl), hts _ (List.mem_of_getElem? (i := 6) rfl)⟩ (zpV hP hK hD hN (rX_1 hK hP)) rfl rfl hl.1 rfl (lv_room (Nat.le_of_ble_eq_true rfl)) dX4_solicitIfDue_46 ⟨Nat.zero_le _, Nat.zero_le _⟩) hS (fun H locs hP hD hS => ?_)
      exact zrv hf hQ hP hD hS dX4_solicitIfDue_49
set_option maxHeartbeats 4000000 in
set_option maxRecDepth 100000 in
theorem kX4_solicitIfDue_17 {r : zS} (hC0 : zC p m c cX4_solicitIfDue 2 s args wsX4_solicitIfDue RX4 D cI cZ) (hQ : zRv p l e rmX4_solicitIfDue s m args below meth c cX4_solicitIfDue D A (wX a cI) Q r) {S : zS} (hf : fX4_solicitIfDue_17 S = some r) {H : Heap} {locs : List Loc} (hP : va_P D vwCl (wX a cI S) H) (hD : va_D A (wX a cI S)) (hS : va_S A s.heap H locs) {ls : Array Slot} (hl : lv_has ls 2 [(0, .ref (a 0))]) : W p l e rmX4_solicitIfDue s m args below meth c H locs 0 0 Q (F0 m 17 ls []) := by
  obtain ⟨hC, hK, hN⟩ := id hC0
  obtain ⟨hx, hb, hml, hown, hts⟩ := id hC
  have iw4 := iwX4_solicitIfDue_4
  have iw2 := iwX4_solicitIfDue_2
  unfold fX4_solicitIfDue_17 at hf
  refine lv_iconst (v := (1 : Int32)) hx hb dX4_solicitIfDue_17 (by decide) ?_
  refine lv_goto (tgt := 22) hx hb dX4_solicitIfDue_18 (by decide) ?_
  exact kX4_solicitIfDue_22 hC0 hQ hf hP hD hS (lv_sub hl [0] rfl)
set_option maxHeartbeats 4000000 in
set_option maxRecDepth 100000 in
theorem kX4_solicitIfDue {r : zS} (hC0 : zC p m c cX4_solicitIfDue 2 s args wsX4_solicitIfDue RX4 D cI cZ) (hQ : zRv p l e rmX4_solicitIfDue s m args below meth c cX4_solicitIfDue D A (wX a cI) Q r) {S : zS} (hf : fX4_solicitIfDue S = some r) {H : Heap} {locs : List Loc} (hP : va_P D vwCl (wX a cI S) H) (hD : va_D A (wX a cI S)) (hS : va_S A s.heap H locs) {ls : Array Slot} (hl : lv_has ls 2 [(0, .ref (a 0))]) : W p l e rmX4_solicitIfDue s m args below meth c H locs 0 0 Q (F0 m 0 ls []) := by
  obtain ⟨hC, hK, hN⟩ := id hC0
  obtain ⟨hx, hb, hml, hown, hts⟩ := id hC
  have iw4 := iwX4_solicitIfDue_4
  have iw2 := iwX4_solicitIfDue_2
  unfold fX4_solicitIfDue at hf
  refine lv_aload_n hx hb dX4_solicitIfDue_0 rfl (lv_at hl 0 rfl) ?_
  refine gX4_clock hx hb hts iw4 hown hK hP (List.mem_of_getElem? (i := 1) rfl) dX4_solicitIfDue_1 ?_
  refine lv_iconst (v := (4 : Int32)) hx hb dX4_solicitIfDue_4 (by decide) ?_
  refine lv_icmp_eq (tgt := 17) hx hb dX4_solicitIfDue_5 (by decide) (fun h_1 => ?_) (fun h_1 => ?_)
  · have hf := zt h_1 hf
    exact kX4_solicitIfDue_17 hC0 hQ hf hP hD hS (lv_sub hl [0] rfl)
  · have hf := zf h_1 hf
    refine lv_aload_n hx hb dX4_solicitIfDue_8 rfl (lv_at hl 0 rfl) ?_
    refine gX4_clock hx hb hts iw4 hown hK hP (List.mem_of_getElem? (i := 1) rfl) dX4_solicitIfDue_9 ?_
    refine lv_bipush (v := (8 : Int32)) hx hb dX4_solicitIfDue_12 (by decide) ?_
    refine lv_icmp_ne (tgt := 21) hx hb dX4_solicitIfDue_14 (by decide) (fun h_2 => ?_) (fun h_2 => ?_)
    · have hf := zf h_2 hf
      refine lv_iconst (v := (0 : Int32)) hx hb dX4_solicitIfDue_21 (by decide) ?_
      exact kX4_solicitIfDue_22 hC0 hQ hf hP hD hS (lv_sub hl [0] rfl)
    · have hf := zt h_2 hf
      exact kX4_solicitIfDue_17 hC0 hQ hf hP hD hS (lv_sub hl [0] rfl)
theorem tX4_solicitIfDue {S : zS} {r : zS} (hf : fX4_solicitIfDue S = some r) : zMv l yX4_solicitIfDue wsX4_solicitIfDue rmX4_solicitIfDue D (zT cI cZ) A (wX a cI) [.ref (a 0)] S r :=
  zMv_of (by decide) rfl rfl (Nat.le_of_ble_eq_true rfl) (fun hC0 hQ hP hD hS _ hl => kX4_solicitIfDue hC0 hQ hf hP hD hS hl)
abbrev rmX4_tickPasses : Room := { frames := 5, cells := 0, slots := 0, locals := 109 }
theorem iwX4_tickPasses_4 : ∀ w ∈ wsX40, w ∈ wsX4_tickPasses := fun _ h => List.mem_cons_of_mem _ (List.mem_append_left _ (List.mem_append_left _ (List.mem_append_left _ (List.mem_append_left _ (List.mem_append_right _ h)))))
theorem iwX4_tickPasses_0 : ∀ w ∈ wsX00, w ∈ wsX4_tickPasses := fun _ h => List.mem_cons_of_mem _ (List.mem_append_left _ (List.mem_append_left _ (List.mem_append_left _ (List.mem_append_right _ h))))
theorem iwX4_tickPasses_2 : ∀ w ∈ wsX20, w ∈ wsX4_tickPasses := fun _ h => List.mem_cons_of_mem _ (List.mem_append_left _ (List.mem_append_left _ (List.mem_append_right _ h)))
theorem iwX4_tickPasses_1 : ∀ w ∈ wsX10, w ∈ wsX4_tickPasses := fun _ h => List.mem_cons_of_mem _ (List.mem_append_left _ (List.mem_append_right _ h))
theorem iwX4_tickPasses_3 : ∀ w ∈ wsX30, w ∈ wsX4_tickPasses := fun _ h => List.mem_cons_of_mem _ (List.mem_append_right _ h)
set_option maxHeartbeats 4000000 in
set_option maxRecDepth 100000 in
theorem kX4_tickPasses {r : zS} (hC0 : zC p m c cX4_tickPasses 1 s args wsX4_tickPasses RX4 D cI cZ) (hQ : zRv p l e rmX4_tickPasses s m args below meth c cX4_tickPasses D A (wX a cI) Q r) {S : zS} (hf : fX4_tickPasses S = some r) {H : Heap} {locs : List Loc} (hP : va_P D vwCl (wX a cI S) H) (hD : va_D A (wX a cI S)) (hS : va_S A s.heap H locs) {ls : Array Slot} (hl : lv_has ls 1 [(0, .ref (a 0))]) : W p l e rmX4_tickPasses s m args below meth c H locs 0 0 Q (F0 m 0 ls []) := by
  obtain ⟨hC, hK, hN⟩ := id hC0
  obtain ⟨hx, hb, hml, hown, hts⟩ := id hC
  have iw4 := iwX4_tickPasses_4
  have iw0 := iwX4_tickPasses_0
  have iw2 := iwX4_tickPasses_2
  have iw1 := iwX4_tickPasses_1
  have iw3 := iwX4_tickPasses_3
  unfold fX4_tickPasses at hf
  refine lv_aload_n hx hb dX4_tickPasses_0 rfl (lv_at hl 0 rfl) ?_
  refine lv_dup hx hb dX4_tickPasses_1 rfl ?_
  refine gX4_clock hx hb hts iw4 hown hK hP (List.mem_of_getElem? (i := 1) rfl) dX4_tickPasses_2 ?_
  refine lv_iconst (v := (1 : Int32)) hx hb dX4_tickPasses_5 (by decide) ?_
  refine lv_iadd hx hb dX4_tickPasses_6 ?_
  refine pX4_clock hf hx hb hts iw4 hown hK hP hD hS (List.mem_of_getElem? (i := 1) rfl) dX4_tickPasses_7 (fun S_1 H locs hf hP hD hS => ?_)
  refine lv_aload_n hx hb dX4_tickPasses_10 rfl (lv_at hl 0 rfl) ?_
  refine gX4_entries hx hb hts iw4 hown hK hP (List.mem_of_getElem? (i := 2) rfl) dX4_tickPasses_11 ?_
  refine lv_aload_n hx hb dX4_tickPasses_14 rfl (lv_at hl 0 rfl) ?_
  refine gX4_clock hx hb hts iw4 hown hK hP (List.mem_of_getElem? (i := 1) rfl) dX4_tickPasses_15 ?_
  obtain ⟨S_2, hg_1, hf⟩ := obnv_some hf
  refine zcv (va_runVN (As := [.int (S_1.1 0)]) (rest := []) hC (tX0_endThoseOf hg_1) ⟨va_cnB 1 hts gX4_tickPasses_X0_endThoseOf_n69 rfl rfl rfl (hN _ zN5) (hts _ (List.mem_of_getElem? (i := 5) rfl)) (by decide +kernel) ⟨Nat.le_of_ble_eq_true rfl, Nat.le_of_ble_eq_true rfl⟩, hts _ (List.mem_of_getElem? (i := 4) rfl), hts _ (List.mem_of_getElem? (i := 6) rfl)⟩ (zpV hP hK hD hN (rX_6 hK hP)) rfl rfl hl.1 rfl (lv_room (Nat.le_of_ble_eq_true rfl)) dX4_tickPasses_18 ⟨Nat.zero_le _, Nat.zero_le _⟩) hS (fun H locs hP hD hS => ?_)
  refine lv_aload_n hx hb dX4_tickPasses_21 rfl (lv_at hl 0 rfl) ?_
  refine gX4_routers hx hb hts iw4 hown hK hP (List.mem_of_getElem? (i := 3) rfl) dX4_tickPasses_22 ?_
  refine lv_aload_n hx hb dX4_tickPasses_25 rfl (lv_at hl 0 rfl) ?_
  refine gX4_clock hx hb hts iw4 hown hK hP (List.mem_of_getElem? (i := 1) rfl) dX4_tickPasses_26 ?_
  obtain ⟨S_3, hg_2, hf⟩ := obnv_some hf
  refine zcv (va_runVN (As := [.int (S_2.1 0)]) (rest := []) hC (tX3_endThoseOf hg_2) ⟨va_cnB 1 hts gX4_tickPasses_X3_endThoseOf_n73 rfl rfl rfl (hN _ zN8) (hts _ (List.mem_of_getElem? (i := 67) rfl)) (by decide +kernel) ⟨Nat.le_of_ble_eq_true rfl, Nat.le_of_ble_eq_true rfl⟩, hts _ (List.mem_of_getElem? (i := 66) rfl), hts _ (List.mem_of_getElem? (i := 68) rfl)⟩ (zpV hP hK hD hN (rX_14 hK hP)) rfl rfl hl.1 rfl (lv_room (Nat.le_of_ble_eq_true rfl)) dX4_tickPasses_29 ⟨Nat.zero_le _, Nat.zero_le _⟩) hS (fun H locs hP hD hS => ?_)
  refine lv_aload_n hx hb dX4_tickPasses_32 rfl (lv_at hl 0 rfl) ?_
  obtain ⟨S_4, hg_3, hf⟩ := obnv_some hf
  refine zcv (va_runV (As := []) (rest := []) hC (tX4_trialGoesOn hg_3) (cwV 0 hts gX4_tickPasses_X4_trialGoesOn rfl rfl rfl (by decide +kernel) ⟨Nat.le_of_ble_eq_true rfl, Nat.le_of_ble_eq_true rfl⟩) (zpV hP hK hD hN (rX_0 hK hP)) rfl rfl hl.1 rfl (lv_room (Nat.le_of_ble_eq_true rfl)) dX4_tickPasses_33 ⟨Nat.zero_le _, Nat.zero_le _⟩) hS (fun H locs hP hD hS => ?_)
  refine lv_aload_n hx hb dX4_tickPasses_36 rfl (lv_at hl 0 rfl) ?_
  obtain ⟨S_5, hg_4, hf⟩ := obnv_some hf
  refine zcv (va_runV (As := []) (rest := []) hC (tX4_solicitIfDue hg_4) (cwV 0 hts gX4_tickPasses_X4_solicitIfDue rfl rfl rfl (by decide +kernel) ⟨Nat.le_of_ble_eq_true rfl, Nat.le_of_ble_eq_true rfl⟩) (zpV hP hK hD hN (rX_0 hK hP)) rfl rfl hl.1 rfl (lv_room (Nat.le_of_ble_eq_true rfl)) dX4_tickPasses_37 ⟨Nat.zero_le _, Nat.zero_le _⟩) hS (fun H locs hP hD hS => ?_)
  exact zrv hf hQ hP hD hS dX4_tickPasses_40
theorem tX4_tickPasses {S : zS} {r : zS} (hf : fX4_tickPasses S = some r) : zMv l yX4_tickPasses wsX4_tickPasses rmX4_tickPasses D (zT cI cZ) A (wX a cI) [.ref (a 0)] S r :=
  zMv_of (by decide) rfl rfl (Nat.le_of_ble_eq_true rfl) (fun hC0 hQ hP hD hS _ hl => kX4_tickPasses hC0 hQ hf hP hD hS hl)
abbrev rmX4_pass : Room := { frames := 6, cells := 0, slots := 0, locals := 129 }
theorem iwX4_pass_4 : ∀ w ∈ wsX40, w ∈ wsX4_pass := fun _ h => List.mem_cons_of_mem _ (List.mem_append_left _ (List.mem_append_left _ (List.mem_append_left _ (List.mem_append_left _ (List.mem_append_right _ h)))))
theorem iwX4_pass_0 : ∀ w ∈ wsX00, w ∈ wsX4_pass := fun _ h => List.mem_cons_of_mem _ (List.mem_append_left _ (List.mem_append_left _ (List.mem_append_left _ (List.mem_append_right _ h))))
theorem iwX4_pass_2 : ∀ w ∈ wsX20, w ∈ wsX4_pass := fun _ h => List.mem_cons_of_mem _ (List.mem_append_left _ (List.mem_append_left _ (List.mem_append_right _ h)))
theorem iwX4_pass_1 : ∀ w ∈ wsX10, w ∈ wsX4_pass := fun _ h => List.mem_cons_of_mem _ (List.mem_append_left _ (List.mem_append_right _ h))
theorem iwX4_pass_3 : ∀ w ∈ wsX30, w ∈ wsX4_pass := fun _ h => List.mem_cons_of_mem _ (List.mem_append_right _ h)
set_option maxHeartbeats 4000000 in
set_option maxRecDepth 100000 in
theorem kX4_pass_16b {r : Int32 × zS} (hC0 : zC p m c cX4_pass 3 s args wsX4_pass RX4 D cI cZ) (hQ : zRi p l e rmX4_pass s m args below meth c cX4_pass D A (wX a cI) Q r) {F16 : zS → Int32 → Int32 → Option (Int32 × zS)} (hF16 : ∀ (S : zS) (x1 : Int32) (x2 : Int32), F16 S x1 x2 = some r → ∀ {H : Heap} {locs : List Loc}, va_P D vwCl (wX a cI S) H → va_D A (wX a cI S) → va_S A s.heap H locs → ∀ {ls : Array Slot}, lv_has ls 3 [(0, .ref (a 0)), (1, .int x1), (2, .int x2)] → W p l e rmX4_pass s m args below meth c H locs 0 0 Q (F0 m 16 ls [])) {S : zS} {x1 : Int32} {x2 : Int32} (hf : bX4_pass_16 F16 S x1 x2 = some r) {H : Heap} {locs : List Loc} (hP : va_P D vwCl (wX a cI S) H) (hD : va_D A (wX a cI S)) (hS : va_S A s.heap H locs) {ls : Array Slot} (hl : lv_has ls 3 [(0, .ref (a 0)), (1, .int x1), (2, .int x2)]) : W p l e rmX4_pass s m args below meth c H locs 0 0 Q (F0 m 16 ls []) := by
  obtain ⟨hC, hK, hN⟩ := id hC0
  obtain ⟨hx, hb, hml, hown, hts⟩ := id hC
  have iw4 := iwX4_pass_4
  have iw0 := iwX4_pass_0
  have iw2 := iwX4_pass_2
  have iw1 := iwX4_pass_1
  have iw3 := iwX4_pass_3
  unfold bX4_pass_16 at hf
  refine lv_iload_n hx hb dX4_pass_16 rfl (lv_at hl 2 rfl) ?_
  refine lv_iload_n hx hb dX4_pass_17 rfl (lv_at hl 1 rfl) ?_
  refine lv_icmp_ge (tgt := 31) hx hb dX4_pass_18 (by decide) (fun h_1 => ?_) (fun h_1 => ?_)
  · have hf := zt h_1 hf
    refine lv_aload_n hx hb dX4_pass_31 rfl (lv_at hl 0 rfl) ?_
    refine gX4_clock hx hb hts iw4 hown hK hP (List.mem_of_getElem? (i := 1) rfl) dX4_pass_32 ?_
    exact zri hf hQ hP hD hS dX4_pass_35
  · have hf := zf h_1 hf
    refine lv_aload_n hx hb dX4_pass_21 rfl (lv_at hl 0 rfl) ?_
    obtain ⟨S_1, hg_1, hf⟩ := obnv_some hf
    refine zcv (va_runV (As := []) (rest := []) hC (tX4_tickPasses hg_1) (cwV 0 hts gX4_pass_X4_tickPasses rfl rfl rfl (by decide +kernel) ⟨Nat.le_of_ble_eq_true rfl, Nat.le_of_ble_eq_true rfl⟩) (zpV hP hK hD hN (rX_0 hK hP)) rfl rfl hl.1 rfl (lv_room (Nat.le_of_ble_eq_true rfl)) dX4_pass_22 ⟨Nat.zero_le _, Nat.zero_le _⟩) hS (fun H locs hP hD hS => ?_)
    refine z_iinc hf hx hb 2 (fun y => [(2, .int y), (0, .ref (a 0)), (1, .int x1)]) dX4_pass_25 hl rfl (by decide) (by decide) (fun _ => rfl) (fun y_1 ls hf hl => ?_)
    refine lv_goto (tgt := 16) hx hb dX4_pass_28 (by decide) ?_
    exact hF16 _ _ _ hf hP hD hS (lv_sub hl [1, 2, 0] rfl)
theorem kX4_pass_16 {r : Int32 × zS} (hC0 : zC p m c cX4_pass 3 s args wsX4_pass RX4 D cI cZ) (hQ : zRi p l e rmX4_pass s m args below meth c cX4_pass D A (wX a cI) Q r) (n : Nat) : ∀ (S : zS) (x1 : Int32) (x2 : Int32), fX4_pass_16 n S x1 x2 = some r → ∀ {H : Heap} {locs : List Loc}, va_P D vwCl (wX a cI S) H → va_D A (wX a cI S) → va_S A s.heap H locs → ∀ {ls : Array Slot}, lv_has ls 3 [(0, .ref (a 0)), (1, .int x1), (2, .int x2)] → W p l e rmX4_pass s m args below meth c H locs 0 0 Q (F0 m 16 ls []) := by
  induction n with
  | zero => intro S x1 x2 hf; cases hf
  | succ n ih => intro S x1 x2 hf; exact kX4_pass_16b hC0 hQ ih hf
set_option maxHeartbeats 4000000 in
set_option maxRecDepth 100000 in
theorem kX4_pass {r : Int32 × zS} (hC0 : zC p m c cX4_pass 3 s args wsX4_pass RX4 D cI cZ) (hQ : zRi p l e rmX4_pass s m args below meth c cX4_pass D A (wX a cI) Q r) {S : zS} {x1 : Int32} (hf : fX4_pass S x1 = some r) {H : Heap} {locs : List Loc} (hP : va_P D vwCl (wX a cI S) H) (hD : va_D A (wX a cI S)) (hS : va_S A s.heap H locs) {ls : Array Slot} (hl : lv_has ls 3 [(0, .ref (a 0)), (1, .int x1)]) : W p l e rmX4_pass s m args below meth c H locs 0 0 Q (F0 m 0 ls []) := by
  obtain ⟨hC, hK, hN⟩ := id hC0
  obtain ⟨hx, hb, hml, hown, hts⟩ := id hC
  have iw4 := iwX4_pass_4
  have iw0 := iwX4_pass_0
  have iw2 := iwX4_pass_2
  have iw1 := iwX4_pass_1
  have iw3 := iwX4_pass_3
  unfold fX4_pass at hf
  refine lv_iload_n hx hb dX4_pass_0 rfl (lv_at hl 1 rfl) ?_
  refine lv_iconst (v := (1 : Int32)) hx hb dX4_pass_1 (by decide) ?_
  refine lv_icmp_lt (tgt := 11) hx hb dX4_pass_2 (by decide) (fun h_1 => ?_) (fun h_1 => ?_)
  · have hf := zt h_1 hf
    refine lv_bipush (v := (-102 : Int32)) hx hb dX4_pass_11 (by decide) ?_
    exact zri hf hQ hP hD hS dX4_pass_13
  · have hf := zf h_1 hf
    refine lv_iload_n hx hb dX4_pass_5 rfl (lv_at hl 1 rfl) ?_
    refine lv_bipush (v := (60 : Int32)) hx hb dX4_pass_6 (by decide) ?_
    refine lv_icmp_le (tgt := 14) hx hb dX4_pass_8 (by decide) (fun h_2 => ?_) (fun h_2 => ?_)
    · have hf := zt h_2 hf
      refine lv_iconst (v := (0 : Int32)) hx hb dX4_pass_14 (by decide) ?_
      refine z_istore_n hf hx hb (fun y => [(2, .int y), (0, .ref (a 0)), (1, .int x1)]) dX4_pass_15 rfl hl (by decide) (fun _ => rfl) (fun y_1 ls hf hl => ?_)
      exact kX4_pass_16 hC0 hQ 64 _ _ _ hf hP hD hS (lv_sub hl [1, 2, 0] rfl)
    · have hf := zf h_2 hf
      refine lv_bipush (v := (-102 : Int32)) hx hb dX4_pass_11 (by decide) ?_
      exact zri hf hQ hP hD hS dX4_pass_13
theorem tX4_pass {S : zS} {x1 : Int32} {r : Int32 × zS} (hf : fX4_pass S x1 = some r) : zMi l yX4_pass wsX4_pass rmX4_pass D (zT cI cZ) A (wX a cI) [.ref (a 0), .int x1] S r :=
  zMi_of (by decide) rfl rfl (Nat.le_of_ble_eq_true rfl) (fun hC0 hQ hP hD hS _ hl => kX4_pass hC0 hQ hf hP hD hS hl)
abbrev rmX4_isAddress : Room := { frames := 0, cells := 0, slots := 0, locals := 0 }
set_option maxHeartbeats 4000000 in
set_option maxRecDepth 100000 in
theorem kX4_isAddress {r : Int32 × zS} (hC0 : zC p m c cX4_isAddress 1 s args wsX4_isAddress RX4 D cI cZ) (hQ : zRz p l e rmX4_isAddress s m args below meth c cX4_isAddress D A (wX a cI) Q r) {S : zS} {x0 : Int32} (hf : fX4_isAddress S x0 = some r) {H : Heap} {locs : List Loc} (hP : va_P D vwCl (wX a cI S) H) (hD : va_D A (wX a cI S)) (hS : va_S A s.heap H locs) {ls : Array Slot} (hl : lv_has ls 1 [(0, .int x0)]) : W p l e rmX4_isAddress s m args below meth c H locs 0 0 Q (F0 m 0 ls []) := by
  obtain ⟨hC, hK, hN⟩ := id hC0
  obtain ⟨hx, hb, hml, hown, hts⟩ := id hC
  unfold fX4_isAddress at hf
  refine lv_iload_n hx hb dX4_isAddress_0 rfl (lv_at hl 0 rfl) ?_
  refine lv_if_lt (tgt := 14) hx hb dX4_isAddress_1 (by decide) (fun h_1 => ?_) (fun h_1 => ?_)
  · have hf := zt h_1 hf
    refine lv_iconst (v := (0 : Int32)) hx hb dX4_isAddress_14 (by decide) ?_
    exact zrz hf (Or.inl rfl) hQ hP hD hS dX4_isAddress_15
  · have hf := zf h_1 hf
    refine lv_iload_n hx hb dX4_isAddress_4 rfl (lv_at hl 0 rfl) ?_
    refine lv_bipush (v := (16 : Int32)) hx hb dX4_isAddress_5 (by decide) ?_
    refine lv_icmp_ge (tgt := 14) hx hb dX4_isAddress_7 (by decide) (fun h_2 => ?_) (fun h_2 => ?_)
    · have hf := zt h_2 hf
      refine lv_iconst (v := (0 : Int32)) hx hb dX4_isAddress_14 (by decide) ?_
      exact zrz hf (Or.inl rfl) hQ hP hD hS dX4_isAddress_15
    · have hf := zf h_2 hf
      refine lv_iconst (v := (1 : Int32)) hx hb dX4_isAddress_10 (by decide) ?_
      refine lv_goto (tgt := 15) hx hb dX4_isAddress_11 (by decide) ?_
      exact zrz hf (Or.inr rfl) hQ hP hD hS dX4_isAddress_15
theorem tX4_isAddress {S : zS} {x0 : Int32} {r : Int32 × zS} (hf : fX4_isAddress S x0 = some r) : zMi l yX4_isAddress wsX4_isAddress rmX4_isAddress D (zT cI cZ) A (wX a cI) [.int x0] S r :=
  zMz_of (by decide) rfl rfl (Nat.le_of_ble_eq_true rfl) (fun hC0 hQ hP hD hS _ hl => kX4_isAddress hC0 hQ hf hP hD hS hl)
abbrev rmX4_isLetter : Room := { frames := 0, cells := 0, slots := 0, locals := 0 }
set_option maxHeartbeats 4000000 in
set_option maxRecDepth 100000 in
theorem kX4_isLetter {r : Int32 × zS} (hC0 : zC p m c cX4_isLetter 1 s args wsX4_isLetter RX4 D cI cZ) (hQ : zRz p l e rmX4_isLetter s m args below meth c cX4_isLetter D A (wX a cI) Q r) {S : zS} {x0 : Int32} (hf : fX4_isLetter S x0 = some r) {H : Heap} {locs : List Loc} (hP : va_P D vwCl (wX a cI S) H) (hD : va_D A (wX a cI S)) (hS : va_S A s.heap H locs) {ls : Array Slot} (hl : lv_has ls 1 [(0, .int x0)]) : W p l e rmX4_isLetter s m args below meth c H locs 0 0 Q (F0 m 0 ls []) := by
  obtain ⟨hC, hK, hN⟩ := id hC0
  obtain ⟨hx, hb, hml, hown, hts⟩ := id hC
  unfold fX4_isLetter at hf
  refine lv_iload_n hx hb dX4_isLetter_0 rfl (lv_at hl 0 rfl) ?_
  refine lv_iconst (v := (1 : Int32)) hx hb dX4_isLetter_1 (by decide) ?_
  refine lv_icmp_lt (tgt := 16) hx hb dX4_isLetter_2 (by decide) (fun h_1 => ?_) (fun h_1 => ?_)
  · have hf := zt h_1 hf
    refine lv_iconst (v := (0 : Int32)) hx hb dX4_isLetter_16 (by decide) ?_
    exact zrz hf (Or.inl rfl) hQ hP hD hS dX4_isLetter_17
  · have hf := zf h_1 hf
    refine lv_iload_n hx hb dX4_isLetter_5 rfl (lv_at hl 0 rfl) ?_
    refine lv_sipush (v := (999 : Int32)) hx hb dX4_isLetter_6 (by decide) ?_
    refine lv_icmp_gt (tgt := 16) hx hb dX4_isLetter_9 (by decide) (fun h_2 => ?_) (fun h_2 => ?_)
    · have hf := zt h_2 hf
      refine lv_iconst (v := (0 : Int32)) hx hb dX4_isLetter_16 (by decide) ?_
      exact zrz hf (Or.inl rfl) hQ hP hD hS dX4_isLetter_17
    · have hf := zf h_2 hf
      refine lv_iconst (v := (1 : Int32)) hx hb dX4_isLetter_12 (by decide) ?_
      refine lv_goto (tgt := 17) hx hb dX4_isLetter_13 (by decide) ?_
      exact zrz hf (Or.inr rfl) hQ hP hD hS dX4_isLetter_17
theorem tX4_isLetter {S : zS} {x0 : Int32} {r : Int32 × zS} (hf : fX4_isLetter S x0 = some r) : zMi l yX4_isLetter wsX4_isLetter rmX4_isLetter D (zT cI cZ) A (wX a cI) [.int x0] S r :=
  zMz_of (by decide) rfl rfl (Nat.le_of_ble_eq_true rfl) (fun hC0 hQ hP hD hS _ hl => kX4_isLetter hC0 hQ hf hP hD hS hl)
abbrev rmX4_isOwnOrTrial : Room := { frames := 0, cells := 0, slots := 0, locals := 0 }
theorem iwX4_isOwnOrTrial_4 : ∀ w ∈ wsX40, w ∈ wsX4_isOwnOrTrial := fun _ h => List.mem_cons_of_mem _ (List.mem_append_right _ h)
set_option maxHeartbeats 4000000 in
set_option maxRecDepth 100000 in
theorem kX4_isOwnOrTrial_16 {r : Int32 × zS} (hC0 : zC p m c cX4_isOwnOrTrial 2 s args wsX4_isOwnOrTrial RX4 D cI cZ) (hQ : zRz p l e rmX4_isOwnOrTrial s m args below meth c cX4_isOwnOrTrial D A (wX a cI) Q r) {S : zS} (hf : fX4_isOwnOrTrial_16 S = some r) {H : Heap} {locs : List Loc} (hP : va_P D vwCl (wX a cI S) H) (hD : va_D A (wX a cI S)) (hS : va_S A s.heap H locs) {ls : Array Slot} (hl : lv_has ls 2 []) : W p l e rmX4_isOwnOrTrial s m args below meth c H locs 0 0 Q (F0 m 16 ls []) := by
  obtain ⟨hC, hK, hN⟩ := id hC0
  obtain ⟨hx, hb, hml, hown, hts⟩ := id hC
  have iw4 := iwX4_isOwnOrTrial_4
  unfold fX4_isOwnOrTrial_16 at hf
  refine lv_iconst (v := (1 : Int32)) hx hb dX4_isOwnOrTrial_16 (by decide) ?_
  refine lv_goto (tgt := 21) hx hb dX4_isOwnOrTrial_17 (by decide) ?_
  exact zrz hf (Or.inr rfl) hQ hP hD hS dX4_isOwnOrTrial_21
set_option maxHeartbeats 4000000 in
set_option maxRecDepth 100000 in
theorem kX4_isOwnOrTrial {r : Int32 × zS} (hC0 : zC p m c cX4_isOwnOrTrial 2 s args wsX4_isOwnOrTrial RX4 D cI cZ) (hQ : zRz p l e rmX4_isOwnOrTrial s m args below meth c cX4_isOwnOrTrial D A (wX a cI) Q r) {S : zS} {x1 : Int32} (hf : fX4_isOwnOrTrial S x1 = some r) {H : Heap} {locs : List Loc} (hP : va_P D vwCl (wX a cI S) H) (hD : va_D A (wX a cI S)) (hS : va_S A s.heap H locs) {ls : Array Slot} (hl : lv_has ls 2 [(0, .ref (a 0)), (1, .int x1)]) : W p l e rmX4_isOwnOrTrial s m args below meth c H locs 0 0 Q (F0 m 0 ls []) := by
  obtain ⟨hC, hK, hN⟩ := id hC0
  obtain ⟨hx, hb, hml, hown, hts⟩ := id hC
  have iw4 := iwX4_isOwnOrTrial_4
  unfold fX4_isOwnOrTrial at hf
  refine lv_iload_n hx hb dX4_isOwnOrTrial_0 rfl (lv_at hl 1 rfl) ?_
  refine lv_aload_n hx hb dX4_isOwnOrTrial_1 rfl (lv_at hl 0 rfl) ?_
  refine gX4_own hx hb hts iw4 hown hK hP (List.mem_of_getElem? (i := 1) rfl) dX4_isOwnOrTrial_2 ?_
  refine lv_icmp_eq (tgt := 16) hx hb dX4_isOwnOrTrial_5 (by decide) (fun h_1 => ?_) (fun h_1 => ?_)
  · have hf := zt h_1 hf
    exact kX4_isOwnOrTrial_16 hC0 hQ hf hP hD hS (lv_sub hl [] rfl)
  · have hf := zf h_1 hf
    refine lv_iload_n hx hb dX4_isOwnOrTrial_8 rfl (lv_at hl 1 rfl) ?_
    refine lv_aload_n hx hb dX4_isOwnOrTrial_9 rfl (lv_at hl 0 rfl) ?_
    refine gX4_trial hx hb hts iw4 hown hK hP (List.mem_of_getElem? (i := 2) rfl) dX4_isOwnOrTrial_10 ?_
    refine lv_icmp_ne (tgt := 20) hx hb dX4_isOwnOrTrial_13 (by decide) (fun h_2 => ?_) (fun h_2 => ?_)
    · have hf := zf h_2 hf
      refine lv_iconst (v := (0 : Int32)) hx hb dX4_isOwnOrTrial_20 (by decide) ?_
      exact zrz hf (Or.inl rfl) hQ hP hD hS dX4_isOwnOrTrial_21
    · have hf := zt h_2 hf
      exact kX4_isOwnOrTrial_16 hC0 hQ hf hP hD hS (lv_sub hl [] rfl)
theorem tX4_isOwnOrTrial {S : zS} {x1 : Int32} {r : Int32 × zS} (hf : fX4_isOwnOrTrial S x1 = some r) : zMi l yX4_isOwnOrTrial wsX4_isOwnOrTrial rmX4_isOwnOrTrial D (zT cI cZ) A (wX a cI) [.ref (a 0), .int x1] S r :=
  zMz_of (by decide) rfl rfl (Nat.le_of_ble_eq_true rfl) (fun hC0 hQ hP hD hS _ hl => kX4_isOwnOrTrial hC0 hQ hf hP hD hS hl)
abbrev rmX4_send : Room := { frames := 5, cells := 0, slots := 0, locals := 112 }
theorem iwX4_send_4 : ∀ w ∈ wsX40, w ∈ wsX4_send := fun _ h => List.mem_cons_of_mem _ (List.mem_append_left _ (List.mem_append_left _ (List.mem_append_left _ (List.mem_append_right _ h))))
theorem iwX4_send_0 : ∀ w ∈ wsX00, w ∈ wsX4_send := fun _ h => List.mem_cons_of_mem _ (List.mem_append_left _ (List.mem_append_left _ (List.mem_append_right _ h)))
theorem iwX4_send_1 : ∀ w ∈ wsX10, w ∈ wsX4_send := fun _ h => List.mem_cons_of_mem _ (List.mem_append_left _ (List.mem_append_right _ h))
theorem iwX4_send_2 : ∀ w ∈ wsX20, w ∈ wsX4_send := fun _ h => List.mem_cons_of_mem _ (List.mem_append_right _ h)
set_option maxHeartbeats 4000000 in
set_option maxRecDepth 100000 in
theorem kX4_send {r : Int32 × zS} (hC0 : zC p m c cX4_send 3 s args wsX4_send RX4 D cI cZ) (hQ : zRi p l e rmX4_send s m args below meth c cX4_send D A (wX a cI) Q r) {S : zS} {x1 : Int32} {x2 : Int32} (hf : fX4_send S x1 x2 = some r) {H : Heap} {locs : List Loc} (hP : va_P D vwCl (wX a cI S) H) (hD : va_D A (wX a cI S)) (hS : va_S A s.heap H locs) {ls : Array Slot} (hl : lv_has ls 3 [(0, .ref (a 0)), (1, .int x1), (2, .int x2)]) : W p l e rmX4_send s m args below meth c H locs 0 0 Q (F0 m 0 ls []) := by
  obtain ⟨hC, hK, hN⟩ := id hC0
  obtain ⟨hx, hb, hml, hown, hts⟩ := id hC
  have iw4 := iwX4_send_4
  have iw0 := iwX4_send_0
  have iw1 := iwX4_send_1
  have iw2 := iwX4_send_2
  unfold fX4_send at hf
  refine lv_iload_n hx hb dX4_send_0 rfl (lv_at hl 1 rfl) ?_
  obtain ⟨y_1, S_1, hg_1, hf⟩ := obnd_some hf
  refine zci (va_runS (As := [.int x1]) (rest := []) hC (tX4_isAddress hg_1) (va_cwS 1 hts gX4_send_X4_isAddress rfl rfl rfl (by decide +kernel) ⟨Nat.le_of_ble_eq_true rfl, Nat.le_of_ble_eq_true rfl⟩) (zpS hP hK hD hN) rfl rfl hl.1 rfl (lv_room (Nat.le_of_ble_eq_true rfl)) dX4_send_1 ⟨Nat.zero_le _, Nat.zero_le _⟩) hS (fun H locs hP hD hS => ?_)
  refine lv_if_eq (tgt := 14) hx hb dX4_send_4 (by decide) (fun h_1 => ?_) (fun h_1 => ?_)
  · have hf := zt h_1 hf
    refine lv_bipush (v := (-102 : Int32)) hx hb dX4_send_14 (by decide) ?_
    exact zri hf hQ hP hD hS dX4_send_16
  · have hf := zf h_1 hf
    refine lv_iload_n hx hb dX4_send_7 rfl (lv_at hl 2 rfl) ?_
    obtain ⟨y_2, S_2, hg_2, hf⟩ := obnd_some hf
    refine zci (va_runS (As := [.int x2]) (rest := []) hC (tX4_isLetter hg_2) (va_cwS 1 hts gX4_send_X4_isLetter rfl rfl rfl (by decide +kernel) ⟨Nat.le_of_ble_eq_true rfl, Nat.le_of_ble_eq_true rfl⟩) (zpS hP hK hD hN) rfl rfl hl.1 rfl (lv_room (Nat.le_of_ble_eq_true rfl)) dX4_send_8 ⟨Nat.zero_le _, Nat.zero_le _⟩) hS (fun H locs hP hD hS => ?_)
    refine lv_if_ne (tgt := 17) hx hb dX4_send_11 (by decide) (fun h_2 => ?_) (fun h_2 => ?_)
    · have hf := zf h_2 hf
      refine lv_aload_n hx hb dX4_send_17 rfl (lv_at hl 0 rfl) ?_
      refine lv_iload_n hx hb dX4_send_18 rfl (lv_at hl 1 rfl) ?_
      obtain ⟨y_3, S_3, hg_3, hf⟩ := obnd_some hf
      refine zci (va_runV (As := [.int x1]) (rest := []) hC (tX4_isOwnOrTrial hg_3) (cwV 1 hts gX4_send_X4_isOwnOrTrial rfl rfl rfl (by decide +kernel) ⟨Nat.le_of_ble_eq_true rfl, Nat.le_of_ble_eq_true rfl⟩) (zpV hP hK hD hN (rX_0 hK hP)) rfl rfl hl.1 rfl (lv_room (Nat.le_of_ble_eq_true rfl)) dX4_send_19 ⟨Nat.zero_le _, Nat.zero_le _⟩) hS (fun H locs hP hD hS => ?_)
      refine lv_if_eq (tgt := 28) hx hb dX4_send_22 (by decide) (fun h_3 => ?_) (fun h_3 => ?_)
      · have hf := zt h_3 hf
        refine lv_aload_n hx hb dX4_send_28 rfl (lv_at hl 0 rfl) ?_
        refine gX4_entries hx hb hts iw4 hown hK hP (List.mem_of_getElem? (i := 1) rfl) dX4_send_29 ?_
        refine lv_iload_n hx hb dX4_send_32 rfl (lv_at hl 1 rfl) ?_
        refine lv_iload_n hx hb dX4_send_33 rfl (lv_at hl 2 rfl) ?_
        refine lv_aload_n hx hb dX4_send_34 rfl (lv_at hl 0 rfl) ?_
        refine gX4_clock hx hb hts iw4 hown hK hP (List.mem_of_getElem? (i := 2) rfl) dX4_send_35 ?_
        obtain ⟨y_4, S_4, hg_4, hf⟩ := obnd_some hf
        refine zci (va_runVN (As := [.int x1, .int x2, .int (S_3.1 0)]) (rest := []) hC (tX0_takeLetter hg_4) ⟨va_cnB 3 hts gX4_send_X0_takeLetter_n90 rfl rfl rfl (hN _ zN9) (hts _ (List.mem_of_getElem? (i := 17) rfl)) (by decide +kernel) ⟨Nat.le_of_ble_eq_true rfl, Nat.le_of_ble_eq_true rfl⟩, hts _ (List.mem_of_getElem? (i := 16) rfl), hts _ (List.mem_of_getElem? (i := 18) rfl)⟩ (zpV hP hK hD hN (rX_6 hK hP)) rfl rfl hl.1 rfl (lv_room (Nat.le_of_ble_eq_true rfl)) dX4_send_38 ⟨Nat.zero_le _, Nat.zero_le _⟩) hS (fun H locs hP hD hS => ?_)
        exact zri hf hQ hP hD hS dX4_send_41
      · have hf := zf h_3 hf
        refine lv_bipush (v := (-103 : Int32)) hx hb dX4_send_25 (by decide) ?_
        exact zri hf hQ hP hD hS dX4_send_27
    · have hf := zt h_2 hf
      refine lv_bipush (v := (-102 : Int32)) hx hb dX4_send_14 (by decide) ?_
      exact zri hf hQ hP hD hS dX4_send_16
theorem tX4_send {S : zS} {x1 : Int32} {x2 : Int32} {r : Int32 × zS} (hf : fX4_send S x1 x2 = some r) : zMi l yX4_send wsX4_send rmX4_send D (zT cI cZ) A (wX a cI) [.ref (a 0), .int x1, .int x2] S r :=
  zMi_of (by decide) rfl rfl (Nat.le_of_ble_eq_true rfl) (fun hC0 hQ hP hD hS _ hl => kX4_send hC0 hQ hf hP hD hS hl)
abbrev rmX4_isGoal : Room := { frames := 0, cells := 0, slots := 0, locals := 0 }
set_option maxHeartbeats 4000000 in
set_option maxRecDepth 100000 in
theorem kX4_isGoal {r : Int32 × zS} (hC0 : zC p m c cX4_isGoal 1 s args wsX4_isGoal RX4 D cI cZ) (hQ : zRz p l e rmX4_isGoal s m args below meth c cX4_isGoal D A (wX a cI) Q r) {S : zS} {x0 : Int32} (hf : fX4_isGoal S x0 = some r) {H : Heap} {locs : List Loc} (hP : va_P D vwCl (wX a cI S) H) (hD : va_D A (wX a cI S)) (hS : va_S A s.heap H locs) {ls : Array Slot} (hl : lv_has ls 1 [(0, .int x0)]) : W p l e rmX4_isGoal s m args below meth c H locs 0 0 Q (F0 m 0 ls []) := by
  obtain ⟨hC, hK, hN⟩ := id hC0
  obtain ⟨hx, hb, hml, hown, hts⟩ := id hC
  unfold fX4_isGoal at hf
  refine lv_iload_n hx hb dX4_isGoal_0 rfl (lv_at hl 0 rfl) ?_
  refine lv_bipush (v := (16 : Int32)) hx hb dX4_isGoal_1 (by decide) ?_
  refine lv_icmp_lt (tgt := 16) hx hb dX4_isGoal_3 (by decide) (fun h_1 => ?_) (fun h_1 => ?_)
  · have hf := zt h_1 hf
    refine lv_iconst (v := (0 : Int32)) hx hb dX4_isGoal_16 (by decide) ?_
    exact zrz hf (Or.inl rfl) hQ hP hD hS dX4_isGoal_17
  · have hf := zf h_1 hf
    refine lv_iload_n hx hb dX4_isGoal_6 rfl (lv_at hl 0 rfl) ?_
    refine lv_bipush (v := (47 : Int32)) hx hb dX4_isGoal_7 (by decide) ?_
    refine lv_icmp_gt (tgt := 16) hx hb dX4_isGoal_9 (by decide) (fun h_2 => ?_) (fun h_2 => ?_)
    · have hf := zt h_2 hf
      refine lv_iconst (v := (0 : Int32)) hx hb dX4_isGoal_16 (by decide) ?_
      exact zrz hf (Or.inl rfl) hQ hP hD hS dX4_isGoal_17
    · have hf := zf h_2 hf
      refine lv_iconst (v := (1 : Int32)) hx hb dX4_isGoal_12 (by decide) ?_
      refine lv_goto (tgt := 17) hx hb dX4_isGoal_13 (by decide) ?_
      exact zrz hf (Or.inr rfl) hQ hP hD hS dX4_isGoal_17
theorem tX4_isGoal {S : zS} {x0 : Int32} {r : Int32 × zS} (hf : fX4_isGoal S x0 = some r) : zMi l yX4_isGoal wsX4_isGoal rmX4_isGoal D (zT cI cZ) A (wX a cI) [.int x0] S r :=
  zMz_of (by decide) rfl rfl (Nat.le_of_ble_eq_true rfl) (fun hC0 hQ hP hD hS _ hl => kX4_isGoal hC0 hQ hf hP hD hS hl)
abbrev rmX4_sureHopOf : Room := { frames := 4, cells := 0, slots := 0, locals := 92 }
theorem iwX4_sureHopOf_4 : ∀ w ∈ wsX40, w ∈ wsX4_sureHopOf := fun _ h => List.mem_cons_of_mem _ (List.mem_append_left _ (List.mem_append_left _ (List.mem_append_left _ (List.mem_append_right _ h))))
theorem iwX4_sureHopOf_1 : ∀ w ∈ wsX10, w ∈ wsX4_sureHopOf := fun _ h => List.mem_cons_of_mem _ (List.mem_append_left _ (List.mem_append_left _ (List.mem_append_right _ h)))
theorem iwX4_sureHopOf_3 : ∀ w ∈ wsX30, w ∈ wsX4_sureHopOf := fun _ h => List.mem_cons_of_mem _ (List.mem_append_left _ (List.mem_append_right _ h))
theorem iwX4_sureHopOf_0 : ∀ w ∈ wsX00, w ∈ wsX4_sureHopOf := fun _ h => List.mem_cons_of_mem _ (List.mem_append_right _ h)
set_option maxHeartbeats 4000000 in
set_option maxRecDepth 100000 in
theorem kX4_sureHopOf {r : Int32 × zS} (hC0 : zC p m c cX4_sureHopOf 3 s args wsX4_sureHopOf RX4 D cI cZ) (hQ : zRi p l e rmX4_sureHopOf s m args below meth c cX4_sureHopOf D A (wX a cI) Q r) {S : zS} {x1 : Int32} (hf : fX4_sureHopOf S x1 = some r) {H : Heap} {locs : List Loc} (hP : va_P D vwCl (wX a cI S) H) (hD : va_D A (wX a cI S)) (hS : va_S A s.heap H locs) {ls : Array Slot} (hl : lv_has ls 3 [(0, .ref (a 0)), (1, .int x1)]) : W p l e rmX4_sureHopOf s m args below meth c H locs 0 0 Q (F0 m 0 ls []) := by
  obtain ⟨hC, hK, hN⟩ := id hC0
  obtain ⟨hx, hb, hml, hown, hts⟩ := id hC
  have iw4 := iwX4_sureHopOf_4
  have iw1 := iwX4_sureHopOf_1
  have iw3 := iwX4_sureHopOf_3
  have iw0 := iwX4_sureHopOf_0
  unfold fX4_sureHopOf at hf
  refine lv_aload_n hx hb dX4_sureHopOf_0 rfl (lv_at hl 0 rfl) ?_
  refine gX4_kept hx hb hts iw4 hown hK hP (List.mem_of_getElem? (i := 1) rfl) dX4_sureHopOf_1 ?_
  refine lv_iload_n hx hb dX4_sureHopOf_4 rfl (lv_at hl 1 rfl) ?_
  obtain ⟨y_1, S_1, hg_1, hf⟩ := obnd_some hf
  refine zci (va_runVN (As := [.int x1]) (rest := []) hC (tX1_hopOf hg_1) ⟨va_cnB 1 hts gX4_sureHopOf_X1_hopOf_n173 rfl rfl rfl (hN _ zN10) (hts _ (List.mem_of_getElem? (i := 5) rfl)) (by decide +kernel) ⟨Nat.le_of_ble_eq_true rfl, Nat.le_of_ble_eq_true rfl⟩, hts _ (List.mem_of_getElem? (i := 4) rfl), hts _ (List.mem_of_getElem? (i := 6) rfl)⟩ (zpV hP hK hD hN (rX_3 hK hP)) rfl rfl hl.1 rfl (lv_room (Nat.le_of_ble_eq_true rfl)) dX4_sureHopOf_5 ⟨Nat.zero_le _, Nat.zero_le _⟩) hS (fun H locs hP hD hS => ?_)
  refine z_istore_n hf hx hb (fun y => [(2, .int y), (0, .ref (a 0)), (1, .int x1)]) dX4_sureHopOf_8 rfl hl (by decide) (fun _ => rfl) (fun y_2 ls hf hl => ?_)
  refine lv_iload_n hx hb dX4_sureHopOf_9 rfl (lv_at hl 0 rfl) ?_
  refine lv_iconst (v := (-1 : Int32)) hx hb dX4_sureHopOf_10 (by decide) ?_
  refine lv_icmp_ne (tgt := 28) hx hb dX4_sureHopOf_11 (by decide) (fun h_1 => ?_) (fun h_1 => ?_)
  · have hf := zf h_1 hf
    refine lv_iload_n hx hb dX4_sureHopOf_28 rfl (lv_at hl 0 rfl) ?_
    exact zri hf hQ hP hD hS dX4_sureHopOf_29
  · have hf := zt h_1 hf
    refine lv_aload_n hx hb dX4_sureHopOf_14 rfl (lv_at hl 1 rfl) ?_
    refine gX4_routers hx hb hts iw4 hown hK hP (List.mem_of_getElem? (i := 2) rfl) dX4_sureHopOf_15 ?_
    refine lv_aload_n hx hb dX4_sureHopOf_18 rfl (lv_at hl 1 rfl) ?_
    refine gX4_entries hx hb hts iw4 hown hK hP (List.mem_of_getElem? (i := 3) rfl) dX4_sureHopOf_19 ?_
    obtain ⟨y_3, S_2, hg_2, hf⟩ := obnd_some hf
    refine zci (va_runVN (As := [.ref (a 6)]) (rest := []) hC (tX3_firstGood hg_2) ⟨va_cnB 1 hts gX4_sureHopOf_X3_firstGood_n176 rfl rfl rfl (hN _ zN11) (hts _ (List.mem_of_getElem? (i := 16) rfl)) (by decide +kernel) ⟨Nat.le_of_ble_eq_true rfl, Nat.le_of_ble_eq_true rfl⟩, hts _ (List.mem_of_getElem? (i := 15) rfl), hts _ (List.mem_of_getElem? (i := 17) rfl)⟩ (zpV hP hK hD hN (rX_14 hK hP)) rfl rfl hl.1 rfl (lv_room (Nat.le_of_ble_eq_true rfl)) dX4_sureHopOf_22 ⟨Nat.zero_le _, Nat.zero_le _⟩) hS (fun H locs hP hD hS => ?_)
    refine lv_goto (tgt := 29) hx hb dX4_sureHopOf_25 (by decide) ?_
    exact zri hf hQ hP hD hS dX4_sureHopOf_29
theorem tX4_sureHopOf {S : zS} {x1 : Int32} {r : Int32 × zS} (hf : fX4_sureHopOf S x1 = some r) : zMi l yX4_sureHopOf wsX4_sureHopOf rmX4_sureHopOf D (zT cI cZ) A (wX a cI) [.ref (a 0), .int x1] S r :=
  zMi_of (by decide) rfl rfl (Nat.le_of_ble_eq_true rfl) (fun hC0 hQ hP hD hS _ hl => kX4_sureHopOf hC0 hQ hf hP hD hS hl)
abbrev rmX4_nextInTurn : Room := { frames := 1, cells := 0, slots := 0, locals := 24 }
theorem iwX4_nextInTurn_4 : ∀ w ∈ wsX40, w ∈ wsX4_nextInTurn := fun _ h => List.mem_cons_of_mem _ (List.mem_append_left _ (List.mem_append_right _ h))
theorem iwX4_nextInTurn_3 : ∀ w ∈ wsX30, w ∈ wsX4_nextInTurn := fun _ h => List.mem_cons_of_mem _ (List.mem_append_right _ h)
set_option maxHeartbeats 4000000 in
set_option maxRecDepth 100000 in
theorem kX4_nextInTurn {r : Int32 × zS} (hC0 : zC p m c cX4_nextInTurn 2 s args wsX4_nextInTurn RX4 D cI cZ) (hQ : zRi p l e rmX4_nextInTurn s m args below meth c cX4_nextInTurn D A (wX a cI) Q r) {S : zS} (hf : fX4_nextInTurn S = some r) {H : Heap} {locs : List Loc} (hP : va_P D vwCl (wX a cI S) H) (hD : va_D A (wX a cI S)) (hS : va_S A s.heap H locs) {ls : Array Slot} (hl : lv_has ls 2 [(0, .ref (a 0))]) : W p l e rmX4_nextInTurn s m args below meth c H locs 0 0 Q (F0 m 0 ls []) := by
  obtain ⟨hC, hK, hN⟩ := id hC0
  obtain ⟨hx, hb, hml, hown, hts⟩ := id hC
  have iw4 := iwX4_nextInTurn_4
  have iw3 := iwX4_nextInTurn_3
  unfold fX4_nextInTurn at hf
  refine lv_aload_n hx hb dX4_nextInTurn_0 rfl (lv_at hl 0 rfl) ?_
  refine gX4_routers hx hb hts iw4 hown hK hP (List.mem_of_getElem? (i := 1) rfl) dX4_nextInTurn_1 ?_
  refine lv_aload_n hx hb dX4_nextInTurn_4 rfl (lv_at hl 0 rfl) ?_
  refine gX4_lastInTurn hx hb hts iw4 hown hK hP (List.mem_of_getElem? (i := 2) rfl) dX4_nextInTurn_5 ?_
  obtain ⟨y_1, S_1, hg_1, hf⟩ := obnd_some hf
  refine zci (va_runVN (As := [.int (S.1 5)]) (rest := []) hC (tX3_leastAbove hg_1) ⟨va_cnB 1 hts gX4_nextInTurn_X3_leastAbove_n180 rfl rfl rfl (hN _ zN13) (hts _ (List.mem_of_getElem? (i := 4) rfl)) (by decide +kernel) ⟨Nat.le_of_ble_eq_true rfl, Nat.le_of_ble_eq_true rfl⟩, hts _ (List.mem_of_getElem? (i := 3) rfl), hts _ (List.mem_of_getElem? (i := 5) rfl)⟩ (zpV hP hK hD hN (rX_14 hK hP)) rfl rfl hl.1 rfl (lv_room (Nat.le_of_ble_eq_true rfl)) dX4_nextInTurn_8 ⟨Nat.zero_le _, Nat.zero_le _⟩) hS (fun H locs hP hD hS => ?_)
  refine z_istore_n hf hx hb (fun y => [(1, .int y), (0, .ref (a 0))]) dX4_nextInTurn_11 rfl hl (by decide) (fun _ => rfl) (fun y_2 ls hf hl => ?_)
  refine lv_iload_n hx hb dX4_nextInTurn_12 rfl (lv_at hl 0 rfl) ?_
  refine lv_iconst (v := (-1 : Int32)) hx hb dX4_nextInTurn_13 (by decide) ?_
  refine lv_icmp_ne (tgt := 28) hx hb dX4_nextInTurn_14 (by decide) (fun h_1 => ?_) (fun h_1 => ?_)
  · have hf := zf h_1 hf
    refine lv_iload_n hx hb dX4_nextInTurn_28 rfl (lv_at hl 0 rfl) ?_
    exact zri hf hQ hP hD hS dX4_nextInTurn_29
  · have hf := zt h_1 hf
    refine lv_aload_n hx hb dX4_nextInTurn_17 rfl (lv_at hl 1 rfl) ?_
    refine gX4_routers hx hb hts iw4 hown hK hP (List.mem_of_getElem? (i := 1) rfl) dX4_nextInTurn_18 ?_
    refine lv_iconst (v := (-1 : Int32)) hx hb dX4_nextInTurn_21 (by decide) ?_
    obtain ⟨y_3, S_2, hg_2, hf⟩ := obnd_some hf
    refine zci (va_runVN (As := [.int (-1 : Int32)]) (rest := []) hC (tX3_leastAbove hg_2) ⟨va_cnB 1 hts gX4_nextInTurn_X3_leastAbove_n180 rfl rfl rfl (hN _ zN13) (hts _ (List.mem_of_getElem? (i := 4) rfl)) (by decide +kernel) ⟨Nat.le_of_ble_eq_true rfl, Nat.le_of_ble_eq_true rfl⟩, hts _ (List.mem_of_getElem? (i := 3) rfl), hts _ (List.mem_of_getElem? (i := 5) rfl)⟩ (zpV hP hK hD hN (rX_14 hK hP)) rfl rfl hl.1 rfl (lv_room (Nat.le_of_ble_eq_true rfl)) dX4_nextInTurn_22 ⟨Nat.zero_le _, Nat.zero_le _⟩) hS (fun H locs hP hD hS => ?_)
    refine lv_goto (tgt := 29) hx hb dX4_nextInTurn_25 (by decide) ?_
    exact zri hf hQ hP hD hS dX4_nextInTurn_29
theorem tX4_nextInTurn {S : zS} {r : Int32 × zS} (hf : fX4_nextInTurn S = some r) : zMi l yX4_nextInTurn wsX4_nextInTurn rmX4_nextInTurn D (zT cI cZ) A (wX a cI) [.ref (a 0)] S r :=
  zMi_of (by decide) rfl rfl (Nat.le_of_ble_eq_true rfl) (fun hC0 hQ hP hD hS _ hl => kX4_nextInTurn hC0 hQ hf hP hD hS hl)
abbrev rmX4_route : Room := { frames := 5, cells := 0, slots := 0, locals := 114 }
theorem iwX4_route_4 : ∀ w ∈ wsX40, w ∈ wsX4_route := fun _ h => List.mem_cons_of_mem _ (List.mem_append_left _ (List.mem_append_left _ (List.mem_append_left _ (List.mem_append_left _ (List.mem_append_right _ h)))))
theorem iwX4_route_1 : ∀ w ∈ wsX10, w ∈ wsX4_route := fun _ h => List.mem_cons_of_mem _ (List.mem_append_left _ (List.mem_append_left _ (List.mem_append_left _ (List.mem_append_right _ h))))
theorem iwX4_route_3 : ∀ w ∈ wsX30, w ∈ wsX4_route := fun _ h => List.mem_cons_of_mem _ (List.mem_append_left _ (List.mem_append_left _ (List.mem_append_right _ h)))
theorem iwX4_route_0 : ∀ w ∈ wsX00, w ∈ wsX4_route := fun _ h => List.mem_cons_of_mem _ (List.mem_append_left _ (List.mem_append_right _ h))
theorem iwX4_route_2 : ∀ w ∈ wsX20, w ∈ wsX4_route := fun _ h => List.mem_cons_of_mem _ (List.mem_append_right _ h)
set_option maxHeartbeats 4000000 in
set_option maxRecDepth 100000 in
theorem kX4_route_36 {r : Int32 × zS} (hC0 : zC p m c cX4_route 6 s args wsX4_route RX4 D cI cZ) (hQ : zRi p l e rmX4_route s m args below meth c cX4_route D A (wX a cI) Q r) {S : zS} {x2 : Int32} {x3 : Int32} {t0 : Int32} (hf : fX4_route_36 S x2 x3 t0 = some r) {H : Heap} {locs : List Loc} (hP : va_P D vwCl (wX a cI S) H) (hD : va_D A (wX a cI S)) (hS : va_S A s.heap H locs) {ls : Array Slot} (hl : lv_has ls 6 [(0, .ref (a 0)), (2, .int x2), (3, .int x3)]) : W p l e rmX4_route s m args below meth c H locs 0 0 Q (F0 m 36 ls [.int t0]) := by
  obtain ⟨hC, hK, hN⟩ := id hC0
  obtain ⟨hx, hb, hml, hown, hts⟩ := id hC
  have iw4 := iwX4_route_4
  have iw1 := iwX4_route_1
  have iw3 := iwX4_route_3
  have iw0 := iwX4_route_0
  have iw2 := iwX4_route_2
  unfold fX4_route_36 at hf
  refine z_istore hf hx hb (fun y => [(4, .int y), (0, .ref (a 0)), (2, .int x2), (3, .int x3)]) dX4_route_36 hl (by decide) (fun _ => rfl) (fun y_1 ls hf hl => ?_)
  refine lv_iload hx hb dX4_route_38 (lv_at hl 0 rfl) ?_
  refine lv_iconst (v := (-1 : Int32)) hx hb dX4_route_40 (by decide) ?_
  refine lv_icmp_ne (tgt := 47) hx hb dX4_route_41 (by decide) (fun h_1 => ?_) (fun h_1 => ?_)
  · have hf := zf h_1 hf
    refine lv_aload_n hx hb dX4_route_47 rfl (lv_at hl 1 rfl) ?_
    refine gX4_entries hx hb hts iw4 hown hK hP (List.mem_of_getElem? (i := 1) rfl) dX4_route_48 ?_
    refine lv_iload hx hb dX4_route_51 (lv_at hl 0 rfl) ?_
    refine lv_iload_n hx hb dX4_route_53 rfl (lv_at hl 2 rfl) ?_
    refine lv_aload_n hx hb dX4_route_54 rfl (lv_at hl 1 rfl) ?_
    refine gX4_clock hx hb hts iw4 hown hK hP (List.mem_of_getElem? (i := 2) rfl) dX4_route_55 ?_
    obtain ⟨y_2, S_1, hg_1, hf⟩ := obnd_some hf
    refine zci (va_runVN (As := [.int y_1, .int x2, .int (S.1 0)]) (rest := []) hC (tX0_takeLetter hg_1) ⟨va_cnB 3 hts gX4_route_X0_takeLetter_n90 rfl rfl rfl (hN _ zN9) (hts _ (List.mem_of_getElem? (i := 44) rfl)) (by decide +kernel) ⟨Nat.le_of_ble_eq_true rfl, Nat.le_of_ble_eq_true rfl⟩, hts _ (List.mem_of_getElem? (i := 59) rfl), hts _ (List.mem_of_getElem? (i := 60) rfl)⟩ (zpV hP hK hD hN (rX_6 hK hP)) rfl rfl hl.1 rfl (lv_room (Nat.le_of_ble_eq_true rfl)) dX4_route_58 ⟨Nat.zero_le _, Nat.zero_le _⟩) hS (fun H locs hP hD hS => ?_)
    refine z_istore hf hx hb (fun y => [(5, .int y), (4, .int y_1), (0, .ref (a 0)), (2, .int x2), (3, .int x3)]) dX4_route_61 hl (by decide) (fun _ => rfl) (fun y_3 ls hf hl => ?_)
    refine lv_iload hx hb dX4_route_63 (lv_at hl 0 rfl) ?_
    refine lv_bipush (v := (-104 : Int32)) hx hb dX4_route_65 (by decide) ?_
    refine lv_icmp_eq (tgt := 81) hx hb dX4_route_67 (by decide) (fun h_2 => ?_) (fun h_2 => ?_)
    · have hf := zt h_2 hf
      refine lv_iload hx hb dX4_route_81 (lv_at hl 0 rfl) ?_
      exact zri hf hQ hP hD hS dX4_route_83
    · have hf := zf h_2 hf
      refine lv_iload_n hx hb dX4_route_70 rfl (lv_at hl 4 rfl) ?_
      refine lv_iconst (v := (-1 : Int32)) hx hb dX4_route_71 (by decide) ?_
      refine lv_icmp_ne (tgt := 81) hx hb dX4_route_72 (by decide) (fun h_3 => ?_) (fun h_3 => ?_)
      · have hf := zf h_3 hf
        refine lv_iload hx hb dX4_route_81 (lv_at hl 0 rfl) ?_
        exact zri hf hQ hP hD hS dX4_route_83
      · have hf := zt h_3 hf
        refine lv_aload_n hx hb dX4_route_75 rfl (lv_at hl 2 rfl) ?_
        refine lv_iload hx hb dX4_route_76 (lv_at hl 1 rfl) ?_
        refine pX4_lastInTurn hf hx hb hts iw4 hown hK hP hD hS (List.mem_of_getElem? (i := 3) rfl) dX4_route_78 (fun S_2 H locs hf hP hD hS => ?_)
        refine lv_iload hx hb dX4_route_81 (lv_at hl 0 rfl) ?_
        exact zri hf hQ hP hD hS dX4_route_83
  · have hf := zt h_1 hf
    refine lv_bipush (v := (-103 : Int32)) hx hb dX4_route_44 (by decide) ?_
    exact zri hf hQ hP hD hS dX4_route_46
set_option maxHeartbeats 4000000 in
set_option maxRecDepth 100000 in
theorem kX4_route {r : Int32 × zS} (hC0 : zC p m c cX4_route 6 s args wsX4_route RX4 D cI cZ) (hQ : zRi p l e rmX4_route s m args below meth c cX4_route D A (wX a cI) Q r) {S : zS} {x1 : Int32} {x2 : Int32} (hf : fX4_route S x1 x2 = some r) {H : Heap} {locs : List Loc} (hP : va_P D vwCl (wX a cI S) H) (hD : va_D A (wX a cI S)) (hS : va_S A s.heap H locs) {ls : Array Slot} (hl : lv_has ls 6 [(0, .ref (a 0)), (1, .int x1), (2, .int x2)]) : W p l e rmX4_route s m args below meth c H locs 0 0 Q (F0 m 0 ls []) := by
  obtain ⟨hC, hK, hN⟩ := id hC0
  obtain ⟨hx, hb, hml, hown, hts⟩ := id hC
  have iw4 := iwX4_route_4
  have iw1 := iwX4_route_1
  have iw3 := iwX4_route_3
  have iw0 := iwX4_route_0
  have iw2 := iwX4_route_2
  unfold fX4_route at hf
  refine lv_iload_n hx hb dX4_route_0 rfl (lv_at hl 1 rfl) ?_
  obtain ⟨y_1, S_1, hg_1, hf⟩ := obnd_some hf
  refine zci (va_runS (As := [.int x1]) (rest := []) hC (tX4_isGoal hg_1) (va_cwS 1 hts gX4_route_X4_isGoal rfl rfl rfl (by decide +kernel) ⟨Nat.le_of_ble_eq_true rfl, Nat.le_of_ble_eq_true rfl⟩) (zpS hP hK hD hN) rfl rfl hl.1 rfl (lv_room (Nat.le_of_ble_eq_true rfl)) dX4_route_1 ⟨Nat.zero_le _, Nat.zero_le _⟩) hS (fun H locs hP hD hS => ?_)
  refine lv_if_eq (tgt := 14) hx hb dX4_route_4 (by decide) (fun h_1 => ?_) (fun h_1 => ?_)
  · have hf := zt h_1 hf
    refine lv_bipush (v := (-102 : Int32)) hx hb dX4_route_14 (by decide) ?_
    exact zri hf hQ hP hD hS dX4_route_16
  · have hf := zf h_1 hf
    refine lv_iload_n hx hb dX4_route_7 rfl (lv_at hl 2 rfl) ?_
    obtain ⟨y_2, S_2, hg_2, hf⟩ := obnd_some hf
    refine zci (va_runS (As := [.int x2]) (rest := []) hC (tX4_isLetter hg_2) (va_cwS 1 hts gX4_route_X4_isLetter rfl rfl rfl (by decide +kernel) ⟨Nat.le_of_ble_eq_true rfl, Nat.le_of_ble_eq_true rfl⟩) (zpS hP hK hD hN) rfl rfl hl.1 rfl (lv_room (Nat.le_of_ble_eq_true rfl)) dX4_route_8 ⟨Nat.zero_le _, Nat.zero_le _⟩) hS (fun H locs hP hD hS => ?_)
    refine lv_if_ne (tgt := 17) hx hb dX4_route_11 (by decide) (fun h_2 => ?_) (fun h_2 => ?_)
    · have hf := zf h_2 hf
      refine lv_aload_n hx hb dX4_route_17 rfl (lv_at hl 0 rfl) ?_
      refine lv_iload_n hx hb dX4_route_18 rfl (lv_at hl 1 rfl) ?_
      obtain ⟨y_3, S_3, hg_3, hf⟩ := obnd_some hf
      refine zci (va_runV (As := [.int x1]) (rest := []) hC (tX4_sureHopOf hg_3) (cwV 1 hts gX4_route_X4_sureHopOf rfl rfl rfl (by decide +kernel) ⟨Nat.le_of_ble_eq_true rfl, Nat.le_of_ble_eq_true rfl⟩) (zpV hP hK hD hN (rX_0 hK hP)) rfl rfl hl.1 rfl (lv_room (Nat.le_of_ble_eq_true rfl)) dX4_route_19 ⟨Nat.zero_le _, Nat.zero_le _⟩) hS (fun H locs hP hD hS => ?_)
      refine z_istore_n hf hx hb (fun y => [(3, .int y), (0, .ref (a 0)), (1, .int x1), (2, .int x2)]) dX4_route_22 rfl hl (by decide) (fun _ => rfl) (fun y_4 ls hf hl => ?_)
      refine lv_iload_n hx hb dX4_route_23 rfl (lv_at hl 0 rfl) ?_
      refine lv_iconst (v := (-1 : Int32)) hx hb dX4_route_24 (by decide) ?_
      refine lv_icmp_ne (tgt := 35) hx hb dX4_route_25 (by decide) (fun h_3 => ?_) (fun h_3 => ?_)
      · have hf := zf h_3 hf
        refine lv_iload_n hx hb dX4_route_35 rfl (lv_at hl 0 rfl) ?_
        exact kX4_route_36 hC0 hQ hf hP hD hS (lv_sub hl [1, 3, 0] rfl)
      · have hf := zt h_3 hf
        refine lv_aload_n hx hb dX4_route_28 rfl (lv_at hl 1 rfl) ?_
        obtain ⟨y_5, S_4, hg_4, hf⟩ := obnd_some hf
        refine zci (va_runV (As := []) (rest := []) hC (tX4_nextInTurn hg_4) (cwV 0 hts gX4_route_X4_nextInTurn rfl rfl rfl (by decide +kernel) ⟨Nat.le_of_ble_eq_true rfl, Nat.le_of_ble_eq_true rfl⟩) (zpV hP hK hD hN (rX_0 hK hP)) rfl rfl hl.1 rfl (lv_room (Nat.le_of_ble_eq_true rfl)) dX4_route_29 ⟨Nat.zero_le _, Nat.zero_le _⟩) hS (fun H locs hP hD hS => ?_)
        refine lv_goto (tgt := 36) hx hb dX4_route_32 (by decide) ?_
        exact kX4_route_36 hC0 hQ hf hP hD hS (lv_sub hl [1, 3, 0] rfl)
    · have hf := zt h_2 hf
      refine lv_bipush (v := (-102 : Int32)) hx hb dX4_route_14 (by decide) ?_
      exact zri hf hQ hP hD hS dX4_route_16
theorem tX4_route {S : zS} {x1 : Int32} {x2 : Int32} {r : Int32 × zS} (hf : fX4_route S x1 x2 = some r) : zMi l yX4_route wsX4_route rmX4_route D (zT cI cZ) A (wX a cI) [.ref (a 0), .int x1, .int x2] S r :=
  zMi_of (by decide) rfl rfl (Nat.le_of_ble_eq_true rfl) (fun hC0 hQ hP hD hS _ hl => kX4_route hC0 hQ hf hP hD hS hl)
abbrev rmX4_hint : Room := { frames := 3, cells := 0, slots := 0, locals := 67 }
theorem iwX4_hint_4 : ∀ w ∈ wsX40, w ∈ wsX4_hint := fun _ h => List.mem_cons_of_mem _ (List.mem_append_left _ (List.mem_append_right _ h))
theorem iwX4_hint_0 : ∀ w ∈ wsX00, w ∈ wsX4_hint := fun _ h => List.mem_cons_of_mem _ (List.mem_append_right _ h)
set_option maxHeartbeats 4000000 in
set_option maxRecDepth 100000 in
theorem kX4_hint {r : Int32 × zS} (hC0 : zC p m c cX4_hint 2 s args wsX4_hint RX4 D cI cZ) (hQ : zRi p l e rmX4_hint s m args below meth c cX4_hint D A (wX a cI) Q r) {S : zS} {x1 : Int32} (hf : fX4_hint S x1 = some r) {H : Heap} {locs : List Loc} (hP : va_P D vwCl (wX a cI S) H) (hD : va_D A (wX a cI S)) (hS : va_S A s.heap H locs) {ls : Array Slot} (hl : lv_has ls 2 [(0, .ref (a 0)), (1, .int x1)]) : W p l e rmX4_hint s m args below meth c H locs 0 0 Q (F0 m 0 ls []) := by
  obtain ⟨hC, hK, hN⟩ := id hC0
  obtain ⟨hx, hb, hml, hown, hts⟩ := id hC
  have iw4 := iwX4_hint_4
  have iw0 := iwX4_hint_0
  unfold fX4_hint at hf
  refine lv_iload_n hx hb dX4_hint_0 rfl (lv_at hl 1 rfl) ?_
  obtain ⟨y_1, S_1, hg_1, hf⟩ := obnd_some hf
  refine zci (va_runS (As := [.int x1]) (rest := []) hC (tX4_isAddress hg_1) (va_cwS 1 hts gX4_hint_X4_isAddress rfl rfl rfl (by decide +kernel) ⟨Nat.le_of_ble_eq_true rfl, Nat.le_of_ble_eq_true rfl⟩) (zpS hP hK hD hN) rfl rfl hl.1 rfl (lv_room (Nat.le_of_ble_eq_true rfl)) dX4_hint_1 ⟨Nat.zero_le _, Nat.zero_le _⟩) hS (fun H locs hP hD hS => ?_)
  refine lv_if_ne (tgt := 10) hx hb dX4_hint_4 (by decide) (fun h_1 => ?_) (fun h_1 => ?_)
  · have hf := zf h_1 hf
    refine lv_aload_n hx hb dX4_hint_10 rfl (lv_at hl 0 rfl) ?_
    refine gX4_entries hx hb hts iw4 hown hK hP (List.mem_of_getElem? (i := 1) rfl) dX4_hint_11 ?_
    refine lv_iload_n hx hb dX4_hint_14 rfl (lv_at hl 1 rfl) ?_
    refine lv_aload_n hx hb dX4_hint_15 rfl (lv_at hl 0 rfl) ?_
    refine gX4_clock hx hb hts iw4 hown hK hP (List.mem_of_getElem? (i := 2) rfl) dX4_hint_16 ?_
    obtain ⟨y_2, S_2, hg_2, hf⟩ := obnd_some hf
    refine zci (va_runVN (As := [.int x1, .int (S_1.1 0)]) (rest := []) hC (tX0_confirm hg_2) ⟨va_cnB 2 hts gX4_hint_X0_confirm_n105 rfl rfl rfl (hN _ zN14) (hts _ (List.mem_of_getElem? (i := 8) rfl)) (by decide +kernel) ⟨Nat.le_of_ble_eq_true rfl, Nat.le_of_ble_eq_true rfl⟩, hts _ (List.mem_of_getElem? (i := 7) rfl), hts _ (List.mem_of_getElem? (i := 9) rfl)⟩ (zpV hP hK hD hN (rX_6 hK hP)) rfl rfl hl.1 rfl (lv_room (Nat.le_of_ble_eq_true rfl)) dX4_hint_19 ⟨Nat.zero_le _, Nat.zero_le _⟩) hS (fun H locs hP hD hS => ?_)
    exact zri hf hQ hP hD hS dX4_hint_22
  · have hf := zt h_1 hf
    refine lv_bipush (v := (-102 : Int32)) hx hb dX4_hint_7 (by decide) ?_
    exact zri hf hQ hP hD hS dX4_hint_9
theorem tX4_hint {S : zS} {x1 : Int32} {r : Int32 × zS} (hf : fX4_hint S x1 = some r) : zMi l yX4_hint wsX4_hint rmX4_hint D (zT cI cZ) A (wX a cI) [.ref (a 0), .int x1] S r :=
  zMi_of (by decide) rfl rfl (Nat.le_of_ble_eq_true rfl) (fun hC0 hQ hP hD hS _ hl => kX4_hint hC0 hQ hf hP hD hS hl)
abbrev rmX4_isMark : Room := { frames := 0, cells := 0, slots := 0, locals := 0 }
set_option maxHeartbeats 4000000 in
set_option maxRecDepth 100000 in
theorem kX4_isMark {r : Int32 × zS} (hC0 : zC p m c cX4_isMark 1 s args wsX4_isMark RX4 D cI cZ) (hQ : zRz p l e rmX4_isMark s m args below meth c cX4_isMark D A (wX a cI) Q r) {S : zS} {x0 : Int32} (hf : fX4_isMark S x0 = some r) {H : Heap} {locs : List Loc} (hP : va_P D vwCl (wX a cI S) H) (hD : va_D A (wX a cI S)) (hS : va_S A s.heap H locs) {ls : Array Slot} (hl : lv_has ls 1 [(0, .int x0)]) : W p l e rmX4_isMark s m args below meth c H locs 0 0 Q (F0 m 0 ls []) := by
  obtain ⟨hC, hK, hN⟩ := id hC0
  obtain ⟨hx, hb, hml, hown, hts⟩ := id hC
  unfold fX4_isMark at hf
  refine lv_iload_n hx hb dX4_isMark_0 rfl (lv_at hl 0 rfl) ?_
  refine lv_iconst (v := (1 : Int32)) hx hb dX4_isMark_1 (by decide) ?_
  refine lv_icmp_lt (tgt := 15) hx hb dX4_isMark_2 (by decide) (fun h_1 => ?_) (fun h_1 => ?_)
  · have hf := zt h_1 hf
    refine lv_iconst (v := (0 : Int32)) hx hb dX4_isMark_15 (by decide) ?_
    exact zrz hf (Or.inl rfl) hQ hP hD hS dX4_isMark_16
  · have hf := zf h_1 hf
    refine lv_iload_n hx hb dX4_isMark_5 rfl (lv_at hl 0 rfl) ?_
    refine lv_bipush (v := (99 : Int32)) hx hb dX4_isMark_6 (by decide) ?_
    refine lv_icmp_gt (tgt := 15) hx hb dX4_isMark_8 (by decide) (fun h_2 => ?_) (fun h_2 => ?_)
    · have hf := zt h_2 hf
      refine lv_iconst (v := (0 : Int32)) hx hb dX4_isMark_15 (by decide) ?_
      exact zrz hf (Or.inl rfl) hQ hP hD hS dX4_isMark_16
    · have hf := zf h_2 hf
      refine lv_iconst (v := (1 : Int32)) hx hb dX4_isMark_11 (by decide) ?_
      refine lv_goto (tgt := 16) hx hb dX4_isMark_12 (by decide) ?_
      exact zrz hf (Or.inr rfl) hQ hP hD hS dX4_isMark_16
theorem tX4_isMark {S : zS} {x0 : Int32} {r : Int32 × zS} (hf : fX4_isMark S x0 = some r) : zMi l yX4_isMark wsX4_isMark rmX4_isMark D (zT cI cZ) A (wX a cI) [.int x0] S r :=
  zMz_of (by decide) rfl rfl (Nat.le_of_ble_eq_true rfl) (fun hC0 hQ hP hD hS _ hl => kX4_isMark hC0 hQ hf hP hD hS hl)
abbrev rmX4_trialIsDoubled : Room := { frames := 0, cells := 0, slots := 0, locals := 0 }
theorem iwX4_trialIsDoubled_4 : ∀ w ∈ wsX40, w ∈ wsX4_trialIsDoubled := fun _ h => List.mem_cons_of_mem _ (List.mem_append_right _ h)
set_option maxHeartbeats 4000000 in
set_option maxRecDepth 100000 in
theorem kX4_trialIsDoubled {r : zS} (hC0 : zC p m c cX4_trialIsDoubled 1 s args wsX4_trialIsDoubled RX4 D cI cZ) (hQ : zRv p l e rmX4_trialIsDoubled s m args below meth c cX4_trialIsDoubled D A (wX a cI) Q r) {S : zS} (hf : fX4_trialIsDoubled S = some r) {H : Heap} {locs : List Loc} (hP : va_P D vwCl (wX a cI S) H) (hD : va_D A (wX a cI S)) (hS : va_S A s.heap H locs) {ls : Array Slot} (hl : lv_has ls 1 [(0, .ref (a 0))]) : W p l e rmX4_trialIsDoubled s m args below meth c H locs 0 0 Q (F0 m 0 ls []) := by
  obtain ⟨hC, hK, hN⟩ := id hC0
  obtain ⟨hx, hb, hml, hown, hts⟩ := id hC
  have iw4 := iwX4_trialIsDoubled_4
  unfold fX4_trialIsDoubled at hf
  refine lv_aload_n hx hb dX4_trialIsDoubled_0 rfl (lv_at hl 0 rfl) ?_
  refine lv_dup hx hb dX4_trialIsDoubled_1 rfl ?_
  refine gX4_doubled hx hb hts iw4 hown hK hP (List.mem_of_getElem? (i := 1) rfl) dX4_trialIsDoubled_2 ?_
  refine lv_iconst (v := (1 : Int32)) hx hb dX4_trialIsDoubled_5 (by decide) ?_
  refine lv_aload_n hx hb dX4_trialIsDoubled_6 rfl (lv_at hl 0 rfl) ?_
  refine gX4_trial hx hb hts iw4 hown hK hP (List.mem_of_getElem? (i := 2) rfl) dX4_trialIsDoubled_7 ?_
  refine lv_ishl hx hb dX4_trialIsDoubled_10 ?_
  refine lv_ior hx hb dX4_trialIsDoubled_11 ?_
  refine pX4_doubled hf hx hb hts iw4 hown hK hP hD hS (List.mem_of_getElem? (i := 1) rfl) dX4_trialIsDoubled_12 (fun S_1 H locs hf hP hD hS => ?_)
  refine lv_aload_n hx hb dX4_trialIsDoubled_15 rfl (lv_at hl 0 rfl) ?_
  refine lv_iconst (v := (-1 : Int32)) hx hb dX4_trialIsDoubled_16 (by decide) ?_
  refine pX4_trial hf hx hb hts iw4 hown hK hP hD hS (List.mem_of_getElem? (i := 2) rfl) dX4_trialIsDoubled_17 (fun S_2 H locs hf hP hD hS => ?_)
  exact zrv hf hQ hP hD hS dX4_trialIsDoubled_20
theorem tX4_trialIsDoubled {S : zS} {r : zS} (hf : fX4_trialIsDoubled S = some r) : zMv l yX4_trialIsDoubled wsX4_trialIsDoubled rmX4_trialIsDoubled D (zT cI cZ) A (wX a cI) [.ref (a 0)] S r :=
  zMv_of (by decide) rfl rfl (Nat.le_of_ble_eq_true rfl) (fun hC0 hQ hP hD hS _ hl => kX4_trialIsDoubled hC0 hQ hf hP hD hS hl)
end KX4
