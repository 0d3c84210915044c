section KX3
variable {p : Program} {l : Launch} {e : Env} {s : State} {m : MethodId} {args : Array Value} {below : List Frame} {meth : Method} {c : Code} {Q : State → Prop} {D : va_G} {a : Nat → Nat} {cI cZ : ClassId} {A : Nat → Prop}
abbrev rmX0_letterAt : Room := { frames := 2, cells := 0, slots := 0, locals := 42 }
theorem iwX0_letterAt_0 : ∀ w ∈ wsX00, w ∈ wsX0_letterAt := fun _ h => List.mem_cons_of_mem _ (List.mem_append_right _ h)
set_option maxHeartbeats 4000000 in
set_option maxRecDepth 100000 in
theorem kX0_letterAt {r : Int32 × zS} (hC0 : zC p m c cX0_letterAt 3 s args wsX0_letterAt RX0 D cI cZ) (hQ : zRi p l e rmX0_letterAt s m args below meth c cX0_letterAt D A (wX a cI) Q r) {S : zS} {x1 : Int32} {x2 : Int32} (hf : fX0_letterAt S x1 x2 = some r) {H : Heap} {locs : List Loc} (hP : va_P D vwCl (wX a cI S) H) (hD : va_D A (wX a cI S)) (hS : va_S A s.heap H locs) {ls : Array Slot} (hl : lv_has ls 3 [(0, .ref (a 6)), (1, .int x1), (2, .int x2)]) : W p l e rmX0_letterAt s m args below meth c H locs 0 0 Q (F0 m 0 ls []) := by
  obtain ⟨hC, hK, hN⟩ := id hC0
  obtain ⟨hx, hb, hml, hown, hts⟩ := id hC
  have iw0 := iwX0_letterAt_0
  unfold fX0_letterAt at hf
  refine lv_iload_n hx hb dX0_letterAt_0 rfl (lv_at hl 2 rfl) ?_
  refine lv_if_lt (tgt := 13) hx hb dX0_letterAt_1 (by decide) (fun h_1 => ?_) (fun h_1 => ?_)
  · have hf := zt h_1 hf
    refine lv_bipush (v := (-101 : Int32)) hx hb dX0_letterAt_13 (by decide) ?_
    exact zri hf hQ hP hD hS dX0_letterAt_15
  · have hf := zf h_1 hf
    refine lv_iload_n hx hb dX0_letterAt_4 rfl (lv_at hl 2 rfl) ?_
    refine lv_aload_n hx hb dX0_letterAt_5 rfl (lv_at hl 0 rfl) ?_
    refine lv_iload_n hx hb dX0_letterAt_6 rfl (lv_at hl 1 rfl) ?_
    obtain ⟨y_1, S_1, hg_1, hf⟩ := obnd_some hf
    refine zci (va_runV (As := [.int x1]) (rest := [.int x2]) hC (tX0_waitingAt hg_1) (cwV 1 hts gX0_letterAt_X0_waitingAt rfl rfl rfl (by decide +kernel) ⟨Nat.le_of_ble_eq_true rfl, Nat.le_of_ble_eq_true rfl⟩) (zpV hP hK hD hN (rX_6 hK hP)) rfl rfl hl.1 rfl (lv_room (Nat.le_of_ble_eq_true rfl)) dX0_letterAt_7 ⟨Nat.zero_le _, Nat.zero_le _⟩) hS (fun H locs hP hD hS => ?_)
    refine lv_icmp_lt (tgt := 16) hx hb dX0_letterAt_10 (by decide) (fun h_2 => ?_) (fun h_2 => ?_)
    · have hf := zt h_2 hf
      refine lv_aload_n hx hb dX0_letterAt_16 rfl (lv_at hl 0 rfl) ?_
      refine gX0_letters hx hb hts iw0 hown hK hP (List.mem_of_getElem? (i := 1) rfl) dX0_letterAt_17 ?_
      refine lv_iload_n hx hb dX0_letterAt_20 rfl (lv_at hl 1 rfl) ?_
      refine lv_iconst (v := (3 : Int32)) hx hb dX0_letterAt_21 (by decide) ?_
      refine lv_imul hx hb dX0_letterAt_22 ?_
      refine lv_iload_n hx hb dX0_letterAt_23 rfl (lv_at hl 2 rfl) ?_
      refine lv_iadd hx hb dX0_letterAt_24 ?_
      refine lX0_letters hf hx hb hK hP dX0_letterAt_25 (fun hf => ?_)
      exact zri hf hQ hP hD hS dX0_letterAt_26
    · have hf := zf h_2 hf
      refine lv_bipush (v := (-101 : Int32)) hx hb dX0_letterAt_13 (by decide) ?_
      exact zri hf hQ hP hD hS dX0_letterAt_15
theorem tX0_letterAt {S : zS} {x1 : Int32} {x2 : Int32} {r : Int32 × zS} (hf : fX0_letterAt S x1 x2 = some r) : zMi l yX0_letterAt wsX0_letterAt rmX0_letterAt D (zT cI cZ) A (wX a cI) [.ref (a 6), .int x1, .int x2] S r :=
  zMi_of (by decide) rfl rfl (Nat.le_of_ble_eq_true rfl) (fun hC0 hQ hP hD hS _ hl => kX0_letterAt hC0 hQ hf hP hD hS hl)
abbrev rmX1_howMany : Room := { frames := 0, cells := 0, slots := 0, locals := 0 }
theorem iwX1_howMany_1 : ∀ w ∈ wsX10, w ∈ wsX1_howMany := fun _ h => List.mem_cons_of_mem _ (List.mem_append_right _ h)
set_option maxHeartbeats 4000000 in
set_option maxRecDepth 100000 in
theorem kX1_howMany {r : Int32 × zS} (hC0 : zC p m c cX1_howMany 1 s args wsX1_howMany RX1 D cI cZ) (hQ : zRi p l e rmX1_howMany s m args below meth c cX1_howMany D A (wX a cI) Q r) {S : zS} (hf : fX1_howMany S = some r) {H : Heap} {locs : List Loc} (hP : va_P D vwCl (wX a cI S) H) (hD : va_D A (wX a cI S)) (hS : va_S A s.heap H locs) {ls : Array Slot} (hl : lv_has ls 1 [(0, .ref (a 3))]) : W p l e rmX1_howMany s m args below meth c H locs 0 0 Q (F0 m 0 ls []) := by
  obtain ⟨hC, hK, hN⟩ := id hC0
  obtain ⟨hx, hb, hml, hown, hts⟩ := id hC
  have iw1 := iwX1_howMany_1
  unfold fX1_howMany at hf
  refine lv_aload_n hx hb dX1_howMany_0 rfl (lv_at hl 0 rfl) ?_
  refine gX1_size hx hb hts iw1 hown hK hP (List.mem_of_getElem? (i := 1) rfl) dX1_howMany_1 ?_
  exact zri hf hQ hP hD hS dX1_howMany_4
theorem tX1_howMany {S : zS} {r : Int32 × zS} (hf : fX1_howMany S = some r) : zMi l yX1_howMany wsX1_howMany rmX1_howMany D (zT cI cZ) A (wX a cI) [.ref (a 3)] S r :=
  zMi_of (by decide) rfl rfl (Nat.le_of_ble_eq_true rfl) (fun hC0 hQ hP hD hS _ hl => kX1_howMany hC0 hQ hf hP hD hS hl)
abbrev rmX1_slotOf : Room := { frames := 0, cells := 0, slots := 0, locals := 0 }
theorem iwX1_slotOf_1 : ∀ w ∈ wsX10, w ∈ wsX1_slotOf := fun _ h => List.mem_cons_of_mem _ (List.mem_append_right _ h)
set_option maxHeartbeats 4000000 in
set_option maxRecDepth 100000 in
theorem kX1_slotOf_2b {r : Int32 × zS} (hC0 : zC p m c cX1_slotOf 3 s args wsX1_slotOf RX1 D cI cZ) (hQ : zRi p l e rmX1_slotOf s m args below meth c cX1_slotOf D A (wX a cI) Q r) {F2 : zS → Int32 → Int32 → Option (Int32 × zS)} (hF2 : ∀ (S : zS) (x1 : Int32) (x2 : Int32), F2 S x1 x2 = some r → ∀ {H : Heap} {locs : List Loc}, va_P D vwCl (wX a cI S) H → va_D A (wX a cI S) → va_S A s.heap H locs → ∀ {ls : Array Slot}, lv_has ls 3 [(0, .ref (a 3)), (1, .int x1), (2, .int x2)] → W p l e rmX1_slotOf s m args below meth c H locs 0 0 Q (F0 m 2 ls [])) {S : zS} {x1 : Int32} {x2 : Int32} (hf : bX1_slotOf_2 F2 S x1 x2 = some r) {H : Heap} {locs : List Loc} (hP : va_P D vwCl (wX a cI S) H) (hD : va_D A (wX a cI S)) (hS : va_S A s.heap H locs) {ls : Array Slot} (hl : lv_has ls 3 [(0, .ref (a 3)), (1, .int x1), (2, .int x2)]) : W p l e rmX1_slotOf s m args below meth c H locs 0 0 Q (F0 m 2 ls []) := by
  obtain ⟨hC, hK, hN⟩ := id hC0
  obtain ⟨hx, hb, hml, hown, hts⟩ := id hC
  have iw1 := iwX1_slotOf_1
  unfold bX1_slotOf_2 at hf
  refine lv_iload_n hx hb dX1_slotOf_2 rfl (lv_at hl 2 rfl) ?_
  refine lv_aload_n hx hb dX1_slotOf_3 rfl (lv_at hl 0 rfl) ?_
  refine gX1_size hx hb hts iw1 hown hK hP (List.mem_of_getElem? (i := 1) rfl) dX1_slotOf_4 ?_
  refine lv_icmp_ge (tgt := 28) hx hb dX1_slotOf_7 (by decide) (fun h_1 => ?_) (fun h_1 => ?_)
  · have hf := zt h_1 hf
    refine lv_iconst (v := (-1 : Int32)) hx hb dX1_slotOf_28 (by decide) ?_
    exact zri hf hQ hP hD hS dX1_slotOf_29
  · have hf := zf h_1 hf
    refine lv_aload_n hx hb dX1_slotOf_10 rfl (lv_at hl 0 rfl) ?_
    refine gX1_goals hx hb hts iw1 hown hK hP (List.mem_of_getElem? (i := 2) rfl) dX1_slotOf_11 ?_
    refine lv_iload_n hx hb dX1_slotOf_14 rfl (lv_at hl 2 rfl) ?_
    refine lX1_goals hf hx hb hK hP dX1_slotOf_15 (fun hf => ?_)
    refine lv_iload_n hx hb dX1_slotOf_16 rfl (lv_at hl 1 rfl) ?_
    refine lv_icmp_ne (tgt := 22) hx hb dX1_slotOf_17 (by decide) (fun h_2 => ?_) (fun h_2 => ?_)
    · have hf := zf h_2 hf
      refine z_iinc hf hx hb 2 (fun y => [(2, .int y), (0, .ref (a 3)), (1, .int x1)]) dX1_slotOf_22 hl rfl (by decide) (by decide) (fun _ => rfl) (fun y_1 ls hf hl => ?_)
      refine lv_goto (tgt := 2) hx hb dX1_slotOf_25 (by decide) ?_
      exact hF2 _ _ _ hf hP hD hS (lv_sub hl [1, 2, 0] rfl)
    · have hf := zt h_2 hf
      refine lv_iload_n hx hb dX1_slotOf_20 rfl (lv_at hl 2 rfl) ?_
      exact zri hf hQ hP hD hS dX1_slotOf_21
theorem kX1_slotOf_2 {r : Int32 × zS} (hC0 : zC p m c cX1_slotOf 3 s args wsX1_slotOf RX1 D cI cZ) (hQ : zRi p l e rmX1_slotOf s m args below meth c cX1_slotOf D A (wX a cI) Q r) (n : Nat) : ∀ (S : zS) (x1 : Int32) (x2 : Int32), fX1_slotOf_2 n S x1 x2 = some r → ∀ {H : Heap} {locs : List Loc}, va_P D vwCl (wX a cI S) H → va_D A (wX a cI S) → va_S A s.heap H locs → ∀ {ls : Array Slot}, lv_has ls 3 [(0, .ref (a 3)), (1, .int x1), (2, .int x2)] → W p l e rmX1_slotOf s m args below meth c H locs 0 0 Q (F0 m 2 ls []) := by
  induction n with
  | zero => intro S x1 x2 hf; cases hf
  | succ n ih => intro S x1 x2 hf; exact kX1_slotOf_2b hC0 hQ ih hf
set_option maxHeartbeats 4000000 in
set_option maxRecDepth 100000 in
theorem kX1_slotOf {r : Int32 × zS} (hC0 : zC p m c cX1_slotOf 3 s args wsX1_slotOf RX1 D cI cZ) (hQ : zRi p l e rmX1_slotOf s m args below meth c cX1_slotOf D A (wX a cI) Q r) {S : zS} {x1 : Int32} (hf : fX1_slotOf S x1 = some r) {H : Heap} {locs : List Loc} (hP : va_P D vwCl (wX a cI S) H) (hD : va_D A (wX a cI S)) (hS : va_S A s.heap H locs) {ls : Array Slot} (hl : lv_has ls 3 [(0, .ref (a 3)), (1, .int x1)]) : W p l e rmX1_slotOf s m args below meth c H locs 0 0 Q (F0 m 0 ls []) := by
  obtain ⟨hC, hK, hN⟩ := id hC0
  obtain ⟨hx, hb, hml, hown, hts⟩ := id hC
  have iw1 := iwX1_slotOf_1
  unfold fX1_slotOf at hf
  refine lv_iconst (v := (0 : Int32)) hx hb dX1_slotOf_0 (by decide) ?_
  refine z_istore_n hf hx hb (fun y => [(2, .int y), (0, .ref (a 3)), (1, .int x1)]) dX1_slotOf_1 rfl hl (by decide) (fun _ => rfl) (fun y_1 ls hf hl => ?_)
  exact kX1_slotOf_2 hC0 hQ 64 _ _ _ hf hP hD hS (lv_sub hl [1, 2, 0] rfl)
theorem tX1_slotOf {S : zS} {x1 : Int32} {r : Int32 × zS} (hf : fX1_slotOf S x1 = some r) : zMi l yX1_slotOf wsX1_slotOf rmX1_slotOf D (zT cI cZ) A (wX a cI) [.ref (a 3), .int x1] S r :=
  zMi_of (by decide) rfl rfl (Nat.le_of_ble_eq_true rfl) (fun hC0 hQ hP hD hS _ hl => kX1_slotOf hC0 hQ hf hP hD hS hl)
abbrev rmX1_hopOf : Room := { frames := 1, cells := 0, slots := 0, locals := 22 }
theorem iwX1_hopOf_1 : ∀ w ∈ wsX10, w ∈ wsX1_hopOf := fun _ h => List.mem_cons_of_mem _ (List.mem_append_right _ h)
set_option maxHeartbeats 4000000 in
set_option maxRecDepth 100000 in
theorem kX1_hopOf {r : Int32 × zS} (hC0 : zC p m c cX1_hopOf 3 s args wsX1_hopOf RX1 D cI cZ) (hQ : zRi p l e rmX1_hopOf s m args below meth c cX1_hopOf D A (wX a cI) Q r) {S : zS} {x1 : Int32} (hf : fX1_hopOf S x1 = some r) {H : Heap} {locs : List Loc} (hP : va_P D vwCl (wX a cI S) H) (hD : va_D A (wX a cI S)) (hS : va_S A s.heap H locs) {ls : Array Slot} (hl : lv_has ls 3 [(0, .ref (a 3)), (1, .int x1)]) : W p l e rmX1_hopOf s m args below meth c H locs 0 0 Q (F0 m 0 ls []) := by
  obtain ⟨hC, hK, hN⟩ := id hC0
  obtain ⟨hx, hb, hml, hown, hts⟩ := id hC
  have iw1 := iwX1_hopOf_1
  unfold fX1_hopOf at hf
  refine lv_aload_n hx hb dX1_hopOf_0 rfl (lv_at hl 0 rfl) ?_
  refine lv_iload_n hx hb dX1_hopOf_1 rfl (lv_at hl 1 rfl) ?_
  obtain ⟨y_1, S_1, hg_1, hf⟩ := obnd_some hf
  refine zci (va_runV (As := [.int x1]) (rest := []) hC (tX1_slotOf hg_1) (cwV 1 hts gX1_hopOf_X1_slotOf rfl rfl rfl (by decide +kernel) ⟨Nat.le_of_ble_eq_true rfl, Nat.le_of_ble_eq_true rfl⟩) (zpV hP hK hD hN (rX_3 hK hP)) rfl rfl hl.1 rfl (lv_room (Nat.le_of_ble_eq_true rfl)) dX1_hopOf_2 ⟨Nat.zero_le _, Nat.zero_le _⟩) hS (fun H locs hP hD hS => ?_)
  refine z_istore_n hf hx hb (fun y => [(2, .int y), (0, .ref (a 3)), (1, .int x1)]) dX1_hopOf_5 rfl hl (by decide) (fun _ => rfl) (fun y_2 ls hf hl => ?_)
  refine lv_iload_n hx hb dX1_hopOf_6 rfl (lv_at hl 0 rfl) ?_
  refine lv_iconst (v := (-1 : Int32)) hx hb dX1_hopOf_7 (by decide) ?_
  refine lv_icmp_ne (tgt := 15) hx hb dX1_hopOf_8 (by decide) (fun h_1 => ?_) (fun h_1 => ?_)
  · have hf := zf h_1 hf
    refine lv_aload_n hx hb dX1_hopOf_15 rfl (lv_at hl 1 rfl) ?_
    refine gX1_hops hx hb hts iw1 hown hK hP (List.mem_of_getElem? (i := 1) rfl) dX1_hopOf_16 ?_
    refine lv_iload_n hx hb dX1_hopOf_19 rfl (lv_at hl 0 rfl) ?_
    refine lX1_hops hf hx hb hK hP dX1_hopOf_20 (fun hf => ?_)
    exact zri hf hQ hP hD hS dX1_hopOf_21
  · have hf := zt h_1 hf
    refine lv_iconst (v := (-1 : Int32)) hx hb dX1_hopOf_11 (by decide) ?_
    refine lv_goto (tgt := 21) hx hb dX1_hopOf_12 (by decide) ?_
    exact zri hf hQ hP hD hS dX1_hopOf_21
theorem tX1_hopOf {S : zS} {x1 : Int32} {r : Int32 × zS} (hf : fX1_hopOf S x1 = some r) : zMi l yX1_hopOf wsX1_hopOf rmX1_hopOf D (zT cI cZ) A (wX a cI) [.ref (a 3), .int x1] S r :=
  zMi_of (by decide) rfl rfl (Nat.le_of_ble_eq_true rfl) (fun hC0 hQ hP hD hS _ hl => kX1_hopOf hC0 hQ hf hP hD hS hl)
abbrev rmX1_leadTo : Room := { frames := 0, cells := 0, slots := 0, locals := 0 }
theorem iwX1_leadTo_1 : ∀ w ∈ wsX10, w ∈ wsX1_leadTo := fun _ h => List.mem_cons_of_mem _ (List.mem_append_right _ h)
set_option maxHeartbeats 4000000 in
set_option maxRecDepth 100000 in
theorem kX1_leadTo_2b {r : Int32 × zS} (hC0 : zC p m c cX1_leadTo 3 s args wsX1_leadTo RX1 D cI cZ) (hQ : zRz p l e rmX1_leadTo s m args below meth c cX1_leadTo D A (wX a cI) Q r) {F2 : zS → Int32 → Int32 → Option (Int32 × zS)} (hF2 : ∀ (S : zS) (x1 : Int32) (x2 : Int32), F2 S x1 x2 = some r → ∀ {H : Heap} {locs : List Loc}, va_P D vwCl (wX a cI S) H → va_D A (wX a cI S) → va_S A s.heap H locs → ∀ {ls : Array Slot}, lv_has ls 3 [(0, .ref (a 3)), (1, .int x1), (2, .int x2)] → W p l e rmX1_leadTo s m args below meth c H locs 0 0 Q (F0 m 2 ls [])) {S : zS} {x1 : Int32} {x2 : Int32} (hf : bX1_leadTo_2 F2 S x1 x2 = some r) {H : Heap} {locs : List Loc} (hP : va_P D vwCl (wX a cI S) H) (hD : va_D A (wX a cI S)) (hS : va_S A s.heap H locs) {ls : Array Slot} (hl : lv_has ls 3 [(0, .ref (a 3)), (1, .int x1), (2, .int x2)]) : W p l e rmX1_leadTo s m args below meth c H locs 0 0 Q (F0 m 2 ls []) := by
  obtain ⟨hC, hK, hN⟩ := id hC0
  obtain ⟨hx, hb, hml, hown, hts⟩ := id hC
  have iw1 := iwX1_leadTo_1
  unfold bX1_leadTo_2 at hf
  refine lv_iload_n hx hb dX1_leadTo_2 rfl (lv_at hl 2 rfl) ?_
  refine lv_aload_n hx hb dX1_leadTo_3 rfl (lv_at hl 0 rfl) ?_
  refine gX1_size hx hb hts iw1 hown hK hP (List.mem_of_getElem? (i := 1) rfl) dX1_leadTo_4 ?_
  refine lv_icmp_ge (tgt := 28) hx hb dX1_leadTo_7 (by decide) (fun h_1 => ?_) (fun h_1 => ?_)
  · have hf := zt h_1 hf
    refine lv_iconst (v := (0 : Int32)) hx hb dX1_leadTo_28 (by decide) ?_
    exact zrz hf (Or.inl rfl) hQ hP hD hS dX1_leadTo_29
  · have hf := zf h_1 hf
    refine lv_aload_n hx hb dX1_leadTo_10 rfl (lv_at hl 0 rfl) ?_
    refine gX1_hops hx hb hts iw1 hown hK hP (List.mem_of_getElem? (i := 2) rfl) dX1_leadTo_11 ?_
    refine lv_iload_n hx hb dX1_leadTo_14 rfl (lv_at hl 2 rfl) ?_
    refine lX1_hops hf hx hb hK hP dX1_leadTo_15 (fun hf => ?_)
    refine lv_iload_n hx hb dX1_leadTo_16 rfl (lv_at hl 1 rfl) ?_
    refine lv_icmp_ne (tgt := 22) hx hb dX1_leadTo_17 (by decide) (fun h_2 => ?_) (fun h_2 => ?_)
    · have hf := zf h_2 hf
      refine z_iinc hf hx hb 2 (fun y => [(2, .int y), (0, .ref (a 3)), (1, .int x1)]) dX1_leadTo_22 hl rfl (by decide) (by decide) (fun _ => rfl) (fun y_1 ls hf hl => ?_)
      refine lv_goto (tgt := 2) hx hb dX1_leadTo_25 (by decide) ?_
      exact hF2 _ _ _ hf hP hD hS (lv_sub hl [1, 2, 0] rfl)
    · have hf := zt h_2 hf
      refine lv_iconst (v := (1 : Int32)) hx hb dX1_leadTo_20 (by decide) ?_
      exact zrz hf (Or.inr rfl) hQ hP hD hS dX1_leadTo_21
theorem kX1_leadTo_2 {r : Int32 × zS} (hC0 : zC p m c cX1_leadTo 3 s args wsX1_leadTo RX1 D cI cZ) (hQ : zRz p l e rmX1_leadTo s m args below meth c cX1_leadTo D A (wX a cI) Q r) (n : Nat) : ∀ (S : zS) (x1 : Int32) (x2 : Int32), fX1_leadTo_2 n S x1 x2 = some r → ∀ {H : Heap} {locs : List Loc}, va_P D vwCl (wX a cI S) H → va_D A (wX a cI S) → va_S A s.heap H locs → ∀ {ls : Array Slot}, lv_has ls 3 [(0, .ref (a 3)), (1, .int x1), (2, .int x2)] → W p l e rmX1_leadTo s m args below meth c H locs 0 0 Q (F0 m 2 ls []) := by
  induction n with
  | zero => intro S x1 x2 hf; cases hf
  | succ n ih => intro S x1 x2 hf; exact kX1_leadTo_2b hC0 hQ ih hf
set_option maxHeartbeats 4000000 in
set_option maxRecDepth 100000 in
theorem kX1_leadTo {r : Int32 × zS} (hC0 : zC p m c cX1_leadTo 3 s args wsX1_leadTo RX1 D cI cZ) (hQ : zRz p l e rmX1_leadTo s m args below meth c cX1_leadTo D A (wX a cI) Q r) {S : zS} {x1 : Int32} (hf : fX1_leadTo S x1 = some r) {H : Heap} {locs : List Loc} (hP : va_P D vwCl (wX a cI S) H) (hD : va_D A (wX a cI S)) (hS : va_S A s.heap H locs) {ls : Array Slot} (hl : lv_has ls 3 [(0, .ref (a 3)), (1, .int x1)]) : W p l e rmX1_leadTo s m args below meth c H locs 0 0 Q (F0 m 0 ls []) := by
  obtain ⟨hC, hK, hN⟩ := id hC0
  obtain ⟨hx, hb, hml, hown, hts⟩ := id hC
  have iw1 := iwX1_leadTo_1
  unfold fX1_leadTo at hf
  refine lv_iconst (v := (0 : Int32)) hx hb dX1_leadTo_0 (by decide) ?_
  refine z_istore_n hf hx hb (fun y => [(2, .int y), (0, .ref (a 3)), (1, .int x1)]) dX1_leadTo_1 rfl hl (by decide) (fun _ => rfl) (fun y_1 ls hf hl => ?_)
  exact kX1_leadTo_2 hC0 hQ 64 _ _ _ hf hP hD hS (lv_sub hl [1, 2, 0] rfl)
theorem tX1_leadTo {S : zS} {x1 : Int32} {r : Int32 × zS} (hf : fX1_leadTo S x1 = some r) : zMi l yX1_leadTo wsX1_leadTo rmX1_leadTo D (zT cI cZ) A (wX a cI) [.ref (a 3), .int x1] S r :=
  zMz_of (by decide) rfl rfl (Nat.le_of_ble_eq_true rfl) (fun hC0 hQ hP hD hS _ hl => kX1_leadTo hC0 hQ hf hP hD hS hl)
abbrev rmX1_keep : Room := { frames := 1, cells := 0, slots := 0, locals := 22 }
theorem iwX1_keep_1 : ∀ w ∈ wsX10, w ∈ wsX1_keep := fun _ h => List.mem_cons_of_mem _ (List.mem_append_right _ h)
set_option maxHeartbeats 4000000 in
set_option maxRecDepth 100000 in
theorem kX1_keep_32 {r : zS} (hC0 : zC p m c cX1_keep 4 s args wsX1_keep RX1 D cI cZ) (hQ : zRv p l e rmX1_keep s m args below meth c cX1_keep D A (wX a cI) Q r) {S : zS} {x1 : Int32} {x2 : Int32} (hf : fX1_keep_32 S x1 x2 = some r) {H : Heap} {locs : List Loc} (hP : va_P D vwCl (wX a cI S) H) (hD : va_D A (wX a cI S)) (hS : va_S A s.heap H locs) {ls : Array Slot} (hl : lv_has ls 4 [(0, .ref (a 3)), (1, .int x1), (2, .int x2)]) : W p l e rmX1_keep s m args below meth c H locs 0 0 Q (F0 m 32 ls []) := by
  obtain ⟨hC, hK, hN⟩ := id hC0
  obtain ⟨hx, hb, hml, hown, hts⟩ := id hC
  have iw1 := iwX1_keep_1
  unfold fX1_keep_32 at hf
  refine lv_aload_n hx hb dX1_keep_32 rfl (lv_at hl 0 rfl) ?_
  refine gX1_goals hx hb hts iw1 hown hK hP (List.mem_of_getElem? (i := 3) rfl) dX1_keep_33 ?_
  refine lv_aload_n hx hb dX1_keep_36 rfl (lv_at hl 0 rfl) ?_
  refine gX1_size hx hb hts iw1 hown hK hP (List.mem_of_getElem? (i := 2) rfl) dX1_keep_37 ?_
  refine lv_iload_n hx hb dX1_keep_40 rfl (lv_at hl 1 rfl) ?_
  refine sX1_goals hf hx hb hK hP hD hS dX1_keep_41 (fun S_1 H locs hf hP hD hS => ?_)
  refine lv_aload_n hx hb dX1_keep_42 rfl (lv_at hl 0 rfl) ?_
  refine gX1_hops hx hb hts iw1 hown hK hP (List.mem_of_getElem? (i := 1) rfl) dX1_keep_43 ?_
  refine lv_aload_n hx hb dX1_keep_46 rfl (lv_at hl 0 rfl) ?_
  refine gX1_size hx hb hts iw1 hown hK hP (List.mem_of_getElem? (i := 2) rfl) dX1_keep_47 ?_
  refine lv_iload_n hx hb dX1_keep_50 rfl (lv_at hl 2 rfl) ?_
  refine sX1_hops hf hx hb hK hP hD hS dX1_keep_51 (fun S_2 H locs hf hP hD hS => ?_)
  refine lv_aload_n hx hb dX1_keep_52 rfl (lv_at hl 0 rfl) ?_
  refine lv_dup hx hb dX1_keep_53 rfl ?_
  refine gX1_size hx hb hts iw1 hown hK hP (List.mem_of_getElem? (i := 2) rfl) dX1_keep_54 ?_
  refine lv_iconst (v := (1 : Int32)) hx hb dX1_keep_57 (by decide) ?_
  refine lv_iadd hx hb dX1_keep_58 ?_
  refine pX1_size hf hx hb hts iw1 hown hK hP hD hS (List.mem_of_getElem? (i := 2) rfl) dX1_keep_59 (fun S_3 H locs hf hP hD hS => ?_)
  exact zrv hf hQ hP hD hS dX1_keep_62
set_option maxHeartbeats 4000000 in
set_option maxRecDepth 100000 in
theorem kX1_keep {r : zS} (hC0 : zC p m c cX1_keep 4 s args wsX1_keep RX1 D cI cZ) (hQ : zRv p l e rmX1_keep s m args below meth c cX1_keep D A (wX a cI) Q r) {S : zS} {x1 : Int32} {x2 : Int32} (hf : fX1_keep S x1 x2 = some r) {H : Heap} {locs : List Loc} (hP : va_P D vwCl (wX a cI S) H) (hD : va_D A (wX a cI S)) (hS : va_S A s.heap H locs) {ls : Array Slot} (hl : lv_has ls 4 [(0, .ref (a 3)), (1, .int x1), (2, .int x2)]) : W p l e rmX1_keep s m args below meth c H locs 0 0 Q (F0 m 0 ls []) := by
  obtain ⟨hC, hK, hN⟩ := id hC0
  obtain ⟨hx, hb, hml, hown, hts⟩ := id hC
  have iw1 := iwX1_keep_1
  unfold fX1_keep at hf
  refine lv_aload_n hx hb dX1_keep_0 rfl (lv_at hl 0 rfl) ?_
  refine lv_iload_n hx hb dX1_keep_1 rfl (lv_at hl 1 rfl) ?_
  obtain ⟨y_1, S_1, hg_1, hf⟩ := obnd_some hf
  refine zci (va_runV (As := [.int x1]) (rest := []) hC (tX1_slotOf hg_1) (cwV 1 hts gX1_keep_X1_slotOf rfl rfl rfl (by decide +kernel) ⟨Nat.le_of_ble_eq_true rfl, Nat.le_of_ble_eq_true rfl⟩) (zpV hP hK hD hN (rX_3 hK hP)) rfl rfl hl.1 rfl (lv_room (Nat.le_of_ble_eq_true rfl)) dX1_keep_2 ⟨Nat.zero_le _, Nat.zero_le _⟩) hS (fun H locs hP hD hS => ?_)
  refine z_istore_n hf hx hb (fun y => [(3, .int y), (0, .ref (a 3)), (1, .int x1), (2, .int x2)]) dX1_keep_5 rfl hl (by decide) (fun _ => rfl) (fun y_2 ls hf hl => ?_)
  refine lv_iload_n hx hb dX1_keep_6 rfl (lv_at hl 0 rfl) ?_
  refine lv_iconst (v := (-1 : Int32)) hx hb dX1_keep_7 (by decide) ?_
  refine lv_icmp_eq (tgt := 19) hx hb dX1_keep_8 (by decide) (fun h_1 => ?_) (fun h_1 => ?_)
  · have hf := zt h_1 hf
    refine lv_aload_n hx hb dX1_keep_19 rfl (lv_at hl 1 rfl) ?_
    refine gX1_size hx hb hts iw1 hown hK hP (List.mem_of_getElem? (i := 2) rfl) dX1_keep_20 ?_
    refine lv_iconst (v := (4 : Int32)) hx hb dX1_keep_23 (by decide) ?_
    refine lv_icmp_lt (tgt := 32) hx hb dX1_keep_24 (by decide) (fun h_2 => ?_) (fun h_2 => ?_)
    · have hf := zt h_2 hf
      exact kX1_keep_32 hC0 hQ hf hP hD hS (lv_sub hl [1, 2, 3] rfl)
    · have hf := zf h_2 hf
      refine lv_aload_n hx hb dX1_keep_27 rfl (lv_at hl 1 rfl) ?_
      refine lv_iconst (v := (0 : Int32)) hx hb dX1_keep_28 (by decide) ?_
      obtain ⟨S_2, hg_2, hf⟩ := obnv_some hf
      refine zcv (va_runV (As := [.int (0 : Int32)]) (rest := []) hC (tX1_removeSlot hg_2) (cwV 1 hts gX1_keep_X1_removeSlot rfl rfl rfl (by decide +kernel) ⟨Nat.le_of_ble_eq_true rfl, Nat.le_of_ble_eq_true rfl⟩) (zpV hP hK hD hN (rX_3 hK hP)) rfl rfl hl.1 rfl (lv_room (Nat.le_of_ble_eq_true rfl)) dX1_keep_29 ⟨Nat.zero_le _, Nat.zero_le _⟩) hS (fun H locs hP hD hS => ?_)
      exact kX1_keep_32 hC0 hQ hf hP hD hS (lv_sub hl [1, 2, 3] rfl)
  · have hf := zf h_1 hf
    refine lv_aload_n hx hb dX1_keep_11 rfl (lv_at hl 1 rfl) ?_
    refine gX1_hops hx hb hts iw1 hown hK hP (List.mem_of_getElem? (i := 1) rfl) dX1_keep_12 ?_
    refine lv_iload_n hx hb dX1_keep_15 rfl (lv_at hl 0 rfl) ?_
    refine lv_iload_n hx hb dX1_keep_16 rfl (lv_at hl 3 rfl) ?_
    refine sX1_hops hf hx hb hK hP hD hS dX1_keep_17 (fun S_3 H locs hf hP hD hS => ?_)
    exact zrv hf hQ hP hD hS dX1_keep_18
theorem tX1_keep {S : zS} {x1 : Int32} {x2 : Int32} {r : zS} (hf : fX1_keep S x1 x2 = some r) : zMv l yX1_keep wsX1_keep rmX1_keep D (zT cI cZ) A (wX a cI) [.ref (a 3), .int x1, .int x2] S r :=
  zMv_of (by decide) rfl rfl (Nat.le_of_ble_eq_true rfl) (fun hC0 hQ hP hD hS _ hl => kX1_keep hC0 hQ hf hP hD hS hl)
abbrev rmX2_tell : Room := { frames := 0, cells := 0, slots := 0, locals := 0 }
theorem iwX2_tell_2 : ∀ w ∈ wsX20, w ∈ wsX2_tell := fun _ h => List.mem_cons_of_mem _ (List.mem_append_right _ h)
set_option maxHeartbeats 4000000 in
set_option maxRecDepth 100000 in
theorem kX2_tell_41 {r : Int32 × zS} (hC0 : zC p m c cX2_tell 4 s args wsX2_tell RX2 D cI cZ) (hQ : zRi p l e rmX2_tell s m args below meth c cX2_tell D A (wX a cI) Q r) {S : zS} {x2 : Int32} {x3 : Int32} (hf : fX2_tell_41 S x2 x3 = some r) {H : Heap} {locs : List Loc} (hP : va_P D vwCl (wX a cI S) H) (hD : va_D A (wX a cI S)) (hS : va_S A s.heap H locs) {ls : Array Slot} (hl : lv_has ls 4 [(0, .ref (a 1)), (2, .int x2), (3, .int x3)]) : W p l e rmX2_tell s m args below meth c H locs 0 0 Q (F0 m 41 ls []) := by
  obtain ⟨hC, hK, hN⟩ := id hC0
  obtain ⟨hx, hb, hml, hown, hts⟩ := id hC
  have iw2 := iwX2_tell_2
  unfold fX2_tell_41 at hf
  refine lv_aload_n hx hb dX2_tell_41 rfl (lv_at hl 0 rfl) ?_
  refine gX2_ring hx hb hts iw2 hown hK hP (List.mem_of_getElem? (i := 3) rfl) dX2_tell_42 ?_
  refine lv_iload_n hx hb dX2_tell_45 rfl (lv_at hl 2 rfl) ?_
  refine lv_iconst (v := (5 : Int32)) hx hb dX2_tell_46 (by decide) ?_
  refine lv_imul hx hb dX2_tell_47 ?_
  refine lv_iload_n hx hb dX2_tell_48 rfl (lv_at hl 1 rfl) ?_
  refine lv_iadd hx hb dX2_tell_49 ?_
  refine lX2_ring hf hx hb hK hP dX2_tell_50 (fun hf => ?_)
  exact zri hf hQ hP hD hS dX2_tell_51
set_option maxHeartbeats 4000000 in
set_option maxRecDepth 100000 in
theorem kX2_tell {r : Int32 × zS} (hC0 : zC p m c cX2_tell 4 s args wsX2_tell RX2 D cI cZ) (hQ : zRi p l e rmX2_tell s m args below meth c cX2_tell D A (wX a cI) Q r) {S : zS} {x1 : Int32} {x2 : Int32} (hf : fX2_tell S x1 x2 = some r) {H : Heap} {locs : List Loc} (hP : va_P D vwCl (wX a cI S) H) (hD : va_D A (wX a cI S)) (hS : va_S A s.heap H locs) {ls : Array Slot} (hl : lv_has ls 4 [(0, .ref (a 1)), (1, .int x1), (2, .int x2)]) : W p l e rmX2_tell s m args below meth c H locs 0 0 Q (F0 m 0 ls []) := by
  obtain ⟨hC, hK, hN⟩ := id hC0
  obtain ⟨hx, hb, hml, hown, hts⟩ := id hC
  have iw2 := iwX2_tell_2
  unfold fX2_tell at hf
  refine lv_iload_n hx hb dX2_tell_0 rfl (lv_at hl 1 rfl) ?_
  refine lv_if_lt (tgt := 12) hx hb dX2_tell_1 (by decide) (fun h_1 => ?_) (fun h_1 => ?_)
  · have hf := zt h_1 hf
    refine lv_bipush (v := (-101 : Int32)) hx hb dX2_tell_12 (by decide) ?_
    exact zri hf hQ hP hD hS dX2_tell_14
  · have hf := zf h_1 hf
    refine lv_iload_n hx hb dX2_tell_4 rfl (lv_at hl 1 rfl) ?_
    refine lv_aload_n hx hb dX2_tell_5 rfl (lv_at hl 0 rfl) ?_
    refine gX2_size hx hb hts iw2 hown hK hP (List.mem_of_getElem? (i := 1) rfl) dX2_tell_6 ?_
    refine lv_icmp_lt (tgt := 15) hx hb dX2_tell_9 (by decide) (fun h_2 => ?_) (fun h_2 => ?_)
    · have hf := zt h_2 hf
      refine lv_iload_n hx hb dX2_tell_15 rfl (lv_at hl 2 rfl) ?_
      refine lv_if_lt (tgt := 24) hx hb dX2_tell_16 (by decide) (fun h_3 => ?_) (fun h_3 => ?_)
      · have hf := zt h_3 hf
        refine lv_bipush (v := (-102 : Int32)) hx hb dX2_tell_24 (by decide) ?_
        exact zri hf hQ hP hD hS dX2_tell_26
      · have hf := zf h_3 hf
        refine lv_iload_n hx hb dX2_tell_19 rfl (lv_at hl 2 rfl) ?_
        refine lv_iconst (v := (5 : Int32)) hx hb dX2_tell_20 (by decide) ?_
        refine lv_icmp_lt (tgt := 27) hx hb dX2_tell_21 (by decide) (fun h_4 => ?_) (fun h_4 => ?_)
        · have hf := zt h_4 hf
          refine lv_aload_n hx hb dX2_tell_27 rfl (lv_at hl 0 rfl) ?_
          refine gX2_latest hx hb hts iw2 hown hK hP (List.mem_of_getElem? (i := 2) rfl) dX2_tell_28 ?_
          refine lv_iload_n hx hb dX2_tell_31 rfl (lv_at hl 1 rfl) ?_
          refine lv_isub hx hb dX2_tell_32 ?_
          refine z_istore_n hf hx hb (fun y => [(3, .int y), (0, .ref (a 1)), (1, .int x1), (2, .int x2)]) dX2_tell_33 rfl hl (by decide) (fun _ => rfl) (fun y_1 ls hf hl => ?_)
          refine lv_iload_n hx hb dX2_tell_34 rfl (lv_at hl 0 rfl) ?_
          refine lv_if_ge (tgt := 41) hx hb dX2_tell_35 (by decide) (fun h_5 => ?_) (fun h_5 => ?_)
          · have hf := zt h_5 hf
            exact kX2_tell_41 hC0 hQ hf hP hD hS (lv_sub hl [1, 3, 0] rfl)
          · have hf := zf h_5 hf
            refine z_iinc hf hx hb 0 (fun y => [(3, .int y), (0, .ref (a 1)), (1, .int x1), (2, .int x2)]) dX2_tell_38 hl rfl (by decide) (by decide) (fun _ => rfl) (fun y_2 ls hf hl => ?_)
            exact kX2_tell_41 hC0 hQ hf hP hD hS (lv_sub hl [1, 3, 0] rfl)
        · have hf := zf h_4 hf
          refine lv_bipush (v := (-102 : Int32)) hx hb dX2_tell_24 (by decide) ?_
          exact zri hf hQ hP hD hS dX2_tell_26
    · have hf := zf h_2 hf
      refine lv_bipush (v := (-101 : Int32)) hx hb dX2_tell_12 (by decide) ?_
      exact zri hf hQ hP hD hS dX2_tell_14
theorem tX2_tell {S : zS} {x1 : Int32} {x2 : Int32} {r : Int32 × zS} (hf : fX2_tell S x1 x2 = some r) : zMi l yX2_tell wsX2_tell rmX2_tell D (zT cI cZ) A (wX a cI) [.ref (a 1), .int x1, .int x2] S r :=
  zMi_of (by decide) rfl rfl (Nat.le_of_ble_eq_true rfl) (fun hC0 hQ hP hD hS _ hl => kX2_tell hC0 hQ hf hP hD hS hl)
abbrev rmX2_howMany : Room := { frames := 0, cells := 0, slots := 0, locals := 0 }
theorem iwX2_howMany_2 : ∀ w ∈ wsX20, w ∈ wsX2_howMany := fun _ h => List.mem_cons_of_mem _ (List.mem_append_right _ h)
set_option maxHeartbeats 4000000 in
set_option maxRecDepth 100000 in
theorem kX2_howMany {r : Int32 × zS} (hC0 : zC p m c cX2_howMany 1 s args wsX2_howMany RX2 D cI cZ) (hQ : zRi p l e rmX2_howMany s m args below meth c cX2_howMany D A (wX a cI) Q r) {S : zS} (hf : fX2_howMany S = some r) {H : Heap} {locs : List Loc} (hP : va_P D vwCl (wX a cI S) H) (hD : va_D A (wX a cI S)) (hS : va_S A s.heap H locs) {ls : Array Slot} (hl : lv_has ls 1 [(0, .ref (a 1))]) : W p l e rmX2_howMany s m args below meth c H locs 0 0 Q (F0 m 0 ls []) := by
  obtain ⟨hC, hK, hN⟩ := id hC0
  obtain ⟨hx, hb, hml, hown, hts⟩ := id hC
  have iw2 := iwX2_howMany_2
  unfold fX2_howMany at hf
  refine lv_aload_n hx hb dX2_howMany_0 rfl (lv_at hl 0 rfl) ?_
  refine gX2_size hx hb hts iw2 hown hK hP (List.mem_of_getElem? (i := 1) rfl) dX2_howMany_1 ?_
  exact zri hf hQ hP hD hS dX2_howMany_4
theorem tX2_howMany {S : zS} {r : Int32 × zS} (hf : fX2_howMany S = some r) : zMi l yX2_howMany wsX2_howMany rmX2_howMany D (zT cI cZ) A (wX a cI) [.ref (a 1)] S r :=
  zMi_of (by decide) rfl rfl (Nat.le_of_ble_eq_true rfl) (fun hC0 hQ hP hD hS _ hl => kX2_howMany hC0 hQ hf hP hD hS hl)
abbrev rmX2_allEver : Room := { frames := 0, cells := 0, slots := 0, locals := 0 }
theorem iwX2_allEver_2 : ∀ w ∈ wsX20, w ∈ wsX2_allEver := fun _ h => List.mem_cons_of_mem _ (List.mem_append_right _ h)
set_option maxHeartbeats 4000000 in
set_option maxRecDepth 100000 in
theorem kX2_allEver {r : Int32 × zS} (hC0 : zC p m c cX2_allEver 1 s args wsX2_allEver RX2 D cI cZ) (hQ : zRi p l e rmX2_allEver s m args below meth c cX2_allEver D A (wX a cI) Q r) {S : zS} (hf : fX2_allEver S = some r) {H : Heap} {locs : List Loc} (hP : va_P D vwCl (wX a cI S) H) (hD : va_D A (wX a cI S)) (hS : va_S A s.heap H locs) {ls : Array Slot} (hl : lv_has ls 1 [(0, .ref (a 1))]) : W p l e rmX2_allEver s m args below meth c H locs 0 0 Q (F0 m 0 ls []) := by
  obtain ⟨hC, hK, hN⟩ := id hC0
  obtain ⟨hx, hb, hml, hown, hts⟩ := id hC
  have iw2 := iwX2_allEver_2
  unfold fX2_allEver at hf
  refine lv_aload_n hx hb dX2_allEver_0 rfl (lv_at hl 0 rfl) ?_
  refine gX2_all hx hb hts iw2 hown hK hP (List.mem_of_getElem? (i := 1) rfl) dX2_allEver_1 ?_
  exact zri hf hQ hP hD hS dX2_allEver_4
theorem tX2_allEver {S : zS} {r : Int32 × zS} (hf : fX2_allEver S = some r) : zMi l yX2_allEver wsX2_allEver rmX2_allEver D (zT cI cZ) A (wX a cI) [.ref (a 1)] S r :=
  zMi_of (by decide) rfl rfl (Nat.le_of_ble_eq_true rfl) (fun hC0 hQ hP hD hS _ hl => kX2_allEver hC0 hQ hf hP hD hS hl)
abbrev rmX2_lettersEver : Room := { frames := 0, cells := 0, slots := 0, locals := 0 }
theorem iwX2_lettersEver_2 : ∀ w ∈ wsX20, w ∈ wsX2_lettersEver := fun _ h => List.mem_cons_of_mem _ (List.mem_append_right _ h)
set_option maxHeartbeats 4000000 in
set_option maxRecDepth 100000 in
theorem kX2_lettersEver {r : Int32 × zS} (hC0 : zC p m c cX2_lettersEver 1 s args wsX2_lettersEver RX2 D cI cZ) (hQ : zRi p l e rmX2_lettersEver s m args below meth c cX2_lettersEver D A (wX a cI) Q r) {S : zS} (hf : fX2_lettersEver S = some r) {H : Heap} {locs : List Loc} (hP : va_P D vwCl (wX a cI S) H) (hD : va_D A (wX a cI S)) (hS : va_S A s.heap H locs) {ls : Array Slot} (hl : lv_has ls 1 [(0, .ref (a 1))]) : W p l e rmX2_lettersEver s m args below meth c H locs 0 0 Q (F0 m 0 ls []) := by
  obtain ⟨hC, hK, hN⟩ := id hC0
  obtain ⟨hx, hb, hml, hown, hts⟩ := id hC
  have iw2 := iwX2_lettersEver_2
  unfold fX2_lettersEver at hf
  refine lv_aload_n hx hb dX2_lettersEver_0 rfl (lv_at hl 0 rfl) ?_
  refine gX2_letters hx hb hts iw2 hown hK hP (List.mem_of_getElem? (i := 1) rfl) dX2_lettersEver_1 ?_
  exact zri hf hQ hP hD hS dX2_lettersEver_4
theorem tX2_lettersEver {S : zS} {r : Int32 × zS} (hf : fX2_lettersEver S = some r) : zMi l yX2_lettersEver wsX2_lettersEver rmX2_lettersEver D (zT cI cZ) A (wX a cI) [.ref (a 1)] S r :=
  zMi_of (by decide) rfl rfl (Nat.le_of_ble_eq_true rfl) (fun hC0 hQ hP hD hS _ hl => kX2_lettersEver hC0 hQ hf hP hD hS hl)
abbrev rmX3_howMany : Room := { frames := 0, cells := 0, slots := 0, locals := 0 }
theorem iwX3_howMany_3 : ∀ w ∈ wsX30, w ∈ wsX3_howMany := fun _ h => List.mem_cons_of_mem _ (List.mem_append_right _ h)
set_option maxHeartbeats 4000000 in
set_option maxRecDepth 100000 in
theorem kX3_howMany {r : Int32 × zS} (hC0 : zC p m c cX3_howMany 1 s args wsX3_howMany RX3 D cI cZ) (hQ : zRi p l e rmX3_howMany s m args below meth c cX3_howMany D A (wX a cI) Q r) {S : zS} (hf : fX3_howMany S = some r) {H : Heap} {locs : List Loc} (hP : va_P D vwCl (wX a cI S) H) (hD : va_D A (wX a cI S)) (hS : va_S A s.heap H locs) {ls : Array Slot} (hl : lv_has ls 1 [(0, .ref (a 14))]) : W p l e rmX3_howMany s m args below meth c H locs 0 0 Q (F0 m 0 ls []) := by
  obtain ⟨hC, hK, hN⟩ := id hC0
  obtain ⟨hx, hb, hml, hown, hts⟩ := id hC
  have iw3 := iwX3_howMany_3
  unfold fX3_howMany at hf
  refine lv_aload_n hx hb dX3_howMany_0 rfl (lv_at hl 0 rfl) ?_
  refine gX3_size hx hb hts iw3 hown hK hP (List.mem_of_getElem? (i := 1) rfl) dX3_howMany_1 ?_
  exact zri hf hQ hP hD hS dX3_howMany_4
theorem tX3_howMany {S : zS} {r : Int32 × zS} (hf : fX3_howMany S = some r) : zMi l yX3_howMany wsX3_howMany rmX3_howMany D (zT cI cZ) A (wX a cI) [.ref (a 14)] S r :=
  zMi_of (by decide) rfl rfl (Nat.le_of_ble_eq_true rfl) (fun hC0 hQ hP hD hS _ hl => kX3_howMany hC0 hQ hf hP hD hS hl)
abbrev rmX3_slotOf : Room := { frames := 0, cells := 0, slots := 0, locals := 0 }
theorem iwX3_slotOf_3 : ∀ w ∈ wsX30, w ∈ wsX3_slotOf := fun _ h => List.mem_cons_of_mem _ (List.mem_append_right _ h)
set_option maxHeartbeats 4000000 in
set_option maxRecDepth 100000 in
theorem kX3_slotOf_2b {r : Int32 × zS} (hC0 : zC p m c cX3_slotOf 3 s args wsX3_slotOf RX3 D cI cZ) (hQ : zRi p l e rmX3_slotOf s m args below meth c cX3_slotOf D A (wX a cI) Q r) {F2 : zS → Int32 → Int32 → Option (Int32 × zS)} (hF2 : ∀ (S : zS) (x1 : Int32) (x2 : Int32), F2 S x1 x2 = some r → ∀ {H : Heap} {locs : List Loc}, va_P D vwCl (wX a cI S) H → va_D A (wX a cI S) → va_S A s.heap H locs → ∀ {ls : Array Slot}, lv_has ls 3 [(0, .ref (a 14)), (1, .int x1), (2, .int x2)] → W p l e rmX3_slotOf s m args below meth c H locs 0 0 Q (F0 m 2 ls [])) {S : zS} {x1 : Int32} {x2 : Int32} (hf : bX3_slotOf_2 F2 S x1 x2 = some r) {H : Heap} {locs : List Loc} (hP : va_P D vwCl (wX a cI S) H) (hD : va_D A (wX a cI S)) (hS : va_S A s.heap H locs) {ls : Array Slot} (hl : lv_has ls 3 [(0, .ref (a 14)), (1, .int x1), (2, .int x2)]) : W p l e rmX3_slotOf s m args below meth c H locs 0 0 Q (F0 m 2 ls []) := by
  obtain ⟨hC, hK, hN⟩ := id hC0
  obtain ⟨hx, hb, hml, hown, hts⟩ := id hC
  have iw3 := iwX3_slotOf_3
  unfold bX3_slotOf_2 at hf
  refine lv_iload_n hx hb dX3_slotOf_2 rfl (lv_at hl 2 rfl) ?_
  refine lv_aload_n hx hb dX3_slotOf_3 rfl (lv_at hl 0 rfl) ?_
  refine gX3_size hx hb hts iw3 hown hK hP (List.mem_of_getElem? (i := 1) rfl) dX3_slotOf_4 ?_
  refine lv_icmp_ge (tgt := 28) hx hb dX3_slotOf_7 (by decide) (fun h_1 => ?_) (fun h_1 => ?_)
  · have hf := zt h_1 hf
    refine lv_iconst (v := (-1 : Int32)) hx hb dX3_slotOf_28 (by decide) ?_
    exact zri hf hQ hP hD hS dX3_slotOf_29
  · have hf := zf h_1 hf
    refine lv_aload_n hx hb dX3_slotOf_10 rfl (lv_at hl 0 rfl) ?_
    refine gX3_addresses hx hb hts iw3 hown hK hP (List.mem_of_getElem? (i := 2) rfl) dX3_slotOf_11 ?_
    refine lv_iload_n hx hb dX3_slotOf_14 rfl (lv_at hl 2 rfl) ?_
    refine lX3_addresses hf hx hb hK hP dX3_slotOf_15 (fun hf => ?_)
    refine lv_iload_n hx hb dX3_slotOf_16 rfl (lv_at hl 1 rfl) ?_
    refine lv_icmp_ne (tgt := 22) hx hb dX3_slotOf_17 (by decide) (fun h_2 => ?_) (fun h_2 => ?_)
    · have hf := zf h_2 hf
      refine z_iinc hf hx hb 2 (fun y => [(2, .int y), (0, .ref (a 14)), (1, .int x1)]) dX3_slotOf_22 hl rfl (by decide) (by decide) (fun _ => rfl) (fun y_1 ls hf hl => ?_)
      refine lv_goto (tgt := 2) hx hb dX3_slotOf_25 (by decide) ?_
      exact hF2 _ _ _ hf hP hD hS (lv_sub hl [1, 2, 0] rfl)
    · have hf := zt h_2 hf
      refine lv_iload_n hx hb dX3_slotOf_20 rfl (lv_at hl 2 rfl) ?_
      exact zri hf hQ hP hD hS dX3_slotOf_21
theorem kX3_slotOf_2 {r : Int32 × zS} (hC0 : zC p m c cX3_slotOf 3 s args wsX3_slotOf RX3 D cI cZ) (hQ : zRi p l e rmX3_slotOf s m args below meth c cX3_slotOf D A (wX a cI) Q r) (n : Nat) : ∀ (S : zS) (x1 : Int32) (x2 : Int32), fX3_slotOf_2 n S x1 x2 = some r → ∀ {H : Heap} {locs : List Loc}, va_P D vwCl (wX a cI S) H → va_D A (wX a cI S) → va_S A s.heap H locs → ∀ {ls : Array Slot}, lv_has ls 3 [(0, .ref (a 14)), (1, .int x1), (2, .int x2)] → W p l e rmX3_slotOf s m args below meth c H locs 0 0 Q (F0 m 2 ls []) := by
  induction n with
  | zero => intro S x1 x2 hf; cases hf
  | succ n ih => intro S x1 x2 hf; exact kX3_slotOf_2b hC0 hQ ih hf
set_option maxHeartbeats 4000000 in
set_option maxRecDepth 100000 in
theorem kX3_slotOf {r : Int32 × zS} (hC0 : zC p m c cX3_slotOf 3 s args wsX3_slotOf RX3 D cI cZ) (hQ : zRi p l e rmX3_slotOf s m args below meth c cX3_slotOf D A (wX a cI) Q r) {S : zS} {x1 : Int32} (hf : fX3_slotOf S x1 = some r) {H : Heap} {locs : List Loc} (hP : va_P D vwCl (wX a cI S) H) (hD : va_D A (wX a cI S)) (hS : va_S A s.heap H locs) {ls : Array Slot} (hl : lv_has ls 3 [(0, .ref (a 14)), (1, .int x1)]) : W p l e rmX3_slotOf s m args below meth c H locs 0 0 Q (F0 m 0 ls []) := by
  obtain ⟨hC, hK, hN⟩ := id hC0
  obtain ⟨hx, hb, hml, hown, hts⟩ := id hC
  have iw3 := iwX3_slotOf_3
  unfold fX3_slotOf at hf
  refine lv_iconst (v := (0 : Int32)) hx hb dX3_slotOf_0 (by decide) ?_
  refine z_istore_n hf hx hb (fun y => [(2, .int y), (0, .ref (a 14)), (1, .int x1)]) dX3_slotOf_1 rfl hl (by decide) (fun _ => rfl) (fun y_1 ls hf hl => ?_)
  exact kX3_slotOf_2 hC0 hQ 64 _ _ _ hf hP hD hS (lv_sub hl [1, 2, 0] rfl)
theorem tX3_slotOf {S : zS} {x1 : Int32} {r : Int32 × zS} (hf : fX3_slotOf S x1 = some r) : zMi l yX3_slotOf wsX3_slotOf rmX3_slotOf D (zT cI cZ) A (wX a cI) [.ref (a 14), .int x1] S r :=
  zMi_of (by decide) rfl rfl (Nat.le_of_ble_eq_true rfl) (fun hC0 hQ hP hD hS _ hl => kX3_slotOf hC0 hQ hf hP hD hS hl)
abbrev rmX3_has : Room := { frames := 1, cells := 0, slots := 0, locals := 22 }
theorem iwX3_has_3 : ∀ w ∈ wsX30, w ∈ wsX3_has := fun _ h => List.mem_cons_of_mem _ (List.mem_append_right _ h)
set_option maxHeartbeats 4000000 in
set_option maxRecDepth 100000 in
theorem kX3_has {r : Int32 × zS} (hC0 : zC p m c cX3_has 2 s args wsX3_has RX3 D cI cZ) (hQ : zRz p l e rmX3_has s m args below meth c cX3_has D A (wX a cI) Q r) {S : zS} {x1 : Int32} (hf : fX3_has S x1 = some r) {H : Heap} {locs : List Loc} (hP : va_P D vwCl (wX a cI S) H) (hD : va_D A (wX a cI S)) (hS : va_S A s.heap H locs) {ls : Array Slot} (hl : lv_has ls 2 [(0, .ref (a 14)), (1, .int x1)]) : W p l e rmX3_has s m args below meth c H locs 0 0 Q (F0 m 0 ls []) := by
  obtain ⟨hC, hK, hN⟩ := id hC0
  obtain ⟨hx, hb, hml, hown, hts⟩ := id hC
  have iw3 := iwX3_has_3
  unfold fX3_has at hf
  refine lv_aload_n hx hb dX3_has_0 rfl (lv_at hl 0 rfl) ?_
  refine lv_iload_n hx hb dX3_has_1 rfl (lv_at hl 1 rfl) ?_
  obtain ⟨y_1, S_1, hg_1, hf⟩ := obnd_some hf
  refine zci (va_runV (As := [.int x1]) (rest := []) hC (tX3_slotOf hg_1) (cwV 1 hts gX3_has_X3_slotOf rfl rfl rfl (by decide +kernel) ⟨Nat.le_of_ble_eq_true rfl, Nat.le_of_ble_eq_true rfl⟩) (zpV hP hK hD hN (rX_14 hK hP)) rfl rfl hl.1 rfl (lv_room (Nat.le_of_ble_eq_true rfl)) dX3_has_2 ⟨Nat.zero_le _, Nat.zero_le _⟩) hS (fun H locs hP hD hS => ?_)
  refine lv_iconst (v := (-1 : Int32)) hx hb dX3_has_5 (by decide) ?_
  refine lv_icmp_eq (tgt := 13) hx hb dX3_has_6 (by decide) (fun h_1 => ?_) (fun h_1 => ?_)
  · have hf := zt h_1 hf
    refine lv_iconst (v := (0 : Int32)) hx hb dX3_has_13 (by decide) ?_
    exact zrz hf (Or.inl rfl) hQ hP hD hS dX3_has_14
  · have hf := zf h_1 hf
    refine lv_iconst (v := (1 : Int32)) hx hb dX3_has_9 (by decide) ?_
    refine lv_goto (tgt := 14) hx hb dX3_has_10 (by decide) ?_
    exact zrz hf (Or.inr rfl) hQ hP hD hS dX3_has_14
theorem tX3_has {S : zS} {x1 : Int32} {r : Int32 × zS} (hf : fX3_has S x1 = some r) : zMi l yX3_has wsX3_has rmX3_has D (zT cI cZ) A (wX a cI) [.ref (a 14), .int x1] S r :=
  zMz_of (by decide) rfl rfl (Nat.le_of_ble_eq_true rfl) (fun hC0 hQ hP hD hS _ hl => kX3_has hC0 hQ hf hP hD hS hl)
abbrev rmX3_hasRoomFor : Room := { frames := 2, cells := 0, slots := 0, locals := 43 }
theorem iwX3_hasRoomFor_3 : ∀ w ∈ wsX30, w ∈ wsX3_hasRoomFor := fun _ h => List.mem_cons_of_mem _ (List.mem_append_right _ h)
set_option maxHeartbeats 4000000 in
set_option maxRecDepth 100000 in
theorem kX3_hasRoomFor_16 {r : Int32 × zS} (hC0 : zC p m c cX3_hasRoomFor 2 s args wsX3_hasRoomFor RX3 D cI cZ) (hQ : zRz p l e rmX3_hasRoomFor s m args below meth c cX3_hasRoomFor D A (wX a cI) Q r) {S : zS} (hf : fX3_hasRoomFor_16 S = some r) {H : Heap} {locs : List Loc} (hP : va_P D vwCl (wX a cI S) H) (hD : va_D A (wX a cI S)) (hS : va_S A s.heap H locs) {ls : Array Slot} (hl : lv_has ls 2 []) : W p l e rmX3_hasRoomFor s m args below meth c H locs 0 0 Q (F0 m 16 ls []) := by
  obtain ⟨hC, hK, hN⟩ := id hC0
  obtain ⟨hx, hb, hml, hown, hts⟩ := id hC
  have iw3 := iwX3_hasRoomFor_3
  unfold fX3_hasRoomFor_16 at hf
  refine lv_iconst (v := (1 : Int32)) hx hb dX3_hasRoomFor_16 (by decide) ?_
  refine lv_goto (tgt := 21) hx hb dX3_hasRoomFor_17 (by decide) ?_
  exact zrz hf (Or.inr rfl) hQ hP hD hS dX3_hasRoomFor_21
set_option maxHeartbeats 4000000 in
set_option maxRecDepth 100000 in
theorem kX3_hasRoomFor {r : Int32 × zS} (hC0 : zC p m c cX3_hasRoomFor 2 s args wsX3_hasRoomFor RX3 D cI cZ) (hQ : zRz p l e rmX3_hasRoomFor s m args below meth c cX3_hasRoomFor D A (wX a cI) Q r) {S : zS} {x1 : Int32} (hf : fX3_hasRoomFor S x1 = some r) {H : Heap} {locs : List Loc} (hP : va_P D vwCl (wX a cI S) H) (hD : va_D A (wX a cI S)) (hS : va_S A s.heap H locs) {ls : Array Slot} (hl : lv_has ls 2 [(0, .ref (a 14)), (1, .int x1)]) : W p l e rmX3_hasRoomFor s m args below meth c H locs 0 0 Q (F0 m 0 ls []) := by
  obtain ⟨hC, hK, hN⟩ := id hC0
  obtain ⟨hx, hb, hml, hown, hts⟩ := id hC
  have iw3 := iwX3_hasRoomFor_3
  unfold fX3_hasRoomFor at hf
  refine lv_aload_n hx hb dX3_hasRoomFor_0 rfl (lv_at hl 0 rfl) ?_
  refine gX3_size hx hb hts iw3 hown hK hP (List.mem_of_getElem? (i := 1) rfl) dX3_hasRoomFor_1 ?_
  refine lv_iconst (v := (4 : Int32)) hx hb dX3_hasRoomFor_4 (by decide) ?_
  refine lv_icmp_lt (tgt := 16) hx hb dX3_hasRoomFor_5 (by decide) (fun h_1 => ?_) (fun h_1 => ?_)
  · have hf := zt h_1 hf
    exact kX3_hasRoomFor_16 hC0 hQ hf hP hD hS (lv_sub hl [] rfl)
  · have hf := zf h_1 hf
    refine lv_aload_n hx hb dX3_hasRoomFor_8 rfl (lv_at hl 0 rfl) ?_
    refine lv_iload_n hx hb dX3_hasRoomFor_9 rfl (lv_at hl 1 rfl) ?_
    obtain ⟨y_1, S_1, hg_1, hf⟩ := obnd_some hf
    refine zci (va_runV (As := [.int x1]) (rest := []) hC (tX3_has hg_1) (cwV 1 hts gX3_hasRoomFor_X3_has rfl rfl rfl (by decide +kernel) ⟨Nat.le_of_ble_eq_true rfl, Nat.le_of_ble_eq_true rfl⟩) (zpV hP hK hD hN (rX_14 hK hP)) rfl rfl hl.1 rfl (lv_room (Nat.le_of_ble_eq_true rfl)) dX3_hasRoomFor_10 ⟨Nat.zero_le _, Nat.zero_le _⟩) hS (fun H locs hP hD hS => ?_)
    refine lv_if_eq (tgt := 20) hx hb dX3_hasRoomFor_13 (by decide) (fun h_2 => ?_) (fun h_2 => ?_)
    · have hf := zt h_2 hf
      refine lv_iconst (v := (0 : Int32)) hx hb dX3_hasRoomFor_20 (by decide) ?_
      exact zrz hf (Or.inl rfl) hQ hP hD hS dX3_hasRoomFor_21
    · have hf := zf h_2 hf
      exact kX3_hasRoomFor_16 hC0 hQ hf hP hD hS (lv_sub hl [] rfl)
theorem tX3_hasRoomFor {S : zS} {x1 : Int32} {r : Int32 × zS} (hf : fX3_hasRoomFor S x1 = some r) : zMi l yX3_hasRoomFor wsX3_hasRoomFor rmX3_hasRoomFor D (zT cI cZ) A (wX a cI) [.ref (a 14), .int x1] S r :=
  zMz_of (by decide) rfl rfl (Nat.le_of_ble_eq_true rfl) (fun hC0 hQ hP hD hS _ hl => kX3_hasRoomFor hC0 hQ hf hP hD hS hl)
abbrev rmX3_put : Room := { frames := 1, cells := 0, slots := 0, locals := 22 }
theorem iwX3_put_3 : ∀ w ∈ wsX30, w ∈ wsX3_put := fun _ h => List.mem_cons_of_mem _ (List.mem_append_right _ h)
set_option maxHeartbeats 4000000 in
set_option maxRecDepth 100000 in
theorem kX3_put_38 {r : zS} (hC0 : zC p m c cX3_put 5 s args wsX3_put RX3 D cI cZ) (hQ : zRv p l e rmX3_put s m args below meth c cX3_put D A (wX a cI) Q r) {S : zS} {x1 : Int32} {x2 : Int32} {x3 : Int32} {x4 : Int32} (hf : fX3_put_38 S x1 x2 x3 x4 = some r) {H : Heap} {locs : List Loc} (hP : va_P D vwCl (wX a cI S) H) (hD : va_D A (wX a cI S)) (hS : va_S A s.heap H locs) {ls : Array Slot} (hl : lv_has ls 5 [(0, .ref (a 14)), (1, .int x1), (2, .int x2), (3, .int x3), (4, .int x4)]) : W p l e rmX3_put s m args below meth c H locs 0 0 Q (F0 m 38 ls []) := by
  obtain ⟨hC, hK, hN⟩ := id hC0
  obtain ⟨hx, hb, hml, hown, hts⟩ := id hC
  have iw3 := iwX3_put_3
  unfold fX3_put_38 at hf
  refine lv_aload_n hx hb dX3_put_38 rfl (lv_at hl 0 rfl) ?_
  refine gX3_addresses hx hb hts iw3 hown hK hP (List.mem_of_getElem? (i := 2) rfl) dX3_put_39 ?_
  refine lv_iload hx hb dX3_put_42 (lv_at hl 4 rfl) ?_
  refine lv_iload_n hx hb dX3_put_44 rfl (lv_at hl 1 rfl) ?_
  refine sX3_addresses hf hx hb hK hP hD hS dX3_put_45 (fun S_1 H locs hf hP hD hS => ?_)
  refine lv_aload_n hx hb dX3_put_46 rfl (lv_at hl 0 rfl) ?_
  refine gX3_ranks hx hb hts iw3 hown hK hP (List.mem_of_getElem? (i := 3) rfl) dX3_put_47 ?_
  refine lv_iload hx hb dX3_put_50 (lv_at hl 4 rfl) ?_
  refine lv_iload_n hx hb dX3_put_52 rfl (lv_at hl 2 rfl) ?_
  refine sX3_ranks hf hx hb hK hP hD hS dX3_put_53 (fun S_2 H locs hf hP hD hS => ?_)
  refine lv_aload_n hx hb dX3_put_54 rfl (lv_at hl 0 rfl) ?_
  refine gX3_ends hx hb hts iw3 hown hK hP (List.mem_of_getElem? (i := 4) rfl) dX3_put_55 ?_
  refine lv_iload hx hb dX3_put_58 (lv_at hl 4 rfl) ?_
  refine lv_iload_n hx hb dX3_put_60 rfl (lv_at hl 3 rfl) ?_
  refine sX3_ends hf hx hb hK hP hD hS dX3_put_61 (fun S_3 H locs hf hP hD hS => ?_)
  exact zrv hf hQ hP hD hS dX3_put_62
set_option maxHeartbeats 4000000 in
set_option maxRecDepth 100000 in
theorem kX3_put {r : zS} (hC0 : zC p m c cX3_put 5 s args wsX3_put RX3 D cI cZ) (hQ : zRv p l e rmX3_put s m args below meth c cX3_put D A (wX a cI) Q r) {S : zS} {x1 : Int32} {x2 : Int32} {x3 : Int32} (hf : fX3_put S x1 x2 x3 = some r) {H : Heap} {locs : List Loc} (hP : va_P D vwCl (wX a cI S) H) (hD : va_D A (wX a cI S)) (hS : va_S A s.heap H locs) {ls : Array Slot} (hl : lv_has ls 5 [(0, .ref (a 14)), (1, .int x1), (2, .int x2), (3, .int x3)]) : W p l e rmX3_put s m args below meth c H locs 0 0 Q (F0 m 0 ls []) := by
  obtain ⟨hC, hK, hN⟩ := id hC0
  obtain ⟨hx, hb, hml, hown, hts⟩ := id hC
  have iw3 := iwX3_put_3
  unfold fX3_put at hf
  refine lv_aload_n hx hb dX3_put_0 rfl (lv_at hl 0 rfl) ?_
  refine lv_iload_n hx hb dX3_put_1 rfl (lv_at hl 1 rfl) ?_
  obtain ⟨y_1, S_1, hg_1, hf⟩ := obnd_some hf
  refine zci (va_runV (As := [.int x1]) (rest := []) hC (tX3_slotOf hg_1) (cwV 1 hts gX3_put_X3_slotOf rfl rfl rfl (by decide +kernel) ⟨Nat.le_of_ble_eq_true rfl, Nat.le_of_ble_eq_true rfl⟩) (zpV hP hK hD hN (rX_14 hK hP)) rfl rfl hl.1 rfl (lv_room (Nat.le_of_ble_eq_true rfl)) dX3_put_2 ⟨Nat.zero_le _, Nat.zero_le _⟩) hS (fun H locs hP hD hS => ?_)
  refine z_istore hf hx hb (fun y => [(4, .int y), (0, .ref (a 14)), (1, .int x1), (2, .int x2), (3, .int x3)]) dX3_put_5 hl (by decide) (fun _ => rfl) (fun y_2 ls hf hl => ?_)
  refine lv_iload hx hb dX3_put_7 (lv_at hl 0 rfl) ?_
  refine lv_iconst (v := (-1 : Int32)) hx hb dX3_put_9 (by decide) ?_
  refine lv_icmp_ne (tgt := 38) hx hb dX3_put_10 (by decide) (fun h_1 => ?_) (fun h_1 => ?_)
  · have hf := zf h_1 hf
    exact kX3_put_38 hC0 hQ hf hP hD hS (lv_sub hl [1, 2, 3, 4, 0] rfl)
  · have hf := zt h_1 hf
    refine lv_aload_n hx hb dX3_put_13 rfl (lv_at hl 1 rfl) ?_
    refine gX3_size hx hb hts iw3 hown hK hP (List.mem_of_getElem? (i := 1) rfl) dX3_put_14 ?_
    refine lv_iconst (v := (4 : Int32)) hx hb dX3_put_17 (by decide) ?_
    refine lv_icmp_lt (tgt := 22) hx hb dX3_put_18 (by decide) (fun h_2 => ?_) (fun h_2 => ?_)
    · have hf := zt h_2 hf
      refine lv_aload_n hx hb dX3_put_22 rfl (lv_at hl 1 rfl) ?_
      refine gX3_size hx hb hts iw3 hown hK hP (List.mem_of_getElem? (i := 1) rfl) dX3_put_23 ?_
      refine z_istore hf hx hb (fun y => [(4, .int y), (0, .ref (a 14)), (1, .int x1), (2, .int x2), (3, .int x3)]) dX3_put_26 hl (by decide) (fun _ => rfl) (fun y_3 ls hf hl => ?_)
      refine lv_aload_n hx hb dX3_put_28 rfl (lv_at hl 1 rfl) ?_
      refine lv_dup hx hb dX3_put_29 rfl ?_
      refine gX3_size hx hb hts iw3 hown hK hP (List.mem_of_getElem? (i := 1) rfl) dX3_put_30 ?_
      refine lv_iconst (v := (1 : Int32)) hx hb dX3_put_33 (by decide) ?_
      refine lv_iadd hx hb dX3_put_34 ?_
      refine pX3_size hf hx hb hts iw3 hown hK hP hD hS (List.mem_of_getElem? (i := 1) rfl) dX3_put_35 (fun S_2 H locs hf hP hD hS => ?_)
      exact kX3_put_38 hC0 hQ hf hP hD hS (lv_sub hl [1, 2, 3, 4, 0] rfl)
    · have hf := zf h_2 hf
      exact zrv hf hQ hP hD hS dX3_put_21
theorem tX3_put {S : zS} {x1 : Int32} {x2 : Int32} {x3 : Int32} {r : zS} (hf : fX3_put S x1 x2 x3 = some r) : zMv l yX3_put wsX3_put rmX3_put D (zT cI cZ) A (wX a cI) [.ref (a 14), .int x1, .int x2, .int x3] S r :=
  zMv_of (by decide) rfl rfl (Nat.le_of_ble_eq_true rfl) (fun hC0 hQ hP hD hS _ hl => kX3_put hC0 hQ hf hP hD hS hl)
abbrev rmX3_removeSlot : Room := { frames := 0, cells := 0, slots := 0, locals := 0 }
theorem iwX3_removeSlot_3 : ∀ w ∈ wsX30, w ∈ wsX3_removeSlot := fun _ h => List.mem_cons_of_mem _ (List.mem_append_right _ h)
set_option maxHeartbeats 4000000 in
set_option maxRecDepth 100000 in
theorem kX3_removeSlot {r : zS} (hC0 : zC p m c cX3_removeSlot 2 s args wsX3_removeSlot RX3 D cI cZ) (hQ : zRv p l e rmX3_removeSlot s m args below meth c cX3_removeSlot D A (wX a cI) Q r) {S : zS} {x1 : Int32} (hf : fX3_removeSlot S x1 = some r) {H : Heap} {locs : List Loc} (hP : va_P D vwCl (wX a cI S) H) (hD : va_D A (wX a cI S)) (hS : va_S A s.heap H locs) {ls : Array Slot} (hl : lv_has ls 2 [(0, .ref (a 14)), (1, .int x1)]) : W p l e rmX3_removeSlot s m args below meth c H locs 0 0 Q (F0 m 0 ls []) := by
  obtain ⟨hC, hK, hN⟩ := id hC0
  obtain ⟨hx, hb, hml, hown, hts⟩ := id hC
  have iw3 := iwX3_removeSlot_3
  unfold fX3_removeSlot at hf
  refine lv_aload_n hx hb dX3_removeSlot_0 rfl (lv_at hl 0 rfl) ?_
  refine lv_dup hx hb dX3_removeSlot_1 rfl ?_
  refine gX3_size hx hb hts iw3 hown hK hP (List.mem_of_getElem? (i := 1) rfl) dX3_removeSlot_2 ?_
  refine lv_iconst (v := (1 : Int32)) hx hb dX3_removeSlot_5 (by decide) ?_
  refine lv_isub hx hb dX3_removeSlot_6 ?_
  refine pX3_size hf hx hb hts iw3 hown hK hP hD hS (List.mem_of_getElem? (i := 1) rfl) dX3_removeSlot_7 (fun S_1 H locs hf hP hD hS => ?_)
  refine lv_aload_n hx hb dX3_removeSlot_10 rfl (lv_at hl 0 rfl) ?_
  refine gX3_addresses hx hb hts iw3 hown hK hP (List.mem_of_getElem? (i := 2) rfl) dX3_removeSlot_11 ?_
  refine lv_iload_n hx hb dX3_removeSlot_14 rfl (lv_at hl 1 rfl) ?_
  refine lv_aload_n hx hb dX3_removeSlot_15 rfl (lv_at hl 0 rfl) ?_
  refine gX3_addresses hx hb hts iw3 hown hK hP (List.mem_of_getElem? (i := 2) rfl) dX3_removeSlot_16 ?_
  refine lv_aload_n hx hb dX3_removeSlot_19 rfl (lv_at hl 0 rfl) ?_
  refine gX3_size hx hb hts iw3 hown hK hP (List.mem_of_getElem? (i := 1) rfl) dX3_removeSlot_20 ?_
  refine lX3_addresses hf hx hb hK hP dX3_removeSlot_23 (fun hf => ?_)
  refine sX3_addresses hf hx hb hK hP hD hS dX3_removeSlot_24 (fun S_2 H locs hf hP hD hS => ?_)
  refine lv_aload_n hx hb dX3_removeSlot_25 rfl (lv_at hl 0 rfl) ?_
  refine gX3_ranks hx hb hts iw3 hown hK hP (List.mem_of_getElem? (i := 3) rfl) dX3_removeSlot_26 ?_
  refine lv_iload_n hx hb dX3_removeSlot_29 rfl (lv_at hl 1 rfl) ?_
  refine lv_aload_n hx hb dX3_removeSlot_30 rfl (lv_at hl 0 rfl) ?_
  refine gX3_ranks hx hb hts iw3 hown hK hP (List.mem_of_getElem? (i := 3) rfl) dX3_removeSlot_31 ?_
  refine lv_aload_n hx hb dX3_removeSlot_34 rfl (lv_at hl 0 rfl) ?_
  refine gX3_size hx hb hts iw3 hown hK hP (List.mem_of_getElem? (i := 1) rfl) dX3_removeSlot_35 ?_
  refine lX3_ranks hf hx hb hK hP dX3_removeSlot_38 (fun hf => ?_)
  refine sX3_ranks hf hx hb hK hP hD hS dX3_removeSlot_39 (fun S_3 H locs hf hP hD hS => ?_)
  refine lv_aload_n hx hb dX3_removeSlot_40 rfl (lv_at hl 0 rfl) ?_
  refine gX3_ends hx hb hts iw3 hown hK hP (List.mem_of_getElem? (i := 4) rfl) dX3_removeSlot_41 ?_
  refine lv_iload_n hx hb dX3_removeSlot_44 rfl (lv_at hl 1 rfl) ?_
  refine lv_aload_n hx hb dX3_removeSlot_45 rfl (lv_at hl 0 rfl) ?_
  refine gX3_ends hx hb hts iw3 hown hK hP (List.mem_of_getElem? (i := 4) rfl) dX3_removeSlot_46 ?_
  refine lv_aload_n hx hb dX3_removeSlot_49 rfl (lv_at hl 0 rfl) ?_
  refine gX3_size hx hb hts iw3 hown hK hP (List.mem_of_getElem? (i := 1) rfl) dX3_removeSlot_50 ?_
  refine lX3_ends hf hx hb hK hP dX3_removeSlot_53 (fun hf => ?_)
  refine sX3_ends hf hx hb hK hP hD hS dX3_removeSlot_54 (fun S_4 H locs hf hP hD hS => ?_)
  exact zrv hf hQ hP hD hS dX3_removeSlot_55
theorem tX3_removeSlot {S : zS} {x1 : Int32} {r : zS} (hf : fX3_removeSlot S x1 = some r) : zMv l yX3_removeSlot wsX3_removeSlot rmX3_removeSlot D (zT cI cZ) A (wX a cI) [.ref (a 14), .int x1] S r :=
  zMv_of (by decide) rfl rfl (Nat.le_of_ble_eq_true rfl) (fun hC0 hQ hP hD hS _ hl => kX3_removeSlot hC0 hQ hf hP hD hS hl)
abbrev rmX3_remove : Room := { frames := 1, cells := 0, slots := 0, locals := 22 }
theorem iwX3_remove_3 : ∀ w ∈ wsX30, w ∈ wsX3_remove := fun _ h => List.mem_cons_of_mem _ (List.mem_append_right _ h)
set_option maxHeartbeats 4000000 in
set_option maxRecDepth 100000 in
theorem kX3_remove {r : zS} (hC0 : zC p m c cX3_remove 3 s args wsX3_remove RX3 D cI cZ) (hQ : zRv p l e rmX3_remove s m args below meth c cX3_remove D A (wX a cI) Q r) {S : zS} {x1 : Int32} (hf : fX3_remove S x1 = some r) {H : Heap} {locs : List Loc} (hP : va_P D vwCl (wX a cI S) H) (hD : va_D A (wX a cI S)) (hS : va_S A s.heap H locs) {ls : Array Slot} (hl : lv_has ls 3 [(0, .ref (a 14)), (1, .int x1)]) : W p l e rmX3_remove s m args below meth c H locs 0 0 Q (F0 m 0 ls []) := by
  obtain ⟨hC, hK, hN⟩ := id hC0
  obtain ⟨hx, hb, hml, hown, hts⟩ := id hC
  have iw3 := iwX3_remove_3
  unfold fX3_remove at hf
  refine lv_aload_n hx hb dX3_remove_0 rfl (lv_at hl 0 rfl) ?_
  refine lv_iload_n hx hb dX3_remove_1 rfl (lv_at hl 1 rfl) ?_
  obtain ⟨y_1, S_1, hg_1, hf⟩ := obnd_some hf
  refine zci (va_runV (As := [.int x1]) (rest := []) hC (tX3_slotOf hg_1) (cwV 1 hts gX3_remove_X3_slotOf rfl rfl rfl (by decide +kernel) ⟨Nat.le_of_ble_eq_true rfl, Nat.le_of_ble_eq_true rfl⟩) (zpV hP hK hD hN (rX_14 hK hP)) rfl rfl hl.1 rfl (lv_room (Nat.le_of_ble_eq_true rfl)) dX3_remove_2 ⟨Nat.zero_le _, Nat.zero_le _⟩) hS (fun H locs hP hD hS => ?_)
  refine z_istore_n hf hx hb (fun y => [(2, .int y), (0, .ref (a 14)), (1, .int x1)]) dX3_remove_5 rfl hl (by decide) (fun _ => rfl) (fun y_2 ls hf hl => ?_)
  refine lv_iload_n hx hb dX3_remove_6 rfl (lv_at hl 0 rfl) ?_
  refine lv_iconst (v := (-1 : Int32)) hx hb dX3_remove_7 (by decide) ?_
  refine lv_icmp_eq (tgt := 16) hx hb dX3_remove_8 (by decide) (fun h_1 => ?_) (fun h_1 => ?_)
  · have hf := zt h_1 hf
    exact zrv hf hQ hP hD hS dX3_remove_16
  · have hf := zf h_1 hf
    refine lv_aload_n hx hb dX3_remove_11 rfl (lv_at hl 1 rfl) ?_
    refine lv_iload_n hx hb dX3_remove_12 rfl (lv_at hl 0 rfl) ?_
    obtain ⟨S_2, hg_2, hf⟩ := obnv_some hf
    refine zcv (va_runV (As := [.int y_2]) (rest := []) hC (tX3_removeSlot hg_2) (cwV 1 hts gX3_remove_X3_removeSlot rfl rfl rfl (by decide +kernel) ⟨Nat.le_of_ble_eq_true rfl, Nat.le_of_ble_eq_true rfl⟩) (zpV hP hK hD hN (rX_14 hK hP)) rfl rfl hl.1 rfl (lv_room (Nat.le_of_ble_eq_true rfl)) dX3_remove_13 ⟨Nat.zero_le _, Nat.zero_le _⟩) hS (fun H locs hP hD hS => ?_)
    exact zrv hf hQ hP hD hS dX3_remove_16
theorem tX3_remove {S : zS} {x1 : Int32} {r : zS} (hf : fX3_remove S x1 = some r) : zMv l yX3_remove wsX3_remove rmX3_remove D (zT cI cZ) A (wX a cI) [.ref (a 14), .int x1] S r :=
  zMv_of (by decide) rfl rfl (Nat.le_of_ble_eq_true rfl) (fun hC0 hQ hP hD hS _ hl => kX3_remove hC0 hQ hf hP hD hS hl)
abbrev rmX3_endThoseOf : Room := { frames := 1, cells := 0, slots := 0, locals := 21 }
theorem iwX3_endThoseOf_3 : ∀ w ∈ wsX30, w ∈ wsX3_endThoseOf := fun _ h => List.mem_cons_of_mem _ (List.mem_append_right _ h)
set_option maxHeartbeats 4000000 in
set_option maxRecDepth 100000 in
theorem kX3_endThoseOf_26 {r : zS} (hC0 : zC p m c cX3_endThoseOf 3 s args wsX3_endThoseOf RX3 D cI cZ) (hQ : zRv p l e rmX3_endThoseOf s m args below meth c cX3_endThoseOf D A (wX a cI) Q r) {F7 : zS → Int32 → Int32 → Option (zS)} (hF7 : ∀ (S : zS) (x1 : Int32) (x2 : Int32), F7 S x1 x2 = some r → ∀ {H : Heap} {locs : List Loc}, va_P D vwCl (wX a cI S) H → va_D A (wX a cI S) → va_S A s.heap H locs → ∀ {ls : Array Slot}, lv_has ls 3 [(0, .ref (a 14)), (1, .int x1), (2, .int x2)] → W p l e rmX3_endThoseOf s m args below meth c H locs 0 0 Q (F0 m 7 ls [])) {S : zS} {x1 : Int32} {x2 : Int32} (hf : fX3_endThoseOf_26 F7 S x1 x2 = some r) {H : Heap} {locs : List Loc} (hP : va_P D vwCl (wX a cI S) H) (hD : va_D A (wX a cI S)) (hS : va_S A s.heap H locs) {ls : Array Slot} (hl : lv_has ls 3 [(0, .ref (a 14)), (1, .int x1), (2, .int x2)]) : W p l e rmX3_endThoseOf s m args below meth c H locs 0 0 Q (F0 m 26 ls []) := by
  obtain ⟨hC, hK, hN⟩ := id hC0
  obtain ⟨hx, hb, hml, hown, hts⟩ := id hC
  have iw3 := iwX3_endThoseOf_3
  unfold fX3_endThoseOf_26 at hf
  refine z_iinc hf hx hb 2 (fun y => [(2, .int y), (0, .ref (a 14)), (1, .int x1)]) dX3_endThoseOf_26 hl rfl (by decide) (by decide) (fun _ => rfl) (fun y_1 ls hf hl => ?_)
  refine lv_goto (tgt := 7) hx hb dX3_endThoseOf_29 (by decide) ?_
  exact hF7 _ _ _ hf hP hD hS (lv_sub hl [1, 2, 0] rfl)
set_option maxHeartbeats 4000000 in
set_option maxRecDepth 100000 in
theorem kX3_endThoseOf_7b {r : zS} (hC0 : zC p m c cX3_endThoseOf 3 s args wsX3_endThoseOf RX3 D cI cZ) (hQ : zRv p l e rmX3_endThoseOf s m args below meth c cX3_endThoseOf D A (wX a cI) Q r) {F7 : zS → Int32 → Int32 → Option (zS)} (hF7 : ∀ (S : zS) (x1 : Int32) (x2 : Int32), F7 S x1 x2 = some r → ∀ {H : Heap} {locs : List Loc}, va_P D vwCl (wX a cI S) H → va_D A (wX a cI S) → va_S A s.heap H locs → ∀ {ls : Array Slot}, lv_has ls 3 [(0, .ref (a 14)), (1, .int x1), (2, .int x2)] → W p l e rmX3_endThoseOf s m args below meth c H locs 0 0 Q (F0 m 7 ls [])) {S : zS} {x1 : Int32} {x2 : Int32} (hf : bX3_endThoseOf_7 F7 S x1 x2 = some r) {H : Heap} {locs : List Loc} (hP : va_P D vwCl (wX a cI S) H) (hD : va_D A (wX a cI S)) (hS : va_S A s.heap H locs) {ls : Array Slot} (hl : lv_has ls 3 [(0, .ref (a 14)), (1, .int x1), (2, .int x2)]) : W p l e rmX3_endThoseOf s m args below meth c H locs 0 0 Q (F0 m 7 ls []) := by
  obtain ⟨hC, hK, hN⟩ := id hC0
  obtain ⟨hx, hb, hml, hown, hts⟩ := id hC
  have iw3 := iwX3_endThoseOf_3
  unfold bX3_endThoseOf_7 at hf
  refine lv_iload_n hx hb dX3_endThoseOf_7 rfl (lv_at hl 2 rfl) ?_
  refine lv_if_lt (tgt := 32) hx hb dX3_endThoseOf_8 (by decide) (fun h_1 => ?_) (fun h_1 => ?_)
  · have hf := zt h_1 hf
    exact zrv hf hQ hP hD hS dX3_endThoseOf_32
  · have hf := zf h_1 hf
    refine lv_aload_n hx hb dX3_endThoseOf_11 rfl (lv_at hl 0 rfl) ?_
    refine gX3_ends hx hb hts iw3 hown hK hP (List.mem_of_getElem? (i := 2) rfl) dX3_endThoseOf_12 ?_
    refine lv_iload_n hx hb dX3_endThoseOf_15 rfl (lv_at hl 2 rfl) ?_
    refine lX3_ends hf hx hb hK hP dX3_endThoseOf_16 (fun hf => ?_)
    refine lv_iload_n hx hb dX3_endThoseOf_17 rfl (lv_at hl 1 rfl) ?_
    refine lv_icmp_ne (tgt := 26) hx hb dX3_endThoseOf_18 (by decide) (fun h_2 => ?_) (fun h_2 => ?_)
    · have hf := zf h_2 hf
      exact kX3_endThoseOf_26 hC0 hQ hF7 hf hP hD hS (lv_sub hl [0, 1, 2] rfl)
    · have hf := zt h_2 hf
      refine lv_aload_n hx hb dX3_endThoseOf_21 rfl (lv_at hl 0 rfl) ?_
      refine lv_iload_n hx hb dX3_endThoseOf_22 rfl (lv_at hl 2 rfl) ?_
      obtain ⟨S_1, hg_1, hf⟩ := obnv_some hf
      refine zcv (va_runV (As := [.int x2]) (rest := []) hC (tX3_removeSlot hg_1) (cwV 1 hts gX3_endThoseOf_X3_removeSlot rfl rfl rfl (by decide +kernel) ⟨Nat.le_of_ble_eq_true rfl, Nat.le_of_ble_eq_true rfl⟩) (zpV hP hK hD hN (rX_14 hK hP)) rfl rfl hl.1 rfl (lv_room (Nat.le_of_ble_eq_true rfl)) dX3_endThoseOf_23 ⟨Nat.zero_le _, Nat.zero_le _⟩) hS (fun H locs hP hD hS => ?_)
      exact kX3_endThoseOf_26 hC0 hQ hF7 hf hP hD hS (lv_sub hl [0, 1, 2] rfl)
theorem kX3_endThoseOf_7 {r : zS} (hC0 : zC p m c cX3_endThoseOf 3 s args wsX3_endThoseOf RX3 D cI cZ) (hQ : zRv p l e rmX3_endThoseOf s m args below meth c cX3_endThoseOf D A (wX a cI) Q r) (n : Nat) : ∀ (S : zS) (x1 : Int32) (x2 : Int32), fX3_endThoseOf_7 n S x1 x2 = some r → ∀ {H : Heap} {locs : List Loc}, va_P D vwCl (wX a cI S) H → va_D A (wX a cI S) → va_S A s.heap H locs → ∀ {ls : Array Slot}, lv_has ls 3 [(0, .ref (a 14)), (1, .int x1), (2, .int x2)] → W p l e rmX3_endThoseOf s m args below meth c H locs 0 0 Q (F0 m 7 ls []) := by
  induction n with
  | zero => intro S x1 x2 hf; cases hf
  | succ n ih => intro S x1 x2 hf; exact kX3_endThoseOf_7b hC0 hQ ih hf
set_option maxHeartbeats 4000000 in
set_option maxRecDepth 100000 in
theorem kX3_endThoseOf {r : zS} (hC0 : zC p m c cX3_endThoseOf 3 s args wsX3_endThoseOf RX3 D cI cZ) (hQ : zRv p l e rmX3_endThoseOf s m args below meth c cX3_endThoseOf D A (wX a cI) Q r) {S : zS} {x1 : Int32} (hf : fX3_endThoseOf S x1 = some r) {H : Heap} {locs : List Loc} (hP : va_P D vwCl (wX a cI S) H) (hD : va_D A (wX a cI S)) (hS : va_S A s.heap H locs) {ls : Array Slot} (hl : lv_has ls 3 [(0, .ref (a 14)), (1, .int x1)]) : W p l e rmX3_endThoseOf s m args below meth c H locs 0 0 Q (F0 m 0 ls []) := by
  obtain ⟨hC, hK, hN⟩ := id hC0
  obtain ⟨hx, hb, hml, hown, hts⟩ := id hC
  have iw3 := iwX3_endThoseOf_3
  unfold fX3_endThoseOf at hf
  refine lv_aload_n hx hb dX3_endThoseOf_0 rfl (lv_at hl 0 rfl) ?_
  refine gX3_size hx hb hts iw3 hown hK hP (List.mem_of_getElem? (i := 1) rfl) dX3_endThoseOf_1 ?_
  refine lv_iconst (v := (1 : Int32)) hx hb dX3_endThoseOf_4 (by decide) ?_
  refine lv_isub hx hb dX3_endThoseOf_5 ?_
  refine z_istore_n hf hx hb (fun y => [(2, .int y), (0, .ref (a 14)), (1, .int x1)]) dX3_endThoseOf_6 rfl hl (by decide) (fun _ => rfl) (fun y_1 ls hf hl => ?_)
  exact kX3_endThoseOf_7 hC0 hQ 64 _ _ _ hf hP hD hS (lv_sub hl [1, 2, 0] rfl)
theorem tX3_endThoseOf {S : zS} {x1 : Int32} {r : zS} (hf : fX3_endThoseOf S x1 = some r) : zMv l yX3_endThoseOf wsX3_endThoseOf rmX3_endThoseOf D (zT cI cZ) A (wX a cI) [.ref (a 14), .int x1] S r :=
  zMv_of (by decide) rfl rfl (Nat.le_of_ble_eq_true rfl) (fun hC0 hQ hP hD hS _ hl => kX3_endThoseOf hC0 hQ hf hP hD hS hl)
abbrev rmX3_isGood : Room := { frames := 1, cells := 0, slots := 0, locals := 21 }
theorem iwX3_isGood_3 : ∀ w ∈ wsX30, w ∈ wsX3_isGood := fun _ h => List.mem_cons_of_mem _ (List.mem_append_left _ (List.mem_append_right _ h))
theorem iwX3_isGood_0 : ∀ w ∈ wsX00, w ∈ wsX3_isGood := fun _ h => List.mem_cons_of_mem _ (List.mem_append_right _ h)
set_option maxHeartbeats 4000000 in
set_option maxRecDepth 100000 in
theorem kX3_isGood {r : Int32 × zS} (hC0 : zC p m c cX3_isGood 3 s args wsX3_isGood RX3 D cI cZ) (hQ : zRz p l e rmX3_isGood s m args below meth c cX3_isGood D A (wX a cI) Q r) {S : zS} {x1 : Int32} (hf : fX3_isGood S x1 = some r) {H : Heap} {locs : List Loc} (hP : va_P D vwCl (wX a cI S) H) (hD : va_D A (wX a cI S)) (hS : va_S A s.heap H locs) {ls : Array Slot} (hl : lv_has ls 3 [(0, .ref (a 14)), (1, .int x1), (2, .ref (a 6))]) : W p l e rmX3_isGood s m args below meth c H locs 0 0 Q (F0 m 0 ls []) := by
  obtain ⟨hC, hK, hN⟩ := id hC0
  obtain ⟨hx, hb, hml, hown, hts⟩ := id hC
  have iw3 := iwX3_isGood_3
  have iw0 := iwX3_isGood_0
  unfold fX3_isGood at hf
  refine lv_aload_n hx hb dX3_isGood_0 rfl (lv_at hl 2 rfl) ?_
  refine lv_aload_n hx hb dX3_isGood_1 rfl (lv_at hl 0 rfl) ?_
  refine gX3_addresses hx hb hts iw3 hown hK hP (List.mem_of_getElem? (i := 1) rfl) dX3_isGood_2 ?_
  refine lv_iload_n hx hb dX3_isGood_5 rfl (lv_at hl 1 rfl) ?_
  refine lX3_addresses hf hx hb hK hP dX3_isGood_6 (fun hf => ?_)
  obtain ⟨y_1, S_1, hg_1, hf⟩ := obnd_some hf
  refine zci (va_runVN (As := [.int (S.2.1 10 (x1).toNatClampNeg)]) (rest := []) hC (tX0_hasMark hg_1) ⟨va_cnB 1 hts gX3_isGood_X0_hasMark_n37 rfl rfl rfl (hN _ zN12) (hts _ (List.mem_of_getElem? (i := 3) rfl)) (by decide +kernel) ⟨Nat.le_of_ble_eq_true rfl, Nat.le_of_ble_eq_true rfl⟩, hts _ (List.mem_of_getElem? (i := 2) rfl), hts _ (List.mem_of_getElem? (i := 4) rfl)⟩ (zpV hP hK hD hN (rX_6 hK hP)) rfl rfl hl.1 rfl (lv_room (Nat.le_of_ble_eq_true rfl)) dX3_isGood_7 ⟨Nat.zero_le _, Nat.zero_le _⟩) hS (fun H locs hP hD hS => ?_)
  obtain ⟨hz_1, hf⟩ := zbl_some hf
  exact zrz hf hz_1 hQ hP hD hS dX3_isGood_10
theorem tX3_isGood {S : zS} {x1 : Int32} {r : Int32 × zS} (hf : fX3_isGood S x1 = some r) : zMi l yX3_isGood wsX3_isGood rmX3_isGood D (zT cI cZ) A (wX a cI) [.ref (a 14), .int x1, .ref (a 6)] S r :=
  zMz_of (by decide) rfl rfl (Nat.le_of_ble_eq_true rfl) (fun hC0 hQ hP hD hS _ hl => kX3_isGood hC0 hQ hf hP hD hS hl)
abbrev rmX3_weight : Room := { frames := 1, cells := 0, slots := 0, locals := 21 }
theorem iwX3_weight_3 : ∀ w ∈ wsX30, w ∈ wsX3_weight := fun _ h => List.mem_cons_of_mem _ (List.mem_append_left _ (List.mem_append_right _ h))
theorem iwX3_weight_0 : ∀ w ∈ wsX00, w ∈ wsX3_weight := fun _ h => List.mem_cons_of_mem _ (List.mem_append_right _ h)
set_option maxHeartbeats 4000000 in
set_option maxRecDepth 100000 in
theorem kX3_weight_18 {r : Int32 × zS} (hC0 : zC p m c cX3_weight 4 s args wsX3_weight RX3 D cI cZ) (hQ : zRi p l e rmX3_weight s m args below meth c cX3_weight D A (wX a cI) Q r) {S : zS} {x1 : Int32} {t0 : Int32} (hf : fX3_weight_18 S x1 t0 = some r) {H : Heap} {locs : List Loc} (hP : va_P D vwCl (wX a cI S) H) (hD : va_D A (wX a cI S)) (hS : va_S A s.heap H locs) {ls : Array Slot} (hl : lv_has ls 4 [(0, .ref (a 14)), (1, .int x1)]) : W p l e rmX3_weight s m args below meth c H locs 0 0 Q (F0 m 18 ls [.int t0]) := by
  obtain ⟨hC, hK, hN⟩ := id hC0
  obtain ⟨hx, hb, hml, hown, hts⟩ := id hC
  have iw3 := iwX3_weight_3
  have iw0 := iwX3_weight_0
  unfold fX3_weight_18 at hf
  refine z_istore_n hf hx hb (fun y => [(3, .int y), (0, .ref (a 14)), (1, .int x1)]) dX3_weight_18 rfl hl (by decide) (fun _ => rfl) (fun y_1 ls hf hl => ?_)
  refine lv_iload_n hx hb dX3_weight_19 rfl (lv_at hl 0 rfl) ?_
  refine lv_iconst (v := (3 : Int32)) hx hb dX3_weight_20 (by decide) ?_
  refine lv_imul hx hb dX3_weight_21 ?_
  refine lv_aload_n hx hb dX3_weight_22 rfl (lv_at hl 1 rfl) ?_
  refine gX3_ranks hx hb hts iw3 hown hK hP (List.mem_of_getElem? (i := 2) rfl) dX3_weight_23 ?_
  refine lv_iload_n hx hb dX3_weight_26 rfl (lv_at hl 2 rfl) ?_
  refine lX3_ranks hf hx hb hK hP dX3_weight_27 (fun hf => ?_)
  refine lv_iadd hx hb dX3_weight_28 ?_
  refine lv_bipush (v := (16 : Int32)) hx hb dX3_weight_29 (by decide) ?_
  refine lv_imul hx hb dX3_weight_31 ?_
  refine lv_aload_n hx hb dX3_weight_32 rfl (lv_at hl 1 rfl) ?_
  refine gX3_addresses hx hb hts iw3 hown hK hP (List.mem_of_getElem? (i := 1) rfl) dX3_weight_33 ?_
  refine lv_iload_n hx hb dX3_weight_36 rfl (lv_at hl 2 rfl) ?_
  refine lX3_addresses hf hx hb hK hP dX3_weight_37 (fun hf => ?_)
  refine lv_isub hx hb dX3_weight_38 ?_
  exact zri hf hQ hP hD hS dX3_weight_39
set_option maxHeartbeats 4000000 in
set_option maxRecDepth 100000 in
theorem kX3_weight {r : Int32 × zS} (hC0 : zC p m c cX3_weight 4 s args wsX3_weight RX3 D cI cZ) (hQ : zRi p l e rmX3_weight s m args below meth c cX3_weight D A (wX a cI) Q r) {S : zS} {x1 : Int32} (hf : fX3_weight S x1 = some r) {H : Heap} {locs : List Loc} (hP : va_P D vwCl (wX a cI S) H) (hD : va_D A (wX a cI S)) (hS : va_S A s.heap H locs) {ls : Array Slot} (hl : lv_has ls 4 [(0, .ref (a 14)), (1, .int x1), (2, .ref (a 6))]) : W p l e rmX3_weight s m args below meth c H locs 0 0 Q (F0 m 0 ls []) := by
  obtain ⟨hC, hK, hN⟩ := id hC0
  obtain ⟨hx, hb, hml, hown, hts⟩ := id hC
  have iw3 := iwX3_weight_3
  have iw0 := iwX3_weight_0
  unfold fX3_weight at hf
  refine lv_aload_n hx hb dX3_weight_0 rfl (lv_at hl 2 rfl) ?_
  refine lv_aload_n hx hb dX3_weight_1 rfl (lv_at hl 0 rfl) ?_
  refine gX3_addresses hx hb hts iw3 hown hK hP (List.mem_of_getElem? (i := 1) rfl) dX3_weight_2 ?_
  refine lv_iload_n hx hb dX3_weight_5 rfl (lv_at hl 1 rfl) ?_
  refine lX3_addresses hf hx hb hK hP dX3_weight_6 (fun hf => ?_)
  obtain ⟨y_1, S_1, hg_1, hf⟩ := obnd_some hf
  refine zci (va_runVN (As := [.int (S.2.1 10 (x1).toNatClampNeg)]) (rest := []) hC (tX0_hasMark hg_1) ⟨va_cnB 1 hts gX3_weight_X0_hasMark_n37 rfl rfl rfl (hN _ zN12) (hts _ (List.mem_of_getElem? (i := 4) rfl)) (by decide +kernel) ⟨Nat.le_of_ble_eq_true rfl, Nat.le_of_ble_eq_true rfl⟩, hts _ (List.mem_of_getElem? (i := 3) rfl), hts _ (List.mem_of_getElem? (i := 5) rfl)⟩ (zpV hP hK hD hN (rX_6 hK hP)) rfl rfl hl.1 rfl (lv_room (Nat.le_of_ble_eq_true rfl)) dX3_weight_7 ⟨Nat.zero_le _, Nat.zero_le _⟩) hS (fun H locs hP hD hS => ?_)
  refine lv_if_eq (tgt := 17) hx hb dX3_weight_10 (by decide) (fun h_1 => ?_) (fun h_1 => ?_)
  · have hf := zt h_1 hf
    refine lv_iconst (v := (0 : Int32)) hx hb dX3_weight_17 (by decide) ?_
    exact kX3_weight_18 hC0 hQ hf hP hD hS (lv_sub hl [0, 1] rfl)
  · have hf := zf h_1 hf
    refine lv_iconst (v := (1 : Int32)) hx hb dX3_weight_13 (by decide) ?_
    refine lv_goto (tgt := 18) hx hb dX3_weight_14 (by decide) ?_
    exact kX3_weight_18 hC0 hQ hf hP hD hS (lv_sub hl [0, 1] rfl)
theorem tX3_weight {S : zS} {x1 : Int32} {r : Int32 × zS} (hf : fX3_weight S x1 = some r) : zMi l yX3_weight wsX3_weight rmX3_weight D (zT cI cZ) A (wX a cI) [.ref (a 14), .int x1, .ref (a 6)] S r :=
  zMi_of (by decide) rfl rfl (Nat.le_of_ble_eq_true rfl) (fun hC0 hQ hP hD hS _ hl => kX3_weight hC0 hQ hf hP hD hS hl)
abbrev rmX3_slotInOrder : Room := { frames := 2, cells := 0, slots := 0, locals := 44 }
theorem iwX3_slotInOrder_3 : ∀ w ∈ wsX30, w ∈ wsX3_slotInOrder := fun _ h => List.mem_cons_of_mem _ (List.mem_append_left _ (List.mem_append_right _ h))
theorem iwX3_slotInOrder_0 : ∀ w ∈ wsX00, w ∈ wsX3_slotInOrder := fun _ h => List.mem_cons_of_mem _ (List.mem_append_right _ h)
set_option maxHeartbeats 4000000 in
set_option maxRecDepth 100000 in
theorem kX3_slotInOrder_48 {r : Int32 × zS} (hC0 : zC p m c cX3_slotInOrder 7 s args wsX3_slotInOrder RX3 D cI cZ) (hQ : zRi p l e rmX3_slotInOrder s m args below meth c cX3_slotInOrder D A (wX a cI) Q r) {F2 : zS → Int32 → Int32 → Option (Int32 × zS)} (hF2 : ∀ (S : zS) (x1 : Int32) (x3 : Int32), F2 S x1 x3 = some r → ∀ {H : Heap} {locs : List Loc}, va_P D vwCl (wX a cI S) H → va_D A (wX a cI S) → va_S A s.heap H locs → ∀ {ls : Array Slot}, lv_has ls 7 [(0, .ref (a 14)), (1, .int x1), (2, .ref (a 6)), (3, .int x3)] → W p l e rmX3_slotInOrder s m args below meth c H locs 0 0 Q (F0 m 2 ls [])) {F24 : zS → Int32 → Int32 → Int32 → Int32 → Int32 → Option (Int32 × zS)} (hF24 : ∀ (S : zS) (x1 : Int32) (x3 : Int32) (x4 : Int32) (x5 : Int32) (x6 : Int32), F24 S x1 x3 x4 x5 x6 = some r → ∀ {H : Heap} {locs : List Loc}, va_P D vwCl (wX a cI S) H → va_D A (wX a cI S) → va_S A s.heap H locs → ∀ {ls : Array Slot}, lv_has ls 7 [(0, .ref (a 14)), (1, .int x1), (2, .ref (a 6)), (3, .int x3), (4, .int x4), (5, .int x5), (6, .int x6)] → W p l e rmX3_slotInOrder s m args below meth c H locs 0 0 Q (F0 m 24 ls [])) {S : zS} {x1 : Int32} {x3 : Int32} {x4 : Int32} {x5 : Int32} {x6 : Int32} (hf : fX3_slotInOrder_48 F2 F24 S x1 x3 x4 x5 x6 = some r) {H : Heap} {locs : List Loc} (hP : va_P D vwCl (wX a cI S) H) (hD : va_D A (wX a cI S)) (hS : va_S A s.heap H locs) {ls : Array Slot} (hl : lv_has ls 7 [(0, .ref (a 14)), (1, .int x1), (2, .ref (a 6)), (3, .int x3), (4, .int x4), (5, .int x5), (6, .int x6)]) : W p l e rmX3_slotInOrder s m args below meth c H locs 0 0 Q (F0 m 48 ls []) := by
  obtain ⟨hC, hK, hN⟩ := id hC0
  obtain ⟨hx, hb, hml, hown, hts⟩ := id hC
  have iw3 := iwX3_slotInOrder_3
  have iw0 := iwX3_slotInOrder_0
  unfold fX3_slotInOrder_48 at hf
  refine z_iinc hf hx hb 6 (fun y => [(6, .int y), (0, .ref (a 14)), (1, .int x1), (2, .ref (a 6)), (3, .int x3), (4, .int x4), (5, .int x5)]) dX3_slotInOrder_48 hl rfl (by decide) (by decide) (fun _ => rfl) (fun y_1 ls hf hl => ?_)
  refine lv_goto (tgt := 24) hx hb dX3_slotInOrder_51 (by decide) ?_
  exact hF24 _ _ _ _ _ _ hf hP hD hS (lv_sub hl [1, 2, 3, 4, 5, 6, 0] rfl)
set_option maxHeartbeats 4000000 in
set_option maxRecDepth 100000 in
theorem kX3_slotInOrder_24b {r : Int32 × zS} (hC0 : zC p m c cX3_slotInOrder 7 s args wsX3_slotInOrder RX3 D cI cZ) (hQ : zRi p l e rmX3_slotInOrder s m args below meth c cX3_slotInOrder D A (wX a cI) Q r) {F2 : zS → Int32 → Int32 → Option (Int32 × zS)} (hF2 : ∀ (S : zS) (x1 : Int32) (x3 : Int32), F2 S x1 x3 = some r → ∀ {H : Heap} {locs : List Loc}, va_P D vwCl (wX a cI S) H → va_D A (wX a cI S) → va_S A s.heap H locs → ∀ {ls : Array Slot}, lv_has ls 7 [(0, .ref (a 14)), (1, .int x1), (2, .ref (a 6)), (3, .int x3)] → W p l e rmX3_slotInOrder s m args below meth c H locs 0 0 Q (F0 m 2 ls [])) {F24 : zS → Int32 → Int32 → Int32 → Int32 → Int32 → Option (Int32 × zS)} (hF24 : ∀ (S : zS) (x1 : Int32) (x3 : Int32) (x4 : Int32) (x5 : Int32) (x6 : Int32), F24 S x1 x3 x4 x5 x6 = some r → ∀ {H : Heap} {locs : List Loc}, va_P D vwCl (wX a cI S) H → va_D A (wX a cI S) → va_S A s.heap H locs → ∀ {ls : Array Slot}, lv_has ls 7 [(0, .ref (a 14)), (1, .int x1), (2, .ref (a 6)), (3, .int x3), (4, .int x4), (5, .int x5), (6, .int x6)] → W p l e rmX3_slotInOrder s m args below meth c H locs 0 0 Q (F0 m 24 ls [])) {S : zS} {x1 : Int32} {x3 : Int32} {x4 : Int32} {x5 : Int32} {x6 : Int32} (hf : bX3_slotInOrder_24 F2 F24 S x1 x3 x4 x5 x6 = some r) {H : Heap} {locs : List Loc} (hP : va_P D vwCl (wX a cI S) H) (hD : va_D A (wX a cI S)) (hS : va_S A s.heap H locs) {ls : Array Slot} (hl : lv_has ls 7 [(0, .ref (a 14)), (1, .int x1), (2, .ref (a 6)), (3, .int x3), (4, .int x4), (5, .int x5), (6, .int x6)]) : W p l e rmX3_slotInOrder s m args below meth c H locs 0 0 Q (F0 m 24 ls []) := by
  obtain ⟨hC, hK, hN⟩ := id hC0
  obtain ⟨hx, hb, hml, hown, hts⟩ := id hC
  have iw3 := iwX3_slotInOrder_3
  have iw0 := iwX3_slotInOrder_0
  unfold bX3_slotInOrder_24 at hf
  refine lv_iload hx hb dX3_slotInOrder_24 (lv_at hl 6 rfl) ?_
  refine lv_aload_n hx hb dX3_slotInOrder_26 rfl (lv_at hl 0 rfl) ?_
  refine gX3_size hx hb hts iw3 hown hK hP (List.mem_of_getElem? (i := 1) rfl) dX3_slotInOrder_27 ?_
  refine lv_icmp_ge (tgt := 54) hx hb dX3_slotInOrder_30 (by decide) (fun h_1 => ?_) (fun h_1 => ?_)
  · have hf := zt h_1 hf
    refine lv_iload hx hb dX3_slotInOrder_54 (lv_at hl 5 rfl) ?_
    refine lv_iload_n hx hb dX3_slotInOrder_56 rfl (lv_at hl 1 rfl) ?_
    refine lv_icmp_ne (tgt := 62) hx hb dX3_slotInOrder_57 (by decide) (fun h_2 => ?_) (fun h_2 => ?_)
    · have hf := zf h_2 hf
      refine z_iinc hf hx hb 3 (fun y => [(3, .int y), (0, .ref (a 14)), (1, .int x1), (2, .ref (a 6)), (4, .int x4), (5, .int x5), (6, .int x6)]) dX3_slotInOrder_62 hl rfl (by decide) (by decide) (fun _ => rfl) (fun y_1 ls hf hl => ?_)
      refine lv_goto (tgt := 2) hx hb dX3_slotInOrder_65 (by decide) ?_
      exact hF2 _ _ _ hf hP hD hS (lv_sub hl [1, 2, 3, 0] rfl)
    · have hf := zt h_2 hf
      refine lv_iload_n hx hb dX3_slotInOrder_60 rfl (lv_at hl 3 rfl) ?_
      exact zri hf hQ hP hD hS dX3_slotInOrder_61
  · have hf := zf h_1 hf
    refine lv_aload_n hx hb dX3_slotInOrder_33 rfl (lv_at hl 0 rfl) ?_
    refine lv_iload hx hb dX3_slotInOrder_34 (lv_at hl 6 rfl) ?_
    refine lv_aload_n hx hb dX3_slotInOrder_36 rfl (lv_at hl 2 rfl) ?_
    obtain ⟨y_2, S_1, hg_1, hf⟩ := obnd_some hf
    refine zci (va_runV (As := [.int x6, .ref (a 6)]) (rest := []) hC (tX3_weight hg_1) (cwV 2 hts gX3_slotInOrder_X3_weight rfl rfl rfl (by decide +kernel) ⟨Nat.le_of_ble_eq_true rfl, Nat.le_of_ble_eq_true rfl⟩) (zpV hP hK hD hN (rX_14 hK hP)) rfl rfl hl.1 rfl (lv_room (Nat.le_of_ble_eq_true rfl)) dX3_slotInOrder_37 ⟨Nat.zero_le _, Nat.zero_le _⟩) hS (fun H locs hP hD hS => ?_)
    refine lv_iload hx hb dX3_slotInOrder_40 (lv_at hl 4 rfl) ?_
    refine lv_icmp_le (tgt := 48) hx hb dX3_slotInOrder_42 (by decide) (fun h_3 => ?_) (fun h_3 => ?_)
    · have hf := zt h_3 hf
      exact kX3_slotInOrder_48 hC0 hQ hF2 hF24 hf hP hD hS (lv_sub hl [0, 1, 2, 3, 4, 5, 6] rfl)
    · have hf := zf h_3 hf
      refine z_iinc hf hx hb 5 (fun y => [(5, .int y), (0, .ref (a 14)), (1, .int x1), (2, .ref (a 6)), (3, .int x3), (4, .int x4), (6, .int x6)]) dX3_slotInOrder_45 hl rfl (by decide) (by decide) (fun _ => rfl) (fun y_3 ls hf hl => ?_)
      exact kX3_slotInOrder_48 hC0 hQ hF2 hF24 hf hP hD hS (lv_sub hl [1, 2, 3, 4, 5, 0, 6] rfl)
theorem kX3_slotInOrder_24 {r : Int32 × zS} (hC0 : zC p m c cX3_slotInOrder 7 s args wsX3_slotInOrder RX3 D cI cZ) (hQ : zRi p l e rmX3_slotInOrder s m args below meth c cX3_slotInOrder D A (wX a cI) Q r) {F2 : zS → Int32 → Int32 → Option (Int32 × zS)} (hF2 : ∀ (S : zS) (x1 : Int32) (x3 : Int32), F2 S x1 x3 = some r → ∀ {H : Heap} {locs : List Loc}, va_P D vwCl (wX a cI S) H → va_D A (wX a cI S) → va_S A s.heap H locs → ∀ {ls : Array Slot}, lv_has ls 7 [(0, .ref (a 14)), (1, .int x1), (2, .ref (a 6)), (3, .int x3)] → W p l e rmX3_slotInOrder s m args below meth c H locs 0 0 Q (F0 m 2 ls [])) (n : Nat) : ∀ (S : zS) (x1 : Int32) (x3 : Int32) (x4 : Int32) (x5 : Int32) (x6 : Int32), fX3_slotInOrder_24 F2 n S x1 x3 x4 x5 x6 = some r → ∀ {H : Heap} {locs : List Loc}, va_P D vwCl (wX a cI S) H → va_D A (wX a cI S) → va_S A s.heap H locs → ∀ {ls : Array Slot}, lv_has ls 7 [(0, .ref (a 14)), (1, .int x1), (2, .ref (a 6)), (3, .int x3), (4, .int x4), (5, .int x5), (6, .int x6)] → W p l e rmX3_slotInOrder s m args below meth c H locs 0 0 Q (F0 m 24 ls []) := by
  induction n with
  | zero => intro S x1 x3 x4 x5 x6 hf; cases hf
  | succ n ih => intro S x1 x3 x4 x5 x6 hf; exact kX3_slotInOrder_24b hC0 hQ hF2 ih hf
set_option maxHeartbeats 4000000 in
set_option maxRecDepth 100000 in
theorem kX3_slotInOrder_2b {r : Int32 × zS} (hC0 : zC p m c cX3_slotInOrder 7 s args wsX3_slotInOrder RX3 D cI cZ) (hQ : zRi p l e rmX3_slotInOrder s m args below meth c cX3_slotInOrder D A (wX a cI) Q r) {F2 : zS → Int32 → Int32 → Option (Int32 × zS)} (hF2 : ∀ (S : zS) (x1 : Int32) (x3 : Int32), F2 S x1 x3 = some r → ∀ {H : Heap} {locs : List Loc}, va_P D vwCl (wX a cI S) H → va_D A (wX a cI S) → va_S A s.heap H locs → ∀ {ls : Array Slot}, lv_has ls 7 [(0, .ref (a 14)), (1, .int x1), (2, .ref (a 6)), (3, .int x3)] → W p l e rmX3_slotInOrder s m args below meth c H locs 0 0 Q (F0 m 2 ls [])) {S : zS} {x1 : Int32} {x3 : Int32} (hf : bX3_slotInOrder_2 F2 S x1 x3 = some r) {H : Heap} {locs : List Loc} (hP : va_P D vwCl (wX a cI S) H) (hD : va_D A (wX a cI S)) (hS : va_S A s.heap H locs) {ls : Array Slot} (hl : lv_has ls 7 [(0, .ref (a 14)), (1, .int x1), (2, .ref (a 6)), (3, .int x3)]) : W p l e rmX3_slotInOrder s m args below meth c H locs 0 0 Q (F0 m 2 ls []) := by
  obtain ⟨hC, hK, hN⟩ := id hC0
  obtain ⟨hx, hb, hml, hown, hts⟩ := id hC
  have iw3 := iwX3_slotInOrder_3
  have iw0 := iwX3_slotInOrder_0
  unfold bX3_slotInOrder_2 at hf
  refine lv_iload_n hx hb dX3_slotInOrder_2 rfl (lv_at hl 3 rfl) ?_
  refine lv_aload_n hx hb dX3_slotInOrder_3 rfl (lv_at hl 0 rfl) ?_
  refine gX3_size hx hb hts iw3 hown hK hP (List.mem_of_getElem? (i := 1) rfl) dX3_slotInOrder_4 ?_
  refine lv_icmp_ge (tgt := 68) hx hb dX3_slotInOrder_7 (by decide) (fun h_1 => ?_) (fun h_1 => ?_)
  · have hf := zt h_1 hf
    refine lv_iconst (v := (-1 : Int32)) hx hb dX3_slotInOrder_68 (by decide) ?_
    exact zri hf hQ hP hD hS dX3_slotInOrder_69
  · have hf := zf h_1 hf
    refine lv_aload_n hx hb dX3_slotInOrder_10 rfl (lv_at hl 0 rfl) ?_
    refine lv_iload_n hx hb dX3_slotInOrder_11 rfl (lv_at hl 3 rfl) ?_
    refine lv_aload_n hx hb dX3_slotInOrder_12 rfl (lv_at hl 2 rfl) ?_
    obtain ⟨y_1, S_1, hg_1, hf⟩ := obnd_some hf
    refine zci (va_runV (As := [.int x3, .ref (a 6)]) (rest := []) hC (tX3_weight hg_1) (cwV 2 hts gX3_slotInOrder_X3_weight rfl rfl rfl (by decide +kernel) ⟨Nat.le_of_ble_eq_true rfl, Nat.le_of_ble_eq_true rfl⟩) (zpV hP hK hD hN (rX_14 hK hP)) rfl rfl hl.1 rfl (lv_room (Nat.le_of_ble_eq_true rfl)) dX3_slotInOrder_13 ⟨Nat.zero_le _, Nat.zero_le _⟩) hS (fun H locs hP hD hS => ?_)
    refine z_istore hf hx hb (fun y => [(4, .int y), (0, .ref (a 14)), (1, .int x1), (2, .ref (a 6)), (3, .int x3)]) dX3_slotInOrder_16 hl (by decide) (fun _ => rfl) (fun y_2 ls hf hl => ?_)
    refine lv_iconst (v := (0 : Int32)) hx hb dX3_slotInOrder_18 (by decide) ?_
    refine z_istore hf hx hb (fun y => [(5, .int y), (4, .int y_2), (0, .ref (a 14)), (1, .int x1), (2, .ref (a 6)), (3, .int x3)]) dX3_slotInOrder_19 hl (by decide) (fun _ => rfl) (fun y_3 ls hf hl => ?_)
    refine lv_iconst (v := (0 : Int32)) hx hb dX3_slotInOrder_21 (by decide) ?_
    refine z_istore hf hx hb (fun y => [(6, .int y), (5, .int y_3), (4, .int y_2), (0, .ref (a 14)), (1, .int x1), (2, .ref (a 6)), (3, .int x3)]) dX3_slotInOrder_22 hl (by decide) (fun _ => rfl) (fun y_4 ls hf hl => ?_)
    exact kX3_slotInOrder_24 hC0 hQ hF2 64 _ _ _ _ _ _ hf hP hD hS (lv_sub hl [3, 4, 5, 6, 2, 1, 0] rfl)
theorem kX3_slotInOrder_2 {r : Int32 × zS} (hC0 : zC p m c cX3_slotInOrder 7 s args wsX3_slotInOrder RX3 D cI cZ) (hQ : zRi p l e rmX3_slotInOrder s m args below meth c cX3_slotInOrder D A (wX a cI) Q r) (n : Nat) : ∀ (S : zS) (x1 : Int32) (x3 : Int32), fX3_slotInOrder_2 n S x1 x3 = some r → ∀ {H : Heap} {locs : List Loc}, va_P D vwCl (wX a cI S) H → va_D A (wX a cI S) → va_S A s.heap H locs → ∀ {ls : Array Slot}, lv_has ls 7 [(0, .ref (a 14)), (1, .int x1), (2, .ref (a 6)), (3, .int x3)] → W p l e rmX3_slotInOrder s m args below meth c H locs 0 0 Q (F0 m 2 ls []) := by
  induction n with
  | zero => intro S x1 x3 hf; cases hf
  | succ n ih => intro S x1 x3 hf; exact kX3_slotInOrder_2b hC0 hQ ih hf
set_option maxHeartbeats 4000000 in
set_option maxRecDepth 100000 in
theorem kX3_slotInOrder {r : Int32 × zS} (hC0 : zC p m c cX3_slotInOrder 7 s args wsX3_slotInOrder RX3 D cI cZ) (hQ : zRi p l e rmX3_slotInOrder s m args below meth c cX3_slotInOrder D A (wX a cI) Q r) {S : zS} {x1 : Int32} (hf : fX3_slotInOrder S x1 = some r) {H : Heap} {locs : List Loc} (hP : va_P D vwCl (wX a cI S) H) (hD : va_D A (wX a cI S)) (hS : va_S A s.heap H locs) {ls : Array Slot} (hl : lv_has ls 7 [(0, .ref (a 14)), (1, .int x1), (2, .ref (a 6))]) : W p l e rmX3_slotInOrder s m args below meth c H locs 0 0 Q (F0 m 0 ls []) := by
  obtain ⟨hC, hK, hN⟩ := id hC0
  obtain ⟨hx, hb, hml, hown, hts⟩ := id hC
  have iw3 := iwX3_slotInOrder_3
  have iw0 := iwX3_slotInOrder_0
  unfold fX3_slotInOrder at hf
  refine lv_iconst (v := (0 : Int32)) hx hb dX3_slotInOrder_0 (by decide) ?_
  refine z_istore_n hf hx hb (fun y => [(3, .int y), (0, .ref (a 14)), (1, .int x1), (2, .ref (a 6))]) dX3_slotInOrder_1 rfl hl (by decide) (fun _ => rfl) (fun y_1 ls hf hl => ?_)
  exact kX3_slotInOrder_2 hC0 hQ 64 _ _ _ hf hP hD hS (lv_sub hl [1, 2, 3, 0] rfl)
theorem tX3_slotInOrder {S : zS} {x1 : Int32} {r : Int32 × zS} (hf : fX3_slotInOrder S x1 = some r) : zMi l yX3_slotInOrder wsX3_slotInOrder rmX3_slotInOrder D (zT cI cZ) A (wX a cI) [.ref (a 14), .int x1, .ref (a 6)] S r :=
  zMi_of (by decide) rfl rfl (Nat.le_of_ble_eq_true rfl) (fun hC0 hQ hP hD hS _ hl => kX3_slotInOrder hC0 hQ hf hP hD hS hl)
end KX3
