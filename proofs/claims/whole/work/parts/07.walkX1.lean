theorem zN0 : (zNL[0]'(by decide)) ∈ zNL := List.getElem_mem _
theorem zN1 : (zNL[1]'(by decide)) ∈ zNL := List.getElem_mem _
theorem zN2 : (zNL[2]'(by decide)) ∈ zNL := List.getElem_mem _
theorem zN3 : (zNL[3]'(by decide)) ∈ zNL := List.getElem_mem _
theorem zN4 : (zNL[4]'(by decide)) ∈ zNL := List.getElem_mem _
theorem zN5 : (zNL[5]'(by decide)) ∈ zNL := List.getElem_mem _
theorem zN6 : (zNL[6]'(by decide)) ∈ zNL := List.getElem_mem _
theorem zN7 : (zNL[7]'(by decide)) ∈ zNL := List.getElem_mem _
theorem zN8 : (zNL[8]'(by decide)) ∈ zNL := List.getElem_mem _
theorem zN9 : (zNL[9]'(by decide)) ∈ zNL := List.getElem_mem _
theorem zN10 : (zNL[10]'(by decide)) ∈ zNL := List.getElem_mem _
theorem zN11 : (zNL[11]'(by decide)) ∈ zNL := List.getElem_mem _
theorem zN12 : (zNL[12]'(by decide)) ∈ zNL := List.getElem_mem _
theorem zN13 : (zNL[13]'(by decide)) ∈ zNL := List.getElem_mem _
theorem zN14 : (zNL[14]'(by decide)) ∈ zNL := List.getElem_mem _
theorem zN15 : (zNL[15]'(by decide)) ∈ zNL := List.getElem_mem _
theorem zN16 : (zNL[16]'(by decide)) ∈ zNL := List.getElem_mem _
theorem zN17 : (zNL[17]'(by decide)) ∈ zNL := List.getElem_mem _
theorem zN18 : (zNL[18]'(by decide)) ∈ zNL := List.getElem_mem _
theorem zN19 : (zNL[19]'(by decide)) ∈ zNL := List.getElem_mem _
theorem zN20 : (zNL[20]'(by decide)) ∈ zNL := List.getElem_mem _
theorem zN21 : (zNL[21]'(by decide)) ∈ zNL := List.getElem_mem _
theorem zN22 : (zNL[22]'(by decide)) ∈ zNL := List.getElem_mem _
theorem zN23 : (zNL[23]'(by decide)) ∈ zNL := List.getElem_mem _
theorem zN24 : (zNL[24]'(by decide)) ∈ zNL := List.getElem_mem _
theorem zN25 : (zNL[25]'(by decide)) ∈ zNL := List.getElem_mem _
theorem zN26 : (zNL[26]'(by decide)) ∈ zNL := List.getElem_mem _
theorem zN27 : (zNL[27]'(by decide)) ∈ zNL := List.getElem_mem _
theorem zN28 : (zNL[28]'(by decide)) ∈ zNL := List.getElem_mem _
theorem zN29 : (zNL[29]'(by decide)) ∈ zNL := List.getElem_mem _
theorem zN30 : (zNL[30]'(by decide)) ∈ zNL := List.getElem_mem _
theorem zN31 : (zNL[31]'(by decide)) ∈ zNL := List.getElem_mem _
theorem zN32 : (zNL[32]'(by decide)) ∈ zNL := List.getElem_mem _
theorem zN33 : (zNL[33]'(by decide)) ∈ zNL := List.getElem_mem _
theorem zN34 : (zNL[34]'(by decide)) ∈ zNL := List.getElem_mem _
theorem zN35 : (zNL[35]'(by decide)) ∈ zNL := List.getElem_mem _
theorem zN36 : (zNL[36]'(by decide)) ∈ zNL := List.getElem_mem _
theorem zN37 : (zNL[37]'(by decide)) ∈ zNL := List.getElem_mem _
theorem zN38 : (zNL[38]'(by decide)) ∈ zNL := List.getElem_mem _
theorem zN39 : (zNL[39]'(by decide)) ∈ zNL := List.getElem_mem _
theorem zN40 : (zNL[40]'(by decide)) ∈ zNL := List.getElem_mem _
theorem zN41 : (zNL[41]'(by decide)) ∈ zNL := List.getElem_mem _
section KX1
variable {p : Program} {l : Launch} {e : Env} {s : State} {m : MethodId} {args : Array Value} {below : List Frame} {meth : Method} {c : Code} {Q : State → Prop} {D : va_G} {a : Nat → Nat} {cI cZ : ClassId} {A : Nat → Prop}
abbrev rmX0_has : Room := { frames := 0, cells := 0, slots := 0, locals := 0 }
theorem iwX0_has_0 : ∀ w ∈ wsX00, w ∈ wsX0_has := fun _ h => List.mem_cons_of_mem _ (List.mem_append_right _ h)
set_option maxHeartbeats 4000000 in
set_option maxRecDepth 100000 in
theorem kX0_has {r : Int32 × zS} (hC0 : zC p m c cX0_has 2 s args wsX0_has RX0 D cI cZ) (hQ : zRz p l e rmX0_has s m args below meth c cX0_has D A (wX a cI) Q r) {S : zS} {x1 : Int32} (hf : fX0_has S x1 = some r) {H : Heap} {locs : List Loc} (hP : va_P D vwCl (wX a cI S) H) (hD : va_D A (wX a cI S)) (hS : va_S A s.heap H locs) {ls : Array Slot} (hl : lv_has ls 2 [(0, .ref (a 6)), (1, .int x1)]) : W p l e rmX0_has s m args below meth c H locs 0 0 Q (F0 m 0 ls []) := by
  obtain ⟨hC, hK, hN⟩ := id hC0
  obtain ⟨hx, hb, hml, hown, hts⟩ := id hC
  have iw0 := iwX0_has_0
  unfold fX0_has at hf
  refine lv_iload_n hx hb dX0_has_0 rfl (lv_at hl 1 rfl) ?_
  refine lv_if_lt (tgt := 24) hx hb dX0_has_1 (by decide) (fun h_1 => ?_) (fun h_1 => ?_)
  · have hf := zt h_1 hf
    refine lv_iconst (v := (0 : Int32)) hx hb dX0_has_24 (by decide) ?_
    exact zrz hf (Or.inl rfl) hQ hP hD hS dX0_has_25
  · have hf := zf h_1 hf
    refine lv_iload_n hx hb dX0_has_4 rfl (lv_at hl 1 rfl) ?_
    refine lv_bipush (v := (16 : Int32)) hx hb dX0_has_5 (by decide) ?_
    refine lv_icmp_ge (tgt := 24) hx hb dX0_has_7 (by decide) (fun h_2 => ?_) (fun h_2 => ?_)
    · have hf := zt h_2 hf
      refine lv_iconst (v := (0 : Int32)) hx hb dX0_has_24 (by decide) ?_
      exact zrz hf (Or.inl rfl) hQ hP hD hS dX0_has_25
    · have hf := zf h_2 hf
      refine lv_aload_n hx hb dX0_has_10 rfl (lv_at hl 0 rfl) ?_
      refine gX0_states hx hb hts iw0 hown hK hP (List.mem_of_getElem? (i := 1) rfl) dX0_has_11 ?_
      refine lv_iload_n hx hb dX0_has_14 rfl (lv_at hl 1 rfl) ?_
      refine lX0_states hf hx hb hK hP dX0_has_15 (fun hf => ?_)
      refine lv_iconst (v := (-1 : Int32)) hx hb dX0_has_16 (by decide) ?_
      refine lv_icmp_eq (tgt := 24) hx hb dX0_has_17 (by decide) (fun h_3 => ?_) (fun h_3 => ?_)
      · have hf := zt h_3 hf
        refine lv_iconst (v := (0 : Int32)) hx hb dX0_has_24 (by decide) ?_
        exact zrz hf (Or.inl rfl) hQ hP hD hS dX0_has_25
      · have hf := zf h_3 hf
        refine lv_iconst (v := (1 : Int32)) hx hb dX0_has_20 (by decide) ?_
        refine lv_goto (tgt := 25) hx hb dX0_has_21 (by decide) ?_
        exact zrz hf (Or.inr rfl) hQ hP hD hS dX0_has_25
theorem tX0_has {S : zS} {x1 : Int32} {r : Int32 × zS} (hf : fX0_has S x1 = some r) : zMi l yX0_has wsX0_has rmX0_has D (zT cI cZ) A (wX a cI) [.ref (a 6), .int x1] S r :=
  zMz_of (by decide) rfl rfl (Nat.le_of_ble_eq_true rfl) (fun hC0 hQ hP hD hS _ hl => kX0_has hC0 hQ hf hP hD hS hl)
abbrev rmX0_hasMark : Room := { frames := 0, cells := 0, slots := 0, locals := 0 }
theorem iwX0_hasMark_0 : ∀ w ∈ wsX00, w ∈ wsX0_hasMark := fun _ h => List.mem_cons_of_mem _ (List.mem_append_right _ h)
set_option maxHeartbeats 4000000 in
set_option maxRecDepth 100000 in
theorem kX0_hasMark {r : Int32 × zS} (hC0 : zC p m c cX0_hasMark 2 s args wsX0_hasMark RX0 D cI cZ) (hQ : zRz p l e rmX0_hasMark s m args below meth c cX0_hasMark D A (wX a cI) Q r) {S : zS} {x1 : Int32} (hf : fX0_hasMark S x1 = some r) {H : Heap} {locs : List Loc} (hP : va_P D vwCl (wX a cI S) H) (hD : va_D A (wX a cI S)) (hS : va_S A s.heap H locs) {ls : Array Slot} (hl : lv_has ls 2 [(0, .ref (a 6)), (1, .int x1)]) : W p l e rmX0_hasMark s m args below meth c H locs 0 0 Q (F0 m 0 ls []) := by
  obtain ⟨hC, hK, hN⟩ := id hC0
  obtain ⟨hx, hb, hml, hown, hts⟩ := id hC
  have iw0 := iwX0_hasMark_0
  unfold fX0_hasMark at hf
  refine lv_iload_n hx hb dX0_hasMark_0 rfl (lv_at hl 1 rfl) ?_
  refine lv_if_lt (tgt := 33) hx hb dX0_hasMark_1 (by decide) (fun h_1 => ?_) (fun h_1 => ?_)
  · have hf := zt h_1 hf
    refine lv_iconst (v := (0 : Int32)) hx hb dX0_hasMark_33 (by decide) ?_
    exact zrz hf (Or.inl rfl) hQ hP hD hS dX0_hasMark_34
  · have hf := zf h_1 hf
    refine lv_iload_n hx hb dX0_hasMark_4 rfl (lv_at hl 1 rfl) ?_
    refine lv_bipush (v := (16 : Int32)) hx hb dX0_hasMark_5 (by decide) ?_
    refine lv_icmp_ge (tgt := 33) hx hb dX0_hasMark_7 (by decide) (fun h_2 => ?_) (fun h_2 => ?_)
    · have hf := zt h_2 hf
      refine lv_iconst (v := (0 : Int32)) hx hb dX0_hasMark_33 (by decide) ?_
      exact zrz hf (Or.inl rfl) hQ hP hD hS dX0_hasMark_34
    · have hf := zf h_2 hf
      refine lv_aload_n hx hb dX0_hasMark_10 rfl (lv_at hl 0 rfl) ?_
      refine gX0_states hx hb hts iw0 hown hK hP (List.mem_of_getElem? (i := 1) rfl) dX0_hasMark_11 ?_
      refine lv_iload_n hx hb dX0_hasMark_14 rfl (lv_at hl 1 rfl) ?_
      refine lX0_states hf hx hb hK hP dX0_hasMark_15 (fun hf => ?_)
      refine lv_iconst (v := (-1 : Int32)) hx hb dX0_hasMark_16 (by decide) ?_
      refine lv_icmp_eq (tgt := 33) hx hb dX0_hasMark_17 (by decide) (fun h_3 => ?_) (fun h_3 => ?_)
      · have hf := zt h_3 hf
        refine lv_iconst (v := (0 : Int32)) hx hb dX0_hasMark_33 (by decide) ?_
        exact zrz hf (Or.inl rfl) hQ hP hD hS dX0_hasMark_34
      · have hf := zf h_3 hf
        refine lv_aload_n hx hb dX0_hasMark_20 rfl (lv_at hl 0 rfl) ?_
        refine gX0_states hx hb hts iw0 hown hK hP (List.mem_of_getElem? (i := 1) rfl) dX0_hasMark_21 ?_
        refine lv_iload_n hx hb dX0_hasMark_24 rfl (lv_at hl 1 rfl) ?_
        refine lX0_states hf hx hb hK hP dX0_hasMark_25 (fun hf => ?_)
        refine lv_if_eq (tgt := 33) hx hb dX0_hasMark_26 (by decide) (fun h_4 => ?_) (fun h_4 => ?_)
        · have hf := zt h_4 hf
          refine lv_iconst (v := (0 : Int32)) hx hb dX0_hasMark_33 (by decide) ?_
          exact zrz hf (Or.inl rfl) hQ hP hD hS dX0_hasMark_34
        · have hf := zf h_4 hf
          refine lv_iconst (v := (1 : Int32)) hx hb dX0_hasMark_29 (by decide) ?_
          refine lv_goto (tgt := 34) hx hb dX0_hasMark_30 (by decide) ?_
          exact zrz hf (Or.inr rfl) hQ hP hD hS dX0_hasMark_34
theorem tX0_hasMark {S : zS} {x1 : Int32} {r : Int32 × zS} (hf : fX0_hasMark S x1 = some r) : zMi l yX0_hasMark wsX0_hasMark rmX0_hasMark D (zT cI cZ) A (wX a cI) [.ref (a 6), .int x1] S r :=
  zMz_of (by decide) rfl rfl (Nat.le_of_ble_eq_true rfl) (fun hC0 hQ hP hD hS _ hl => kX0_hasMark hC0 hQ hf hP hD hS hl)
abbrev rmX0_stateOf : Room := { frames := 1, cells := 0, slots := 0, locals := 21 }
theorem iwX0_stateOf_0 : ∀ w ∈ wsX00, w ∈ wsX0_stateOf := fun _ h => List.mem_cons_of_mem _ (List.mem_append_right _ h)
set_option maxHeartbeats 4000000 in
set_option maxRecDepth 100000 in
theorem kX0_stateOf {r : Int32 × zS} (hC0 : zC p m c cX0_stateOf 2 s args wsX0_stateOf RX0 D cI cZ) (hQ : zRi p l e rmX0_stateOf s m args below meth c cX0_stateOf D A (wX a cI) Q r) {S : zS} {x1 : Int32} (hf : fX0_stateOf S x1 = some r) {H : Heap} {locs : List Loc} (hP : va_P D vwCl (wX a cI S) H) (hD : va_D A (wX a cI S)) (hS : va_S A s.heap H locs) {ls : Array Slot} (hl : lv_has ls 2 [(0, .ref (a 6)), (1, .int x1)]) : W p l e rmX0_stateOf s m args below meth c H locs 0 0 Q (F0 m 0 ls []) := by
  obtain ⟨hC, hK, hN⟩ := id hC0
  obtain ⟨hx, hb, hml, hown, hts⟩ := id hC
  have iw0 := iwX0_stateOf_0
  unfold fX0_stateOf at hf
  refine lv_aload_n hx hb dX0_stateOf_0 rfl (lv_at hl 0 rfl) ?_
  refine lv_iload_n hx hb dX0_stateOf_1 rfl (lv_at hl 1 rfl) ?_
  obtain ⟨y_1, S_1, hg_1, hf⟩ := obnd_some hf
  refine zci (va_runV (As := [.int x1]) (rest := []) hC (tX0_has hg_1) (cwV 1 hts gX0_stateOf_X0_has rfl rfl rfl (by decide +kernel) ⟨Nat.le_of_ble_eq_true rfl, Nat.le_of_ble_eq_true rfl⟩) (zpV hP hK hD hN (rX_6 hK hP)) rfl rfl hl.1 rfl (lv_room (Nat.le_of_ble_eq_true rfl)) dX0_stateOf_2 ⟨Nat.zero_le _, Nat.zero_le _⟩) hS (fun H locs hP hD hS => ?_)
  refine lv_if_eq (tgt := 17) hx hb dX0_stateOf_5 (by decide) (fun h_1 => ?_) (fun h_1 => ?_)
  · have hf := zt h_1 hf
    refine lv_iconst (v := (-1 : Int32)) hx hb dX0_stateOf_17 (by decide) ?_
    exact zri hf hQ hP hD hS dX0_stateOf_18
  · have hf := zf h_1 hf
    refine lv_aload_n hx hb dX0_stateOf_8 rfl (lv_at hl 0 rfl) ?_
    refine gX0_states hx hb hts iw0 hown hK hP (List.mem_of_getElem? (i := 1) rfl) dX0_stateOf_9 ?_
    refine lv_iload_n hx hb dX0_stateOf_12 rfl (lv_at hl 1 rfl) ?_
    refine lX0_states hf hx hb hK hP dX0_stateOf_13 (fun hf => ?_)
    refine lv_goto (tgt := 18) hx hb dX0_stateOf_14 (by decide) ?_
    exact zri hf hQ hP hD hS dX0_stateOf_18
theorem tX0_stateOf {S : zS} {x1 : Int32} {r : Int32 × zS} (hf : fX0_stateOf S x1 = some r) : zMi l yX0_stateOf wsX0_stateOf rmX0_stateOf D (zT cI cZ) A (wX a cI) [.ref (a 6), .int x1] S r :=
  zMi_of (by decide) rfl rfl (Nat.le_of_ble_eq_true rfl) (fun hC0 hQ hP hD hS _ hl => kX0_stateOf hC0 hQ hf hP hD hS hl)
abbrev rmX0_waitingAt : Room := { frames := 1, cells := 0, slots := 0, locals := 21 }
theorem iwX0_waitingAt_0 : ∀ w ∈ wsX00, w ∈ wsX0_waitingAt := fun _ h => List.mem_cons_of_mem _ (List.mem_append_right _ h)
set_option maxHeartbeats 4000000 in
set_option maxRecDepth 100000 in
theorem kX0_waitingAt {r : Int32 × zS} (hC0 : zC p m c cX0_waitingAt 2 s args wsX0_waitingAt RX0 D cI cZ) (hQ : zRi p l e rmX0_waitingAt s m args below meth c cX0_waitingAt D A (wX a cI) Q r) {S : zS} {x1 : Int32} (hf : fX0_waitingAt S x1 = some r) {H : Heap} {locs : List Loc} (hP : va_P D vwCl (wX a cI S) H) (hD : va_D A (wX a cI S)) (hS : va_S A s.heap H locs) {ls : Array Slot} (hl : lv_has ls 2 [(0, .ref (a 6)), (1, .int x1)]) : W p l e rmX0_waitingAt s m args below meth c H locs 0 0 Q (F0 m 0 ls []) := by
  obtain ⟨hC, hK, hN⟩ := id hC0
  obtain ⟨hx, hb, hml, hown, hts⟩ := id hC
  have iw0 := iwX0_waitingAt_0
  unfold fX0_waitingAt at hf
  refine lv_aload_n hx hb dX0_waitingAt_0 rfl (lv_at hl 0 rfl) ?_
  refine lv_iload_n hx hb dX0_waitingAt_1 rfl (lv_at hl 1 rfl) ?_
  obtain ⟨y_1, S_1, hg_1, hf⟩ := obnd_some hf
  refine zci (va_runV (As := [.int x1]) (rest := []) hC (tX0_has hg_1) (cwV 1 hts gX0_waitingAt_X0_has rfl rfl rfl (by decide +kernel) ⟨Nat.le_of_ble_eq_true rfl, Nat.le_of_ble_eq_true rfl⟩) (zpV hP hK hD hN (rX_6 hK hP)) rfl rfl hl.1 rfl (lv_room (Nat.le_of_ble_eq_true rfl)) dX0_waitingAt_2 ⟨Nat.zero_le _, Nat.zero_le _⟩) hS (fun H locs hP hD hS => ?_)
  refine lv_if_eq (tgt := 17) hx hb dX0_waitingAt_5 (by decide) (fun h_1 => ?_) (fun h_1 => ?_)
  · have hf := zt h_1 hf
    refine lv_iconst (v := (0 : Int32)) hx hb dX0_waitingAt_17 (by decide) ?_
    exact zri hf hQ hP hD hS dX0_waitingAt_18
  · have hf := zf h_1 hf
    refine lv_aload_n hx hb dX0_waitingAt_8 rfl (lv_at hl 0 rfl) ?_
    refine gX0_waiting hx hb hts iw0 hown hK hP (List.mem_of_getElem? (i := 1) rfl) dX0_waitingAt_9 ?_
    refine lv_iload_n hx hb dX0_waitingAt_12 rfl (lv_at hl 1 rfl) ?_
    refine lX0_waiting hf hx hb hK hP dX0_waitingAt_13 (fun hf => ?_)
    refine lv_goto (tgt := 18) hx hb dX0_waitingAt_14 (by decide) ?_
    exact zri hf hQ hP hD hS dX0_waitingAt_18
theorem tX0_waitingAt {S : zS} {x1 : Int32} {r : Int32 × zS} (hf : fX0_waitingAt S x1 = some r) : zMi l yX0_waitingAt wsX0_waitingAt rmX0_waitingAt D (zT cI cZ) A (wX a cI) [.ref (a 6), .int x1] S r :=
  zMi_of (by decide) rfl rfl (Nat.le_of_ble_eq_true rfl) (fun hC0 hQ hP hD hS _ hl => kX0_waitingAt hC0 hQ hf hP hD hS hl)
abbrev rmX0_howMany : Room := { frames := 0, cells := 0, slots := 0, locals := 0 }
theorem iwX0_howMany_0 : ∀ w ∈ wsX00, w ∈ wsX0_howMany := fun _ h => List.mem_cons_of_mem _ (List.mem_append_right _ h)
set_option maxHeartbeats 4000000 in
set_option maxRecDepth 100000 in
theorem kX0_howMany {r : Int32 × zS} (hC0 : zC p m c cX0_howMany 1 s args wsX0_howMany RX0 D cI cZ) (hQ : zRi p l e rmX0_howMany s m args below meth c cX0_howMany D A (wX a cI) Q r) {S : zS} (hf : fX0_howMany S = some r) {H : Heap} {locs : List Loc} (hP : va_P D vwCl (wX a cI S) H) (hD : va_D A (wX a cI S)) (hS : va_S A s.heap H locs) {ls : Array Slot} (hl : lv_has ls 1 [(0, .ref (a 6))]) : W p l e rmX0_howMany s m args below meth c H locs 0 0 Q (F0 m 0 ls []) := by
  obtain ⟨hC, hK, hN⟩ := id hC0
  obtain ⟨hx, hb, hml, hown, hts⟩ := id hC
  have iw0 := iwX0_howMany_0
  unfold fX0_howMany at hf
  refine lv_aload_n hx hb dX0_howMany_0 rfl (lv_at hl 0 rfl) ?_
  refine gX0_size hx hb hts iw0 hown hK hP (List.mem_of_getElem? (i := 1) rfl) dX0_howMany_1 ?_
  exact zri hf hQ hP hD hS dX0_howMany_4
theorem tX0_howMany {S : zS} {r : Int32 × zS} (hf : fX0_howMany S = some r) : zMi l yX0_howMany wsX0_howMany rmX0_howMany D (zT cI cZ) A (wX a cI) [.ref (a 6)] S r :=
  zMi_of (by decide) rfl rfl (Nat.le_of_ble_eq_true rfl) (fun hC0 hQ hP hD hS _ hl => kX0_howMany hC0 hQ hf hP hD hS hl)
abbrev rmX0_lostEver : Room := { frames := 0, cells := 0, slots := 0, locals := 0 }
theorem iwX0_lostEver_0 : ∀ w ∈ wsX00, w ∈ wsX0_lostEver := fun _ h => List.mem_cons_of_mem _ (List.mem_append_right _ h)
set_option maxHeartbeats 4000000 in
set_option maxRecDepth 100000 in
theorem kX0_lostEver {r : Int32 × zS} (hC0 : zC p m c cX0_lostEver 1 s args wsX0_lostEver RX0 D cI cZ) (hQ : zRi p l e rmX0_lostEver s m args below meth c cX0_lostEver D A (wX a cI) Q r) {S : zS} (hf : fX0_lostEver S = some r) {H : Heap} {locs : List Loc} (hP : va_P D vwCl (wX a cI S) H) (hD : va_D A (wX a cI S)) (hS : va_S A s.heap H locs) {ls : Array Slot} (hl : lv_has ls 1 [(0, .ref (a 6))]) : W p l e rmX0_lostEver s m args below meth c H locs 0 0 Q (F0 m 0 ls []) := by
  obtain ⟨hC, hK, hN⟩ := id hC0
  obtain ⟨hx, hb, hml, hown, hts⟩ := id hC
  have iw0 := iwX0_lostEver_0
  unfold fX0_lostEver at hf
  refine lv_aload_n hx hb dX0_lostEver_0 rfl (lv_at hl 0 rfl) ?_
  refine gX0_lost hx hb hts iw0 hown hK hP (List.mem_of_getElem? (i := 1) rfl) dX0_lostEver_1 ?_
  exact zri hf hQ hP hD hS dX0_lostEver_4
theorem tX0_lostEver {S : zS} {r : Int32 × zS} (hf : fX0_lostEver S = some r) : zMi l yX0_lostEver wsX0_lostEver rmX0_lostEver D (zT cI cZ) A (wX a cI) [.ref (a 6)] S r :=
  zMi_of (by decide) rfl rfl (Nat.le_of_ble_eq_true rfl) (fun hC0 hQ hP hD hS _ hl => kX0_lostEver hC0 hQ hf hP hD hS hl)
abbrev rmX0_goneEver : Room := { frames := 0, cells := 0, slots := 0, locals := 0 }
theorem iwX0_goneEver_0 : ∀ w ∈ wsX00, w ∈ wsX0_goneEver := fun _ h => List.mem_cons_of_mem _ (List.mem_append_right _ h)
set_option maxHeartbeats 4000000 in
set_option maxRecDepth 100000 in
theorem kX0_goneEver {r : Int32 × zS} (hC0 : zC p m c cX0_goneEver 1 s args wsX0_goneEver RX0 D cI cZ) (hQ : zRi p l e rmX0_goneEver s m args below meth c cX0_goneEver D A (wX a cI) Q r) {S : zS} (hf : fX0_goneEver S = some r) {H : Heap} {locs : List Loc} (hP : va_P D vwCl (wX a cI S) H) (hD : va_D A (wX a cI S)) (hS : va_S A s.heap H locs) {ls : Array Slot} (hl : lv_has ls 1 [(0, .ref (a 6))]) : W p l e rmX0_goneEver s m args below meth c H locs 0 0 Q (F0 m 0 ls []) := by
  obtain ⟨hC, hK, hN⟩ := id hC0
  obtain ⟨hx, hb, hml, hown, hts⟩ := id hC
  have iw0 := iwX0_goneEver_0
  unfold fX0_goneEver at hf
  refine lv_aload_n hx hb dX0_goneEver_0 rfl (lv_at hl 0 rfl) ?_
  refine gX0_gone hx hb hts iw0 hown hK hP (List.mem_of_getElem? (i := 1) rfl) dX0_goneEver_1 ?_
  exact zri hf hQ hP hD hS dX0_goneEver_4
theorem tX0_goneEver {S : zS} {r : Int32 × zS} (hf : fX0_goneEver S = some r) : zMi l yX0_goneEver wsX0_goneEver rmX0_goneEver D (zT cI cZ) A (wX a cI) [.ref (a 6)] S r :=
  zMi_of (by decide) rfl rfl (Nat.le_of_ble_eq_true rfl) (fun hC0 hQ hP hD hS _ hl => kX0_goneEver hC0 hQ hf hP hD hS hl)
abbrev rmX0_allWaiting : Room := { frames := 2, cells := 0, slots := 0, locals := 42 }
theorem iwX0_allWaiting_0 : ∀ w ∈ wsX00, w ∈ wsX0_allWaiting := fun _ h => List.mem_cons_of_mem _ (List.mem_append_right _ h)
set_option maxHeartbeats 4000000 in
set_option maxRecDepth 100000 in
theorem kX0_allWaiting_4b {r : Int32 × zS} (hC0 : zC p m c cX0_allWaiting 3 s args wsX0_allWaiting RX0 D cI cZ) (hQ : zRi p l e rmX0_allWaiting s m args below meth c cX0_allWaiting D A (wX a cI) Q r) {F4 : zS → Int32 → Int32 → Option (Int32 × zS)} (hF4 : ∀ (S : zS) (x1 : Int32) (x2 : Int32), F4 S x1 x2 = some r → ∀ {H : Heap} {locs : List Loc}, va_P D vwCl (wX a cI S) H → va_D A (wX a cI S) → va_S A s.heap H locs → ∀ {ls : Array Slot}, lv_has ls 3 [(0, .ref (a 6)), (1, .int x1), (2, .int x2)] → W p l e rmX0_allWaiting s m args below meth c H locs 0 0 Q (F0 m 4 ls [])) {S : zS} {x1 : Int32} {x2 : Int32} (hf : bX0_allWaiting_4 F4 S x1 x2 = some r) {H : Heap} {locs : List Loc} (hP : va_P D vwCl (wX a cI S) H) (hD : va_D A (wX a cI S)) (hS : va_S A s.heap H locs) {ls : Array Slot} (hl : lv_has ls 3 [(0, .ref (a 6)), (1, .int x1), (2, .int x2)]) : W p l e rmX0_allWaiting s m args below meth c H locs 0 0 Q (F0 m 4 ls []) := by
  obtain ⟨hC, hK, hN⟩ := id hC0
  obtain ⟨hx, hb, hml, hown, hts⟩ := id hC
  have iw0 := iwX0_allWaiting_0
  unfold bX0_allWaiting_4 at hf
  refine lv_iload_n hx hb dX0_allWaiting_4 rfl (lv_at hl 2 rfl) ?_
  refine lv_bipush (v := (16 : Int32)) hx hb dX0_allWaiting_5 (by decide) ?_
  refine lv_icmp_ge (tgt := 24) hx hb dX0_allWaiting_7 (by decide) (fun h_1 => ?_) (fun h_1 => ?_)
  · have hf := zt h_1 hf
    refine lv_iload_n hx hb dX0_allWaiting_24 rfl (lv_at hl 1 rfl) ?_
    exact zri hf hQ hP hD hS dX0_allWaiting_25
  · have hf := zf h_1 hf
    refine lv_iload_n hx hb dX0_allWaiting_10 rfl (lv_at hl 1 rfl) ?_
    refine lv_aload_n hx hb dX0_allWaiting_11 rfl (lv_at hl 0 rfl) ?_
    refine lv_iload_n hx hb dX0_allWaiting_12 rfl (lv_at hl 2 rfl) ?_
    obtain ⟨y_1, S_1, hg_1, hf⟩ := obnd_some hf
    refine zci (va_runV (As := [.int x2]) (rest := [.int x1]) hC (tX0_waitingAt hg_1) (cwV 1 hts gX0_allWaiting_X0_waitingAt rfl rfl rfl (by decide +kernel) ⟨Nat.le_of_ble_eq_true rfl, Nat.le_of_ble_eq_true rfl⟩) (zpV hP hK hD hN (rX_6 hK hP)) rfl rfl hl.1 rfl (lv_room (Nat.le_of_ble_eq_true rfl)) dX0_allWaiting_13 ⟨Nat.zero_le _, Nat.zero_le _⟩) hS (fun H locs hP hD hS => ?_)
    refine lv_iadd hx hb dX0_allWaiting_16 ?_
    refine z_istore_n hf hx hb (fun y => [(1, .int y), (0, .ref (a 6)), (2, .int x2)]) dX0_allWaiting_17 rfl hl (by decide) (fun _ => rfl) (fun y_2 ls hf hl => ?_)
    refine z_iinc hf hx hb 2 (fun y => [(2, .int y), (1, .int y_2), (0, .ref (a 6))]) dX0_allWaiting_18 hl rfl (by decide) (by decide) (fun _ => rfl) (fun y_3 ls hf hl => ?_)
    refine lv_goto (tgt := 4) hx hb dX0_allWaiting_21 (by decide) ?_
    exact hF4 _ _ _ hf hP hD hS (lv_sub hl [2, 1, 0] rfl)
theorem kX0_allWaiting_4 {r : Int32 × zS} (hC0 : zC p m c cX0_allWaiting 3 s args wsX0_allWaiting RX0 D cI cZ) (hQ : zRi p l e rmX0_allWaiting s m args below meth c cX0_allWaiting D A (wX a cI) Q r) (n : Nat) : ∀ (S : zS) (x1 : Int32) (x2 : Int32), fX0_allWaiting_4 n S x1 x2 = some r → ∀ {H : Heap} {locs : List Loc}, va_P D vwCl (wX a cI S) H → va_D A (wX a cI S) → va_S A s.heap H locs → ∀ {ls : Array Slot}, lv_has ls 3 [(0, .ref (a 6)), (1, .int x1), (2, .int x2)] → W p l e rmX0_allWaiting s m args below meth c H locs 0 0 Q (F0 m 4 ls []) := by
  induction n with
  | zero => intro S x1 x2 hf; cases hf
  | succ n ih => intro S x1 x2 hf; exact kX0_allWaiting_4b hC0 hQ ih hf
set_option maxHeartbeats 4000000 in
set_option maxRecDepth 100000 in
theorem kX0_allWaiting {r : Int32 × zS} (hC0 : zC p m c cX0_allWaiting 3 s args wsX0_allWaiting RX0 D cI cZ) (hQ : zRi p l e rmX0_allWaiting s m args below meth c cX0_allWaiting D A (wX a cI) Q r) {S : zS} (hf : fX0_allWaiting S = some r) {H : Heap} {locs : List Loc} (hP : va_P D vwCl (wX a cI S) H) (hD : va_D A (wX a cI S)) (hS : va_S A s.heap H locs) {ls : Array Slot} (hl : lv_has ls 3 [(0, .ref (a 6))]) : W p l e rmX0_allWaiting s m args below meth c H locs 0 0 Q (F0 m 0 ls []) := by
  obtain ⟨hC, hK, hN⟩ := id hC0
  obtain ⟨hx, hb, hml, hown, hts⟩ := id hC
  have iw0 := iwX0_allWaiting_0
  unfold fX0_allWaiting at hf
  refine lv_iconst (v := (0 : Int32)) hx hb dX0_allWaiting_0 (by decide) ?_
  refine z_istore_n hf hx hb (fun y => [(1, .int y), (0, .ref (a 6))]) dX0_allWaiting_1 rfl hl (by decide) (fun _ => rfl) (fun y_1 ls hf hl => ?_)
  refine lv_iconst (v := (0 : Int32)) hx hb dX0_allWaiting_2 (by decide) ?_
  refine z_istore_n hf hx hb (fun y => [(2, .int y), (1, .int y_1), (0, .ref (a 6))]) dX0_allWaiting_3 rfl hl (by decide) (fun _ => rfl) (fun y_2 ls hf hl => ?_)
  exact kX0_allWaiting_4 hC0 hQ 64 _ _ _ hf hP hD hS (lv_sub hl [2, 1, 0] rfl)
theorem tX0_allWaiting {S : zS} {r : Int32 × zS} (hf : fX0_allWaiting S = some r) : zMi l yX0_allWaiting wsX0_allWaiting rmX0_allWaiting D (zT cI cZ) A (wX a cI) [.ref (a 6)] S r :=
  zMi_of (by decide) rfl rfl (Nat.le_of_ble_eq_true rfl) (fun hC0 hQ hP hD hS _ hl => kX0_allWaiting hC0 hQ hf hP hD hS hl)
abbrev rmX0_allFresh : Room := { frames := 0, cells := 0, slots := 0, locals := 0 }
theorem iwX0_allFresh_0 : ∀ w ∈ wsX00, w ∈ wsX0_allFresh := fun _ h => List.mem_cons_of_mem _ (List.mem_append_right _ h)
set_option maxHeartbeats 4000000 in
set_option maxRecDepth 100000 in
theorem kX0_allFresh_23 {r : Int32 × zS} (hC0 : zC p m c cX0_allFresh 3 s args wsX0_allFresh RX0 D cI cZ) (hQ : zRi p l e rmX0_allFresh s m args below meth c cX0_allFresh D A (wX a cI) Q r) {F4 : zS → Int32 → Int32 → Option (Int32 × zS)} (hF4 : ∀ (S : zS) (x1 : Int32) (x2 : Int32), F4 S x1 x2 = some r → ∀ {H : Heap} {locs : List Loc}, va_P D vwCl (wX a cI S) H → va_D A (wX a cI S) → va_S A s.heap H locs → ∀ {ls : Array Slot}, lv_has ls 3 [(0, .ref (a 6)), (1, .int x1), (2, .int x2)] → W p l e rmX0_allFresh s m args below meth c H locs 0 0 Q (F0 m 4 ls [])) {S : zS} {x1 : Int32} {x2 : Int32} (hf : fX0_allFresh_23 F4 S x1 x2 = some r) {H : Heap} {locs : List Loc} (hP : va_P D vwCl (wX a cI S) H) (hD : va_D A (wX a cI S)) (hS : va_S A s.heap H locs) {ls : Array Slot} (hl : lv_has ls 3 [(0, .ref (a 6)), (1, .int x1), (2, .int x2)]) : W p l e rmX0_allFresh s m args below meth c H locs 0 0 Q (F0 m 23 ls []) := by
  obtain ⟨hC, hK, hN⟩ := id hC0
  obtain ⟨hx, hb, hml, hown, hts⟩ := id hC
  have iw0 := iwX0_allFresh_0
  unfold fX0_allFresh_23 at hf
  refine z_iinc hf hx hb 2 (fun y => [(2, .int y), (0, .ref (a 6)), (1, .int x1)]) dX0_allFresh_23 hl rfl (by decide) (by decide) (fun _ => rfl) (fun y_1 ls hf hl => ?_)
  refine lv_goto (tgt := 4) hx hb dX0_allFresh_26 (by decide) ?_
  exact hF4 _ _ _ hf hP hD hS (lv_sub hl [1, 2, 0] rfl)
set_option maxHeartbeats 4000000 in
set_option maxRecDepth 100000 in
theorem kX0_allFresh_4b {r : Int32 × zS} (hC0 : zC p m c cX0_allFresh 3 s args wsX0_allFresh RX0 D cI cZ) (hQ : zRi p l e rmX0_allFresh s m args below meth c cX0_allFresh D A (wX a cI) Q r) {F4 : zS → Int32 → Int32 → Option (Int32 × zS)} (hF4 : ∀ (S : zS) (x1 : Int32) (x2 : Int32), F4 S x1 x2 = some r → ∀ {H : Heap} {locs : List Loc}, va_P D vwCl (wX a cI S) H → va_D A (wX a cI S) → va_S A s.heap H locs → ∀ {ls : Array Slot}, lv_has ls 3 [(0, .ref (a 6)), (1, .int x1), (2, .int x2)] → W p l e rmX0_allFresh s m args below meth c H locs 0 0 Q (F0 m 4 ls [])) {S : zS} {x1 : Int32} {x2 : Int32} (hf : bX0_allFresh_4 F4 S x1 x2 = some r) {H : Heap} {locs : List Loc} (hP : va_P D vwCl (wX a cI S) H) (hD : va_D A (wX a cI S)) (hS : va_S A s.heap H locs) {ls : Array Slot} (hl : lv_has ls 3 [(0, .ref (a 6)), (1, .int x1), (2, .int x2)]) : W p l e rmX0_allFresh s m args below meth c H locs 0 0 Q (F0 m 4 ls []) := by
  obtain ⟨hC, hK, hN⟩ := id hC0
  obtain ⟨hx, hb, hml, hown, hts⟩ := id hC
  have iw0 := iwX0_allFresh_0
  unfold bX0_allFresh_4 at hf
  refine lv_iload_n hx hb dX0_allFresh_4 rfl (lv_at hl 2 rfl) ?_
  refine lv_bipush (v := (16 : Int32)) hx hb dX0_allFresh_5 (by decide) ?_
  refine lv_icmp_ge (tgt := 29) hx hb dX0_allFresh_7 (by decide) (fun h_1 => ?_) (fun h_1 => ?_)
  · have hf := zt h_1 hf
    refine lv_iload_n hx hb dX0_allFresh_29 rfl (lv_at hl 1 rfl) ?_
    exact zri hf hQ hP hD hS dX0_allFresh_30
  · have hf := zf h_1 hf
    refine lv_aload_n hx hb dX0_allFresh_10 rfl (lv_at hl 0 rfl) ?_
    refine gX0_states hx hb hts iw0 hown hK hP (List.mem_of_getElem? (i := 1) rfl) dX0_allFresh_11 ?_
    refine lv_iload_n hx hb dX0_allFresh_14 rfl (lv_at hl 2 rfl) ?_
    refine lX0_states hf hx hb hK hP dX0_allFresh_15 (fun hf => ?_)
    refine lv_iconst (v := (1 : Int32)) hx hb dX0_allFresh_16 (by decide) ?_
    refine lv_icmp_ne (tgt := 23) hx hb dX0_allFresh_17 (by decide) (fun h_2 => ?_) (fun h_2 => ?_)
    · have hf := zf h_2 hf
      exact kX0_allFresh_23 hC0 hQ hF4 hf hP hD hS (lv_sub hl [0, 1, 2] rfl)
    · have hf := zt h_2 hf
      refine z_iinc hf hx hb 1 (fun y => [(1, .int y), (0, .ref (a 6)), (2, .int x2)]) dX0_allFresh_20 hl rfl (by decide) (by decide) (fun _ => rfl) (fun y_1 ls hf hl => ?_)
      exact kX0_allFresh_23 hC0 hQ hF4 hf hP hD hS (lv_sub hl [1, 0, 2] rfl)
theorem kX0_allFresh_4 {r : Int32 × zS} (hC0 : zC p m c cX0_allFresh 3 s args wsX0_allFresh RX0 D cI cZ) (hQ : zRi p l e rmX0_allFresh s m args below meth c cX0_allFresh D A (wX a cI) Q r) (n : Nat) : ∀ (S : zS) (x1 : Int32) (x2 : Int32), fX0_allFresh_4 n S x1 x2 = some r → ∀ {H : Heap} {locs : List Loc}, va_P D vwCl (wX a cI S) H → va_D A (wX a cI S) → va_S A s.heap H locs → ∀ {ls : Array Slot}, lv_has ls 3 [(0, .ref (a 6)), (1, .int x1), (2, .int x2)] → W p l e rmX0_allFresh s m args below meth c H locs 0 0 Q (F0 m 4 ls []) := by
  induction n with
  | zero => intro S x1 x2 hf; cases hf
  | succ n ih => intro S x1 x2 hf; exact kX0_allFresh_4b hC0 hQ ih hf
set_option maxHeartbeats 4000000 in
set_option maxRecDepth 100000 in
theorem kX0_allFresh {r : Int32 × zS} (hC0 : zC p m c cX0_allFresh 3 s args wsX0_allFresh RX0 D cI cZ) (hQ : zRi p l e rmX0_allFresh s m args below meth c cX0_allFresh D A (wX a cI) Q r) {S : zS} (hf : fX0_allFresh S = some r) {H : Heap} {locs : List Loc} (hP : va_P D vwCl (wX a cI S) H) (hD : va_D A (wX a cI S)) (hS : va_S A s.heap H locs) {ls : Array Slot} (hl : lv_has ls 3 [(0, .ref (a 6))]) : W p l e rmX0_allFresh s m args below meth c H locs 0 0 Q (F0 m 0 ls []) := by
  obtain ⟨hC, hK, hN⟩ := id hC0
  obtain ⟨hx, hb, hml, hown, hts⟩ := id hC
  have iw0 := iwX0_allFresh_0
  unfold fX0_allFresh at hf
  refine lv_iconst (v := (0 : Int32)) hx hb dX0_allFresh_0 (by decide) ?_
  refine z_istore_n hf hx hb (fun y => [(1, .int y), (0, .ref (a 6))]) dX0_allFresh_1 rfl hl (by decide) (fun _ => rfl) (fun y_1 ls hf hl => ?_)
  refine lv_iconst (v := (0 : Int32)) hx hb dX0_allFresh_2 (by decide) ?_
  refine z_istore_n hf hx hb (fun y => [(2, .int y), (1, .int y_1), (0, .ref (a 6))]) dX0_allFresh_3 rfl hl (by decide) (fun _ => rfl) (fun y_2 ls hf hl => ?_)
  exact kX0_allFresh_4 hC0 hQ 64 _ _ _ hf hP hD hS (lv_sub hl [2, 1, 0] rfl)
theorem tX0_allFresh {S : zS} {r : Int32 × zS} (hf : fX0_allFresh S = some r) : zMi l yX0_allFresh wsX0_allFresh rmX0_allFresh D (zT cI cZ) A (wX a cI) [.ref (a 6)] S r :=
  zMi_of (by decide) rfl rfl (Nat.le_of_ble_eq_true rfl) (fun hC0 hQ hP hD hS _ hl => kX0_allFresh hC0 hQ hf hP hD hS hl)
abbrev rmX0_longestUnused : Room := { frames := 0, cells := 0, slots := 0, locals := 0 }
theorem iwX0_longestUnused_0 : ∀ w ∈ wsX00, w ∈ wsX0_longestUnused := fun _ h => List.mem_cons_of_mem _ (List.mem_append_right _ h)
set_option maxHeartbeats 4000000 in
set_option maxRecDepth 100000 in
theorem kX0_longestUnused_42 {r : Int32 × zS} (hC0 : zC p m c cX0_longestUnused 3 s args wsX0_longestUnused RX0 D cI cZ) (hQ : zRi p l e rmX0_longestUnused s m args below meth c cX0_longestUnused D A (wX a cI) Q r) {F4 : zS → Int32 → Int32 → Option (Int32 × zS)} (hF4 : ∀ (S : zS) (x1 : Int32) (x2 : Int32), F4 S x1 x2 = some r → ∀ {H : Heap} {locs : List Loc}, va_P D vwCl (wX a cI S) H → va_D A (wX a cI S) → va_S A s.heap H locs → ∀ {ls : Array Slot}, lv_has ls 3 [(0, .ref (a 6)), (1, .int x1), (2, .int x2)] → W p l e rmX0_longestUnused s m args below meth c H locs 0 0 Q (F0 m 4 ls [])) {S : zS} {x1 : Int32} {x2 : Int32} (hf : fX0_longestUnused_42 F4 S x1 x2 = some r) {H : Heap} {locs : List Loc} (hP : va_P D vwCl (wX a cI S) H) (hD : va_D A (wX a cI S)) (hS : va_S A s.heap H locs) {ls : Array Slot} (hl : lv_has ls 3 [(0, .ref (a 6)), (1, .int x1), (2, .int x2)]) : W p l e rmX0_longestUnused s m args below meth c H locs 0 0 Q (F0 m 42 ls []) := by
  obtain ⟨hC, hK, hN⟩ := id hC0
  obtain ⟨hx, hb, hml, hown, hts⟩ := id hC
  have iw0 := iwX0_longestUnused_0
  unfold fX0_longestUnused_42 at hf
  refine z_iinc hf hx hb 2 (fun y => [(2, .int y), (0, .ref (a 6)), (1, .int x1)]) dX0_longestUnused_42 hl rfl (by decide) (by decide) (fun _ => rfl) (fun y_1 ls hf hl => ?_)
  refine lv_goto (tgt := 4) hx hb dX0_longestUnused_45 (by decide) ?_
  exact hF4 _ _ _ hf hP hD hS (lv_sub hl [1, 2, 0] rfl)
set_option maxHeartbeats 4000000 in
set_option maxRecDepth 100000 in
theorem kX0_longestUnused_40 {r : Int32 × zS} (hC0 : zC p m c cX0_longestUnused 3 s args wsX0_longestUnused RX0 D cI cZ) (hQ : zRi p l e rmX0_longestUnused s m args below meth c cX0_longestUnused D A (wX a cI) Q r) {F4 : zS → Int32 → Int32 → Option (Int32 × zS)} (hF4 : ∀ (S : zS) (x1 : Int32) (x2 : Int32), F4 S x1 x2 = some r → ∀ {H : Heap} {locs : List Loc}, va_P D vwCl (wX a cI S) H → va_D A (wX a cI S) → va_S A s.heap H locs → ∀ {ls : Array Slot}, lv_has ls 3 [(0, .ref (a 6)), (1, .int x1), (2, .int x2)] → W p l e rmX0_longestUnused s m args below meth c H locs 0 0 Q (F0 m 4 ls [])) {S : zS} {x2 : Int32} (hf : fX0_longestUnused_40 F4 S x2 = some r) {H : Heap} {locs : List Loc} (hP : va_P D vwCl (wX a cI S) H) (hD : va_D A (wX a cI S)) (hS : va_S A s.heap H locs) {ls : Array Slot} (hl : lv_has ls 3 [(0, .ref (a 6)), (2, .int x2)]) : W p l e rmX0_longestUnused s m args below meth c H locs 0 0 Q (F0 m 40 ls []) := by
  obtain ⟨hC, hK, hN⟩ := id hC0
  obtain ⟨hx, hb, hml, hown, hts⟩ := id hC
  have iw0 := iwX0_longestUnused_0
  unfold fX0_longestUnused_40 at hf
  refine lv_iload_n hx hb dX0_longestUnused_40 rfl (lv_at hl 1 rfl) ?_
  refine z_istore_n hf hx hb (fun y => [(1, .int y), (0, .ref (a 6)), (2, .int x2)]) dX0_longestUnused_41 rfl hl (by decide) (fun _ => rfl) (fun y_1 ls hf hl => ?_)
  exact kX0_longestUnused_42 hC0 hQ hF4 hf hP hD hS (lv_sub hl [1, 0, 2] rfl)
set_option maxHeartbeats 4000000 in
set_option maxRecDepth 100000 in
theorem kX0_longestUnused_4b {r : Int32 × zS} (hC0 : zC p m c cX0_longestUnused 3 s args wsX0_longestUnused RX0 D cI cZ) (hQ : zRi p l e rmX0_longestUnused s m args below meth c cX0_longestUnused D A (wX a cI) Q r) {F4 : zS → Int32 → Int32 → Option (Int32 × zS)} (hF4 : ∀ (S : zS) (x1 : Int32) (x2 : Int32), F4 S x1 x2 = some r → ∀ {H : Heap} {locs : List Loc}, va_P D vwCl (wX a cI S) H → va_D A (wX a cI S) → va_S A s.heap H locs → ∀ {ls : Array Slot}, lv_has ls 3 [(0, .ref (a 6)), (1, .int x1), (2, .int x2)] → W p l e rmX0_longestUnused s m args below meth c H locs 0 0 Q (F0 m 4 ls [])) {S : zS} {x1 : Int32} {x2 : Int32} (hf : bX0_longestUnused_4 F4 S x1 x2 = some r) {H : Heap} {locs : List Loc} (hP : va_P D vwCl (wX a cI S) H) (hD : va_D A (wX a cI S)) (hS : va_S A s.heap H locs) {ls : Array Slot} (hl : lv_has ls 3 [(0, .ref (a 6)), (1, .int x1), (2, .int x2)]) : W p l e rmX0_longestUnused s m args below meth c H locs 0 0 Q (F0 m 4 ls []) := by
  obtain ⟨hC, hK, hN⟩ := id hC0
  obtain ⟨hx, hb, hml, hown, hts⟩ := id hC
  have iw0 := iwX0_longestUnused_0
  unfold bX0_longestUnused_4 at hf
  refine lv_iload_n hx hb dX0_longestUnused_4 rfl (lv_at hl 2 rfl) ?_
  refine lv_bipush (v := (16 : Int32)) hx hb dX0_longestUnused_5 (by decide) ?_
  refine lv_icmp_ge (tgt := 48) hx hb dX0_longestUnused_7 (by decide) (fun h_1 => ?_) (fun h_1 => ?_)
  · have hf := zt h_1 hf
    refine lv_iload_n hx hb dX0_longestUnused_48 rfl (lv_at hl 1 rfl) ?_
    exact zri hf hQ hP hD hS dX0_longestUnused_49
  · have hf := zf h_1 hf
    refine lv_aload_n hx hb dX0_longestUnused_10 rfl (lv_at hl 0 rfl) ?_
    refine gX0_states hx hb hts iw0 hown hK hP (List.mem_of_getElem? (i := 1) rfl) dX0_longestUnused_11 ?_
    refine lv_iload_n hx hb dX0_longestUnused_14 rfl (lv_at hl 2 rfl) ?_
    refine lX0_states hf hx hb hK hP dX0_longestUnused_15 (fun hf => ?_)
    refine lv_iconst (v := (2 : Int32)) hx hb dX0_longestUnused_16 (by decide) ?_
    refine lv_icmp_ne (tgt := 42) hx hb dX0_longestUnused_17 (by decide) (fun h_2 => ?_) (fun h_2 => ?_)
    · have hf := zf h_2 hf
      exact kX0_longestUnused_42 hC0 hQ hF4 hf hP hD hS (lv_sub hl [0, 1, 2] rfl)
    · have hf := zt h_2 hf
      refine lv_iload_n hx hb dX0_longestUnused_20 rfl (lv_at hl 1 rfl) ?_
      refine lv_iconst (v := (-1 : Int32)) hx hb dX0_longestUnused_21 (by decide) ?_
      refine lv_icmp_eq (tgt := 40) hx hb dX0_longestUnused_22 (by decide) (fun h_3 => ?_) (fun h_3 => ?_)
      · have hf := zt h_3 hf
        exact kX0_longestUnused_40 hC0 hQ hF4 hf hP hD hS (lv_sub hl [0, 2] rfl)
      · have hf := zf h_3 hf
        refine lv_aload_n hx hb dX0_longestUnused_25 rfl (lv_at hl 0 rfl) ?_
        refine gX0_used hx hb hts iw0 hown hK hP (List.mem_of_getElem? (i := 2) rfl) dX0_longestUnused_26 ?_
        refine lv_iload_n hx hb dX0_longestUnused_29 rfl (lv_at hl 2 rfl) ?_
        refine lX0_used hf hx hb hK hP dX0_longestUnused_30 (fun hf => ?_)
        refine lv_aload_n hx hb dX0_longestUnused_31 rfl (lv_at hl 0 rfl) ?_
        refine gX0_used hx hb hts iw0 hown hK hP (List.mem_of_getElem? (i := 2) rfl) dX0_longestUnused_32 ?_
        refine lv_iload_n hx hb dX0_longestUnused_35 rfl (lv_at hl 1 rfl) ?_
        refine lX0_used hf hx hb hK hP dX0_longestUnused_36 (fun hf => ?_)
        refine lv_icmp_ge (tgt := 42) hx hb dX0_longestUnused_37 (by decide) (fun h_4 => ?_) (fun h_4 => ?_)
        · have hf := zt h_4 hf
          exact kX0_longestUnused_42 hC0 hQ hF4 hf hP hD hS (lv_sub hl [0, 1, 2] rfl)
        · have hf := zf h_4 hf
          exact kX0_longestUnused_40 hC0 hQ hF4 hf hP hD hS (lv_sub hl [0, 2] rfl)
theorem kX0_longestUnused_4 {r : Int32 × zS} (hC0 : zC p m c cX0_longestUnused 3 s args wsX0_longestUnused RX0 D cI cZ) (hQ : zRi p l e rmX0_longestUnused s m args below meth c cX0_longestUnused D A (wX a cI) Q r) (n : Nat) : ∀ (S : zS) (x1 : Int32) (x2 : Int32), fX0_longestUnused_4 n S x1 x2 = some r → ∀ {H : Heap} {locs : List Loc}, va_P D vwCl (wX a cI S) H → va_D A (wX a cI S) → va_S A s.heap H locs → ∀ {ls : Array Slot}, lv_has ls 3 [(0, .ref (a 6)), (1, .int x1), (2, .int x2)] → W p l e rmX0_longestUnused s m args below meth c H locs 0 0 Q (F0 m 4 ls []) := by
  induction n with
  | zero => intro S x1 x2 hf; cases hf
  | succ n ih => intro S x1 x2 hf; exact kX0_longestUnused_4b hC0 hQ ih hf
set_option maxHeartbeats 4000000 in
set_option maxRecDepth 100000 in
theorem kX0_longestUnused {r : Int32 × zS} (hC0 : zC p m c cX0_longestUnused 3 s args wsX0_longestUnused RX0 D cI cZ) (hQ : zRi p l e rmX0_longestUnused s m args below meth c cX0_longestUnused D A (wX a cI) Q r) {S : zS} (hf : fX0_longestUnused S = some r) {H : Heap} {locs : List Loc} (hP : va_P D vwCl (wX a cI S) H) (hD : va_D A (wX a cI S)) (hS : va_S A s.heap H locs) {ls : Array Slot} (hl : lv_has ls 3 [(0, .ref (a 6))]) : W p l e rmX0_longestUnused s m args below meth c H locs 0 0 Q (F0 m 0 ls []) := by
  obtain ⟨hC, hK, hN⟩ := id hC0
  obtain ⟨hx, hb, hml, hown, hts⟩ := id hC
  have iw0 := iwX0_longestUnused_0
  unfold fX0_longestUnused at hf
  refine lv_iconst (v := (-1 : Int32)) hx hb dX0_longestUnused_0 (by decide) ?_
  refine z_istore_n hf hx hb (fun y => [(1, .int y), (0, .ref (a 6))]) dX0_longestUnused_1 rfl hl (by decide) (fun _ => rfl) (fun y_1 ls hf hl => ?_)
  refine lv_iconst (v := (0 : Int32)) hx hb dX0_longestUnused_2 (by decide) ?_
  refine z_istore_n hf hx hb (fun y => [(2, .int y), (1, .int y_1), (0, .ref (a 6))]) dX0_longestUnused_3 rfl hl (by decide) (fun _ => rfl) (fun y_2 ls hf hl => ?_)
  exact kX0_longestUnused_4 hC0 hQ 64 _ _ _ hf hP hD hS (lv_sub hl [2, 1, 0] rfl)
theorem tX0_longestUnused {S : zS} {r : Int32 × zS} (hf : fX0_longestUnused S = some r) : zMi l yX0_longestUnused wsX0_longestUnused rmX0_longestUnused D (zT cI cZ) A (wX a cI) [.ref (a 6)] S r :=
  zMi_of (by decide) rfl rfl (Nat.le_of_ble_eq_true rfl) (fun hC0 hQ hP hD hS _ hl => kX0_longestUnused hC0 hQ hf hP hD hS hl)
abbrev rmX0_hasRoom : Room := { frames := 1, cells := 0, slots := 0, locals := 22 }
theorem iwX0_hasRoom_0 : ∀ w ∈ wsX00, w ∈ wsX0_hasRoom := fun _ h => List.mem_cons_of_mem _ (List.mem_append_right _ h)
set_option maxHeartbeats 4000000 in
set_option maxRecDepth 100000 in
theorem kX0_hasRoom_16 {r : Int32 × zS} (hC0 : zC p m c cX0_hasRoom 1 s args wsX0_hasRoom RX0 D cI cZ) (hQ : zRz p l e rmX0_hasRoom s m args below meth c cX0_hasRoom D A (wX a cI) Q r) {S : zS} (hf : fX0_hasRoom_16 S = some r) {H : Heap} {locs : List Loc} (hP : va_P D vwCl (wX a cI S) H) (hD : va_D A (wX a cI S)) (hS : va_S A s.heap H locs) {ls : Array Slot} (hl : lv_has ls 1 []) : W p l e rmX0_hasRoom s m args below meth c H locs 0 0 Q (F0 m 16 ls []) := by
  obtain ⟨hC, hK, hN⟩ := id hC0
  obtain ⟨hx, hb, hml, hown, hts⟩ := id hC
  have iw0 := iwX0_hasRoom_0
  unfold fX0_hasRoom_16 at hf
  refine lv_iconst (v := (1 : Int32)) hx hb dX0_hasRoom_16 (by decide) ?_
  refine lv_goto (tgt := 21) hx hb dX0_hasRoom_17 (by decide) ?_
  exact zrz hf (Or.inr rfl) hQ hP hD hS dX0_hasRoom_21
set_option maxHeartbeats 4000000 in
set_option maxRecDepth 100000 in
theorem kX0_hasRoom {r : Int32 × zS} (hC0 : zC p m c cX0_hasRoom 1 s args wsX0_hasRoom RX0 D cI cZ) (hQ : zRz p l e rmX0_hasRoom s m args below meth c cX0_hasRoom D A (wX a cI) Q r) {S : zS} (hf : fX0_hasRoom S = some r) {H : Heap} {locs : List Loc} (hP : va_P D vwCl (wX a cI S) H) (hD : va_D A (wX a cI S)) (hS : va_S A s.heap H locs) {ls : Array Slot} (hl : lv_has ls 1 [(0, .ref (a 6))]) : W p l e rmX0_hasRoom s m args below meth c H locs 0 0 Q (F0 m 0 ls []) := by
  obtain ⟨hC, hK, hN⟩ := id hC0
  obtain ⟨hx, hb, hml, hown, hts⟩ := id hC
  have iw0 := iwX0_hasRoom_0
  unfold fX0_hasRoom at hf
  refine lv_aload_n hx hb dX0_hasRoom_0 rfl (lv_at hl 0 rfl) ?_
  refine gX0_size hx hb hts iw0 hown hK hP (List.mem_of_getElem? (i := 1) rfl) dX0_hasRoom_1 ?_
  refine lv_iconst (v := (5 : Int32)) hx hb dX0_hasRoom_4 (by decide) ?_
  refine lv_icmp_lt (tgt := 16) hx hb dX0_hasRoom_5 (by decide) (fun h_1 => ?_) (fun h_1 => ?_)
  · have hf := zt h_1 hf
    exact kX0_hasRoom_16 hC0 hQ hf hP hD hS (lv_sub hl [] rfl)
  · have hf := zf h_1 hf
    refine lv_aload_n hx hb dX0_hasRoom_8 rfl (lv_at hl 0 rfl) ?_
    obtain ⟨y_1, S_1, hg_1, hf⟩ := obnd_some hf
    refine zci (va_runV (As := []) (rest := []) hC (tX0_longestUnused hg_1) (cwV 0 hts gX0_hasRoom_X0_longestUnused rfl rfl rfl (by decide +kernel) ⟨Nat.le_of_ble_eq_true rfl, Nat.le_of_ble_eq_true rfl⟩) (zpV hP hK hD hN (rX_6 hK hP)) rfl rfl hl.1 rfl (lv_room (Nat.le_of_ble_eq_true rfl)) dX0_hasRoom_9 ⟨Nat.zero_le _, Nat.zero_le _⟩) hS (fun H locs hP hD hS => ?_)
    refine lv_iconst (v := (-1 : Int32)) hx hb dX0_hasRoom_12 (by decide) ?_
    refine lv_icmp_eq (tgt := 20) hx hb dX0_hasRoom_13 (by decide) (fun h_2 => ?_) (fun h_2 => ?_)
    · have hf := zt h_2 hf
      refine lv_iconst (v := (0 : Int32)) hx hb dX0_hasRoom_20 (by decide) ?_
      exact zrz hf (Or.inl rfl) hQ hP hD hS dX0_hasRoom_21
    · have hf := zf h_2 hf
      exact kX0_hasRoom_16 hC0 hQ hf hP hD hS (lv_sub hl [] rfl)
theorem tX0_hasRoom {S : zS} {r : Int32 × zS} (hf : fX0_hasRoom S = some r) : zMi l yX0_hasRoom wsX0_hasRoom rmX0_hasRoom D (zT cI cZ) A (wX a cI) [.ref (a 6)] S r :=
  zMz_of (by decide) rfl rfl (Nat.le_of_ble_eq_true rfl) (fun hC0 hQ hP hD hS _ hl => kX0_hasRoom hC0 hQ hf hP hD hS hl)
abbrev rmX1_removeSlot : Room := { frames := 0, cells := 0, slots := 0, locals := 0 }
theorem iwX1_removeSlot_1 : ∀ w ∈ wsX10, w ∈ wsX1_removeSlot := fun _ h => List.mem_cons_of_mem _ (List.mem_append_right _ h)
set_option maxHeartbeats 4000000 in
set_option maxRecDepth 100000 in
theorem kX1_removeSlot_2b {r : zS} (hC0 : zC p m c cX1_removeSlot 3 s args wsX1_removeSlot RX1 D cI cZ) (hQ : zRv p l e rmX1_removeSlot s m args below meth c cX1_removeSlot D A (wX a cI) Q r) {F2 : zS → Int32 → Option (zS)} (hF2 : ∀ (S : zS) (x2 : Int32), F2 S x2 = some r → ∀ {H : Heap} {locs : List Loc}, va_P D vwCl (wX a cI S) H → va_D A (wX a cI S) → va_S A s.heap H locs → ∀ {ls : Array Slot}, lv_has ls 3 [(0, .ref (a 3)), (2, .int x2)] → W p l e rmX1_removeSlot s m args below meth c H locs 0 0 Q (F0 m 2 ls [])) {S : zS} {x2 : Int32} (hf : bX1_removeSlot_2 F2 S x2 = some r) {H : Heap} {locs : List Loc} (hP : va_P D vwCl (wX a cI S) H) (hD : va_D A (wX a cI S)) (hS : va_S A s.heap H locs) {ls : Array Slot} (hl : lv_has ls 3 [(0, .ref (a 3)), (2, .int x2)]) : W p l e rmX1_removeSlot s m args below meth c H locs 0 0 Q (F0 m 2 ls []) := by
  obtain ⟨hC, hK, hN⟩ := id hC0
  obtain ⟨hx, hb, hml, hown, hts⟩ := id hC
  have iw1 := iwX1_removeSlot_1
  unfold bX1_removeSlot_2 at hf
  refine lv_iload_n hx hb dX1_removeSlot_2 rfl (lv_at hl 1 rfl) ?_
  refine lv_aload_n hx hb dX1_removeSlot_3 rfl (lv_at hl 0 rfl) ?_
  refine gX1_size hx hb hts iw1 hown hK hP (List.mem_of_getElem? (i := 1) rfl) dX1_removeSlot_4 ?_
  refine lv_iconst (v := (1 : Int32)) hx hb dX1_removeSlot_7 (by decide) ?_
  refine lv_isub hx hb dX1_removeSlot_8 ?_
  refine lv_icmp_ge (tgt := 46) hx hb dX1_removeSlot_9 (by decide) (fun h_1 => ?_) (fun h_1 => ?_)
  · have hf := zt h_1 hf
    refine lv_aload_n hx hb dX1_removeSlot_46 rfl (lv_at hl 0 rfl) ?_
    refine lv_dup hx hb dX1_removeSlot_47 rfl ?_
    refine gX1_size hx hb hts iw1 hown hK hP (List.mem_of_getElem? (i := 1) rfl) dX1_removeSlot_48 ?_
    refine lv_iconst (v := (1 : Int32)) hx hb dX1_removeSlot_51 (by decide) ?_
    refine lv_isub hx hb dX1_removeSlot_52 ?_
    refine pX1_size hf hx hb hts iw1 hown hK hP hD hS (List.mem_of_getElem? (i := 1) rfl) dX1_removeSlot_53 (fun S_1 H locs hf hP hD hS => ?_)
    exact zrv hf hQ hP hD hS dX1_removeSlot_56
  · have hf := zf h_1 hf
    refine lv_aload_n hx hb dX1_removeSlot_12 rfl (lv_at hl 0 rfl) ?_
    refine gX1_goals hx hb hts iw1 hown hK hP (List.mem_of_getElem? (i := 2) rfl) dX1_removeSlot_13 ?_
    refine lv_iload_n hx hb dX1_removeSlot_16 rfl (lv_at hl 1 rfl) ?_
    refine lv_aload_n hx hb dX1_removeSlot_17 rfl (lv_at hl 0 rfl) ?_
    refine gX1_goals hx hb hts iw1 hown hK hP (List.mem_of_getElem? (i := 2) rfl) dX1_removeSlot_18 ?_
    refine lv_iload_n hx hb dX1_removeSlot_21 rfl (lv_at hl 1 rfl) ?_
    refine lv_iconst (v := (1 : Int32)) hx hb dX1_removeSlot_22 (by decide) ?_
    refine lv_iadd hx hb dX1_removeSlot_23 ?_
    refine lX1_goals hf hx hb hK hP dX1_removeSlot_24 (fun hf => ?_)
    refine sX1_goals hf hx hb hK hP hD hS dX1_removeSlot_25 (fun S_2 H locs hf hP hD hS => ?_)
    refine lv_aload_n hx hb dX1_removeSlot_26 rfl (lv_at hl 0 rfl) ?_
    refine gX1_hops hx hb hts iw1 hown hK hP (List.mem_of_getElem? (i := 3) rfl) dX1_removeSlot_27 ?_
    refine lv_iload_n hx hb dX1_removeSlot_30 rfl (lv_at hl 1 rfl) ?_
    refine lv_aload_n hx hb dX1_removeSlot_31 rfl (lv_at hl 0 rfl) ?_
    refine gX1_hops hx hb hts iw1 hown hK hP (List.mem_of_getElem? (i := 3) rfl) dX1_removeSlot_32 ?_
    refine lv_iload_n hx hb dX1_removeSlot_35 rfl (lv_at hl 1 rfl) ?_
    refine lv_iconst (v := (1 : Int32)) hx hb dX1_removeSlot_36 (by decide) ?_
    refine lv_iadd hx hb dX1_removeSlot_37 ?_
    refine lX1_hops hf hx hb hK hP dX1_removeSlot_38 (fun hf => ?_)
    refine sX1_hops hf hx hb hK hP hD hS dX1_removeSlot_39 (fun S_3 H locs hf hP hD hS => ?_)
    refine z_iinc hf hx hb 1 (fun y => [(2, .int y), (0, .ref (a 3))]) dX1_removeSlot_40 hl rfl (by decide) (by decide) (fun _ => rfl) (fun y_1 ls hf hl => ?_)
    refine lv_goto (tgt := 2) hx hb dX1_removeSlot_43 (by decide) ?_
    exact hF2 _ _ hf hP hD hS (lv_sub hl [1, 0] rfl)
theorem kX1_removeSlot_2 {r : zS} (hC0 : zC p m c cX1_removeSlot 3 s args wsX1_removeSlot RX1 D cI cZ) (hQ : zRv p l e rmX1_removeSlot s m args below meth c cX1_removeSlot D A (wX a cI) Q r) (n : Nat) : ∀ (S : zS) (x2 : Int32), fX1_removeSlot_2 n S x2 = some r → ∀ {H : Heap} {locs : List Loc}, va_P D vwCl (wX a cI S) H → va_D A (wX a cI S) → va_S A s.heap H locs → ∀ {ls : Array Slot}, lv_has ls 3 [(0, .ref (a 3)), (2, .int x2)] → W p l e rmX1_removeSlot s m args below meth c H locs 0 0 Q (F0 m 2 ls []) := by
  induction n with
  | zero => intro S x2 hf; cases hf
  | succ n ih => intro S x2 hf; exact kX1_removeSlot_2b hC0 hQ ih hf
set_option maxHeartbeats 4000000 in
set_option maxRecDepth 100000 in
theorem kX1_removeSlot {r : zS} (hC0 : zC p m c cX1_removeSlot 3 s args wsX1_removeSlot RX1 D cI cZ) (hQ : zRv p l e rmX1_removeSlot s m args below meth c cX1_removeSlot D A (wX a cI) Q r) {S : zS} {x1 : Int32} (hf : fX1_removeSlot S x1 = some r) {H : Heap} {locs : List Loc} (hP : va_P D vwCl (wX a cI S) H) (hD : va_D A (wX a cI S)) (hS : va_S A s.heap H locs) {ls : Array Slot} (hl : lv_has ls 3 [(0, .ref (a 3)), (1, .int x1)]) : W p l e rmX1_removeSlot s m args below meth c H locs 0 0 Q (F0 m 0 ls []) := by
  obtain ⟨hC, hK, hN⟩ := id hC0
  obtain ⟨hx, hb, hml, hown, hts⟩ := id hC
  have iw1 := iwX1_removeSlot_1
  unfold fX1_removeSlot at hf
  refine lv_iload_n hx hb dX1_removeSlot_0 rfl (lv_at hl 1 rfl) ?_
  refine z_istore_n hf hx hb (fun y => [(2, .int y), (0, .ref (a 3)), (1, .int x1)]) dX1_removeSlot_1 rfl hl (by decide) (fun _ => rfl) (fun y_1 ls hf hl => ?_)
  exact kX1_removeSlot_2 hC0 hQ 64 _ _ hf hP hD hS (lv_sub hl [1, 0] rfl)
theorem tX1_removeSlot {S : zS} {x1 : Int32} {r : zS} (hf : fX1_removeSlot S x1 = some r) : zMv l yX1_removeSlot wsX1_removeSlot rmX1_removeSlot D (zT cI cZ) A (wX a cI) [.ref (a 3), .int x1] S r :=
  zMv_of (by decide) rfl rfl (Nat.le_of_ble_eq_true rfl) (fun hC0 hQ hP hD hS _ hl => kX1_removeSlot hC0 hQ hf hP hD hS hl)
abbrev rmX1_forget : Room := { frames := 1, cells := 0, slots := 0, locals := 22 }
theorem iwX1_forget_1 : ∀ w ∈ wsX10, w ∈ wsX1_forget := fun _ h => List.mem_cons_of_mem _ (List.mem_append_right _ h)
set_option maxHeartbeats 4000000 in
set_option maxRecDepth 100000 in
theorem kX1_forget_26 {r : zS} (hC0 : zC p m c cX1_forget 3 s args wsX1_forget RX1 D cI cZ) (hQ : zRv p l e rmX1_forget s m args below meth c cX1_forget D A (wX a cI) Q r) {F7 : zS → Int32 → Int32 → Option (zS)} (hF7 : ∀ (S : zS) (x1 : Int32) (x2 : Int32), F7 S x1 x2 = some r → ∀ {H : Heap} {locs : List Loc}, va_P D vwCl (wX a cI S) H → va_D A (wX a cI S) → va_S A s.heap H locs → ∀ {ls : Array Slot}, lv_has ls 3 [(0, .ref (a 3)), (1, .int x1), (2, .int x2)] → W p l e rmX1_forget s m args below meth c H locs 0 0 Q (F0 m 7 ls [])) {S : zS} {x1 : Int32} {x2 : Int32} (hf : fX1_forget_26 F7 S x1 x2 = some r) {H : Heap} {locs : List Loc} (hP : va_P D vwCl (wX a cI S) H) (hD : va_D A (wX a cI S)) (hS : va_S A s.heap H locs) {ls : Array Slot} (hl : lv_has ls 3 [(0, .ref (a 3)), (1, .int x1), (2, .int x2)]) : W p l e rmX1_forget s m args below meth c H locs 0 0 Q (F0 m 26 ls []) := by
  obtain ⟨hC, hK, hN⟩ := id hC0
  obtain ⟨hx, hb, hml, hown, hts⟩ := id hC
  have iw1 := iwX1_forget_1
  unfold fX1_forget_26 at hf
  refine z_iinc hf hx hb 2 (fun y => [(2, .int y), (0, .ref (a 3)), (1, .int x1)]) dX1_forget_26 hl rfl (by decide) (by decide) (fun _ => rfl) (fun y_1 ls hf hl => ?_)
  refine lv_goto (tgt := 7) hx hb dX1_forget_29 (by decide) ?_
  exact hF7 _ _ _ hf hP hD hS (lv_sub hl [1, 2, 0] rfl)
set_option maxHeartbeats 4000000 in
set_option maxRecDepth 100000 in
theorem kX1_forget_7b {r : zS} (hC0 : zC p m c cX1_forget 3 s args wsX1_forget RX1 D cI cZ) (hQ : zRv p l e rmX1_forget s m args below meth c cX1_forget D A (wX a cI) Q r) {F7 : zS → Int32 → Int32 → Option (zS)} (hF7 : ∀ (S : zS) (x1 : Int32) (x2 : Int32), F7 S x1 x2 = some r → ∀ {H : Heap} {locs : List Loc}, va_P D vwCl (wX a cI S) H → va_D A (wX a cI S) → va_S A s.heap H locs → ∀ {ls : Array Slot}, lv_has ls 3 [(0, .ref (a 3)), (1, .int x1), (2, .int x2)] → W p l e rmX1_forget s m args below meth c H locs 0 0 Q (F0 m 7 ls [])) {S : zS} {x1 : Int32} {x2 : Int32} (hf : bX1_forget_7 F7 S x1 x2 = some r) {H : Heap} {locs : List Loc} (hP : va_P D vwCl (wX a cI S) H) (hD : va_D A (wX a cI S)) (hS : va_S A s.heap H locs) {ls : Array Slot} (hl : lv_has ls 3 [(0, .ref (a 3)), (1, .int x1), (2, .int x2)]) : W p l e rmX1_forget s m args below meth c H locs 0 0 Q (F0 m 7 ls []) := by
  obtain ⟨hC, hK, hN⟩ := id hC0
  obtain ⟨hx, hb, hml, hown, hts⟩ := id hC
  have iw1 := iwX1_forget_1
  unfold bX1_forget_7 at hf
  refine lv_iload_n hx hb dX1_forget_7 rfl (lv_at hl 2 rfl) ?_
  refine lv_if_lt (tgt := 32) hx hb dX1_forget_8 (by decide) (fun h_1 => ?_) (fun h_1 => ?_)
  · have hf := zt h_1 hf
    exact zrv hf hQ hP hD hS dX1_forget_32
  · have hf := zf h_1 hf
    refine lv_aload_n hx hb dX1_forget_11 rfl (lv_at hl 0 rfl) ?_
    refine gX1_hops hx hb hts iw1 hown hK hP (List.mem_of_getElem? (i := 2) rfl) dX1_forget_12 ?_
    refine lv_iload_n hx hb dX1_forget_15 rfl (lv_at hl 2 rfl) ?_
    refine lX1_hops hf hx hb hK hP dX1_forget_16 (fun hf => ?_)
    refine lv_iload_n hx hb dX1_forget_17 rfl (lv_at hl 1 rfl) ?_
    refine lv_icmp_ne (tgt := 26) hx hb dX1_forget_18 (by decide) (fun h_2 => ?_) (fun h_2 => ?_)
    · have hf := zf h_2 hf
      exact kX1_forget_26 hC0 hQ hF7 hf hP hD hS (lv_sub hl [0, 1, 2] rfl)
    · have hf := zt h_2 hf
      refine lv_aload_n hx hb dX1_forget_21 rfl (lv_at hl 0 rfl) ?_
      refine lv_iload_n hx hb dX1_forget_22 rfl (lv_at hl 2 rfl) ?_
      obtain ⟨S_1, hg_1, hf⟩ := obnv_some hf
      refine zcv (va_runV (As := [.int x2]) (rest := []) hC (tX1_removeSlot hg_1) (cwV 1 hts gX1_forget_X1_removeSlot rfl rfl rfl (by decide +kernel) ⟨Nat.le_of_ble_eq_true rfl, Nat.le_of_ble_eq_true rfl⟩) (zpV hP hK hD hN (rX_3 hK hP)) rfl rfl hl.1 rfl (lv_room (Nat.le_of_ble_eq_true rfl)) dX1_forget_23 ⟨Nat.zero_le _, Nat.zero_le _⟩) hS (fun H locs hP hD hS => ?_)
      exact kX1_forget_26 hC0 hQ hF7 hf hP hD hS (lv_sub hl [0, 1, 2] rfl)
theorem kX1_forget_7 {r : zS} (hC0 : zC p m c cX1_forget 3 s args wsX1_forget RX1 D cI cZ) (hQ : zRv p l e rmX1_forget s m args below meth c cX1_forget D A (wX a cI) Q r) (n : Nat) : ∀ (S : zS) (x1 : Int32) (x2 : Int32), fX1_forget_7 n S x1 x2 = some r → ∀ {H : Heap} {locs : List Loc}, va_P D vwCl (wX a cI S) H → va_D A (wX a cI S) → va_S A s.heap H locs → ∀ {ls : Array Slot}, lv_has ls 3 [(0, .ref (a 3)), (1, .int x1), (2, .int x2)] → W p l e rmX1_forget s m args below meth c H locs 0 0 Q (F0 m 7 ls []) := by
  induction n with
  | zero => intro S x1 x2 hf; cases hf
  | succ n ih => intro S x1 x2 hf; exact kX1_forget_7b hC0 hQ ih hf
set_option maxHeartbeats 4000000 in
set_option maxRecDepth 100000 in
theorem kX1_forget {r : zS} (hC0 : zC p m c cX1_forget 3 s args wsX1_forget RX1 D cI cZ) (hQ : zRv p l e rmX1_forget s m args below meth c cX1_forget D A (wX a cI) Q r) {S : zS} {x1 : Int32} (hf : fX1_forget S x1 = some r) {H : Heap} {locs : List Loc} (hP : va_P D vwCl (wX a cI S) H) (hD : va_D A (wX a cI S)) (hS : va_S A s.heap H locs) {ls : Array Slot} (hl : lv_has ls 3 [(0, .ref (a 3)), (1, .int x1)]) : W p l e rmX1_forget s m args below meth c H locs 0 0 Q (F0 m 0 ls []) := by
  obtain ⟨hC, hK, hN⟩ := id hC0
  obtain ⟨hx, hb, hml, hown, hts⟩ := id hC
  have iw1 := iwX1_forget_1
  unfold fX1_forget at hf
  refine lv_aload_n hx hb dX1_forget_0 rfl (lv_at hl 0 rfl) ?_
  refine gX1_size hx hb hts iw1 hown hK hP (List.mem_of_getElem? (i := 1) rfl) dX1_forget_1 ?_
  refine lv_iconst (v := (1 : Int32)) hx hb dX1_forget_4 (by decide) ?_
  refine lv_isub hx hb dX1_forget_5 ?_
  refine z_istore_n hf hx hb (fun y => [(2, .int y), (0, .ref (a 3)), (1, .int x1)]) dX1_forget_6 rfl hl (by decide) (fun _ => rfl) (fun y_1 ls hf hl => ?_)
  exact kX1_forget_7 hC0 hQ 64 _ _ _ hf hP hD hS (lv_sub hl [1, 2, 0] rfl)
theorem tX1_forget {S : zS} {x1 : Int32} {r : zS} (hf : fX1_forget S x1 = some r) : zMv l yX1_forget wsX1_forget rmX1_forget D (zT cI cZ) A (wX a cI) [.ref (a 3), .int x1] S r :=
  zMv_of (by decide) rfl rfl (Nat.le_of_ble_eq_true rfl) (fun hC0 hQ hP hD hS _ hl => kX1_forget hC0 hQ hf hP hD hS hl)
abbrev rmX0_remove : Room := { frames := 2, cells := 0, slots := 0, locals := 44 }
theorem iwX0_remove_0 : ∀ w ∈ wsX00, w ∈ wsX0_remove := fun _ h => List.mem_cons_of_mem _ (List.mem_append_left _ (List.mem_append_right _ h))
theorem iwX0_remove_1 : ∀ w ∈ wsX10, w ∈ wsX0_remove := fun _ h => List.mem_cons_of_mem _ (List.mem_append_right _ h)
set_option maxHeartbeats 4000000 in
set_option maxRecDepth 100000 in
theorem kX0_remove {r : zS} (hC0 : zC p m c cX0_remove 2 s args wsX0_remove RX0 D cI cZ) (hQ : zRv p l e rmX0_remove s m args below meth c cX0_remove D A (wX a cI) Q r) {S : zS} {x1 : Int32} (hf : fX0_remove S x1 = some r) {H : Heap} {locs : List Loc} (hP : va_P D vwCl (wX a cI S) H) (hD : va_D A (wX a cI S)) (hS : va_S A s.heap H locs) {ls : Array Slot} (hl : lv_has ls 2 [(0, .ref (a 6)), (1, .int x1)]) : W p l e rmX0_remove s m args below meth c H locs 0 0 Q (F0 m 0 ls []) := by
  obtain ⟨hC, hK, hN⟩ := id hC0
  obtain ⟨hx, hb, hml, hown, hts⟩ := id hC
  have iw0 := iwX0_remove_0
  have iw1 := iwX0_remove_1
  unfold fX0_remove at hf
  refine lv_aload_n hx hb dX0_remove_0 rfl (lv_at hl 0 rfl) ?_
  refine lv_iload_n hx hb dX0_remove_1 rfl (lv_at hl 1 rfl) ?_
  obtain ⟨y_1, S_1, hg_1, hf⟩ := obnd_some hf
  refine zci (va_runV (As := [.int x1]) (rest := []) hC (tX0_has hg_1) (cwV 1 hts gX0_remove_X0_has rfl rfl rfl (by decide +kernel) ⟨Nat.le_of_ble_eq_true rfl, Nat.le_of_ble_eq_true rfl⟩) (zpV hP hK hD hN (rX_6 hK hP)) rfl rfl hl.1 rfl (lv_room (Nat.le_of_ble_eq_true rfl)) dX0_remove_2 ⟨Nat.zero_le _, Nat.zero_le _⟩) hS (fun H locs hP hD hS => ?_)
  refine lv_if_ne (tgt := 9) hx hb dX0_remove_5 (by decide) (fun h_1 => ?_) (fun h_1 => ?_)
  · have hf := zf h_1 hf
    refine lv_aload_n hx hb dX0_remove_9 rfl (lv_at hl 0 rfl) ?_
    refine lv_dup hx hb dX0_remove_10 rfl ?_
    refine gX0_lost hx hb hts iw0 hown hK hP (List.mem_of_getElem? (i := 1) rfl) dX0_remove_11 ?_
    refine lv_aload_n hx hb dX0_remove_14 rfl (lv_at hl 0 rfl) ?_
    refine gX0_waiting hx hb hts iw0 hown hK hP (List.mem_of_getElem? (i := 2) rfl) dX0_remove_15 ?_
    refine lv_iload_n hx hb dX0_remove_18 rfl (lv_at hl 1 rfl) ?_
    refine lX0_waiting hf hx hb hK hP dX0_remove_19 (fun hf => ?_)
    refine lv_iadd hx hb dX0_remove_20 ?_
    refine pX0_lost hf hx hb hts iw0 hown hK hP hD hS (List.mem_of_getElem? (i := 1) rfl) dX0_remove_21 (fun S_2 H locs hf hP hD hS => ?_)
    refine lv_aload_n hx hb dX0_remove_24 rfl (lv_at hl 0 rfl) ?_
    refine gX0_waiting hx hb hts iw0 hown hK hP (List.mem_of_getElem? (i := 2) rfl) dX0_remove_25 ?_
    refine lv_iload_n hx hb dX0_remove_28 rfl (lv_at hl 1 rfl) ?_
    refine lv_iconst (v := (0 : Int32)) hx hb dX0_remove_29 (by decide) ?_
    refine sX0_waiting hf hx hb hK hP hD hS dX0_remove_30 (fun S_3 H locs hf hP hD hS => ?_)
    refine lv_aload_n hx hb dX0_remove_31 rfl (lv_at hl 0 rfl) ?_
    refine gX0_states hx hb hts iw0 hown hK hP (List.mem_of_getElem? (i := 3) rfl) dX0_remove_32 ?_
    refine lv_iload_n hx hb dX0_remove_35 rfl (lv_at hl 1 rfl) ?_
    refine lv_iconst (v := (-1 : Int32)) hx hb dX0_remove_36 (by decide) ?_
    refine sX0_states hf hx hb hK hP hD hS dX0_remove_37 (fun S_4 H locs hf hP hD hS => ?_)
    refine lv_aload_n hx hb dX0_remove_38 rfl (lv_at hl 0 rfl) ?_
    refine lv_dup hx hb dX0_remove_39 rfl ?_
    refine gX0_size hx hb hts iw0 hown hK hP (List.mem_of_getElem? (i := 4) rfl) dX0_remove_40 ?_
    refine lv_iconst (v := (1 : Int32)) hx hb dX0_remove_43 (by decide) ?_
    refine lv_isub hx hb dX0_remove_44 ?_
    refine pX0_size hf hx hb hts iw0 hown hK hP hD hS (List.mem_of_getElem? (i := 4) rfl) dX0_remove_45 (fun S_5 H locs hf hP hD hS => ?_)
    refine lv_aload_n hx hb dX0_remove_48 rfl (lv_at hl 0 rfl) ?_
    refine lv_dup hx hb dX0_remove_49 rfl ?_
    refine gX0_gone hx hb hts iw0 hown hK hP (List.mem_of_getElem? (i := 5) rfl) dX0_remove_50 ?_
    refine lv_iconst (v := (1 : Int32)) hx hb dX0_remove_53 (by decide) ?_
    refine lv_iadd hx hb dX0_remove_54 ?_
    refine pX0_gone hf hx hb hts iw0 hown hK hP hD hS (List.mem_of_getElem? (i := 5) rfl) dX0_remove_55 (fun S_6 H locs hf hP hD hS => ?_)
    refine lv_aload_n hx hb dX0_remove_58 rfl (lv_at hl 0 rfl) ?_
    refine gX0_kept hx hb hts iw0 hown hK hP (List.mem_of_getElem? (i := 6) rfl) dX0_remove_59 ?_
    refine lv_iload_n hx hb dX0_remove_62 rfl (lv_at hl 1 rfl) ?_
    obtain ⟨S_7, hg_2, hf⟩ := obnv_some hf
    refine zcv (va_runVN (As := [.int x1]) (rest := []) hC (tX1_forget hg_2) ⟨va_cnB 1 hts gX0_remove_X1_forget_n71 rfl rfl rfl (hN _ zN7) (hts _ (List.mem_of_getElem? (i := 13) rfl)) (by decide +kernel) ⟨Nat.le_of_ble_eq_true rfl, Nat.le_of_ble_eq_true rfl⟩, hts _ (List.mem_of_getElem? (i := 12) rfl), hts _ (List.mem_of_getElem? (i := 14) rfl)⟩ (zpV hP hK hD hN (rX_3 hK hP)) rfl rfl hl.1 rfl (lv_room (Nat.le_of_ble_eq_true rfl)) dX0_remove_63 ⟨Nat.zero_le _, Nat.zero_le _⟩) hS (fun H locs hP hD hS => ?_)
    exact zrv hf hQ hP hD hS dX0_remove_66
  · have hf := zt h_1 hf
    exact zrv hf hQ hP hD hS dX0_remove_8
theorem tX0_remove {S : zS} {x1 : Int32} {r : zS} (hf : fX0_remove S x1 = some r) : zMv l yX0_remove wsX0_remove rmX0_remove D (zT cI cZ) A (wX a cI) [.ref (a 6), .int x1] S r :=
  zMv_of (by decide) rfl rfl (Nat.le_of_ble_eq_true rfl) (fun hC0 hQ hP hD hS _ hl => kX0_remove hC0 hQ hf hP hD hS hl)
abbrev rmX0_become : Room := { frames := 0, cells := 0, slots := 0, locals := 0 }
theorem iwX0_become_0 : ∀ w ∈ wsX00, w ∈ wsX0_become := fun _ h => List.mem_cons_of_mem _ (List.mem_append_right _ h)
set_option maxHeartbeats 4000000 in
set_option maxRecDepth 100000 in
theorem kX0_become {r : zS} (hC0 : zC p m c cX0_become 4 s args wsX0_become RX0 D cI cZ) (hQ : zRv p l e rmX0_become s m args below meth c cX0_become D A (wX a cI) Q r) {S : zS} {x1 : Int32} {x2 : Int32} {x3 : Int32} (hf : fX0_become S x1 x2 x3 = some r) {H : Heap} {locs : List Loc} (hP : va_P D vwCl (wX a cI S) H) (hD : va_D A (wX a cI S)) (hS : va_S A s.heap H locs) {ls : Array Slot} (hl : lv_has ls 4 [(0, .ref (a 6)), (1, .int x1), (2, .int x2), (3, .int x3)]) : W p l e rmX0_become s m args below meth c H locs 0 0 Q (F0 m 0 ls []) := by
  obtain ⟨hC, hK, hN⟩ := id hC0
  obtain ⟨hx, hb, hml, hown, hts⟩ := id hC
  have iw0 := iwX0_become_0
  unfold fX0_become at hf
  refine lv_aload_n hx hb dX0_become_0 rfl (lv_at hl 0 rfl) ?_
  refine gX0_states hx hb hts iw0 hown hK hP (List.mem_of_getElem? (i := 1) rfl) dX0_become_1 ?_
  refine lv_iload_n hx hb dX0_become_4 rfl (lv_at hl 1 rfl) ?_
  refine lv_iload_n hx hb dX0_become_5 rfl (lv_at hl 2 rfl) ?_
  refine sX0_states hf hx hb hK hP hD hS dX0_become_6 (fun S_1 H locs hf hP hD hS => ?_)
  refine lv_aload_n hx hb dX0_become_7 rfl (lv_at hl 0 rfl) ?_
  refine gX0_ends hx hb hts iw0 hown hK hP (List.mem_of_getElem? (i := 2) rfl) dX0_become_8 ?_
  refine lv_iload_n hx hb dX0_become_11 rfl (lv_at hl 1 rfl) ?_
  refine lv_iload_n hx hb dX0_become_12 rfl (lv_at hl 3 rfl) ?_
  refine sX0_ends hf hx hb hK hP hD hS dX0_become_13 (fun S_2 H locs hf hP hD hS => ?_)
  refine lv_aload_n hx hb dX0_become_14 rfl (lv_at hl 0 rfl) ?_
  refine gX0_tries hx hb hts iw0 hown hK hP (List.mem_of_getElem? (i := 3) rfl) dX0_become_15 ?_
  refine lv_iload_n hx hb dX0_become_18 rfl (lv_at hl 1 rfl) ?_
  refine lv_iconst (v := (0 : Int32)) hx hb dX0_become_19 (by decide) ?_
  refine sX0_tries hf hx hb hK hP hD hS dX0_become_20 (fun S_3 H locs hf hP hD hS => ?_)
  exact zrv hf hQ hP hD hS dX0_become_21
theorem tX0_become {S : zS} {x1 : Int32} {x2 : Int32} {x3 : Int32} {r : zS} (hf : fX0_become S x1 x2 x3 = some r) : zMv l yX0_become wsX0_become rmX0_become D (zT cI cZ) A (wX a cI) [.ref (a 6), .int x1, .int x2, .int x3] S r :=
  zMv_of (by decide) rfl rfl (Nat.le_of_ble_eq_true rfl) (fun hC0 hQ hP hD hS _ hl => kX0_become hC0 hQ hf hP hD hS hl)
abbrev rmX0_come : Room := { frames := 3, cells := 0, slots := 0, locals := 65 }
theorem iwX0_come_0 : ∀ w ∈ wsX00, w ∈ wsX0_come := fun _ h => List.mem_cons_of_mem _ (List.mem_append_left _ (List.mem_append_right _ h))
theorem iwX0_come_1 : ∀ w ∈ wsX10, w ∈ wsX0_come := fun _ h => List.mem_cons_of_mem _ (List.mem_append_right _ h)
set_option maxHeartbeats 4000000 in
set_option maxRecDepth 100000 in
theorem kX0_come_16 {r : zS} (hC0 : zC p m c cX0_come 5 s args wsX0_come RX0 D cI cZ) (hQ : zRv p l e rmX0_come s m args below meth c cX0_come D A (wX a cI) Q r) {S : zS} {x1 : Int32} {x2 : Int32} {x3 : Int32} {x4 : Int32} (hf : fX0_come_16 S x1 x2 x3 x4 = some r) {H : Heap} {locs : List Loc} (hP : va_P D vwCl (wX a cI S) H) (hD : va_D A (wX a cI S)) (hS : va_S A s.heap H locs) {ls : Array Slot} (hl : lv_has ls 5 [(0, .ref (a 6)), (1, .int x1), (2, .int x2), (3, .int x3), (4, .int x4)]) : W p l e rmX0_come s m args below meth c H locs 0 0 Q (F0 m 16 ls []) := by
  obtain ⟨hC, hK, hN⟩ := id hC0
  obtain ⟨hx, hb, hml, hown, hts⟩ := id hC
  have iw0 := iwX0_come_0
  have iw1 := iwX0_come_1
  unfold fX0_come_16 at hf
  refine lv_aload_n hx hb dX0_come_16 rfl (lv_at hl 0 rfl) ?_
  refine lv_dup hx hb dX0_come_17 rfl ?_
  refine gX0_size hx hb hts iw0 hown hK hP (List.mem_of_getElem? (i := 1) rfl) dX0_come_18 ?_
  refine lv_iconst (v := (1 : Int32)) hx hb dX0_come_21 (by decide) ?_
  refine lv_iadd hx hb dX0_come_22 ?_
  refine pX0_size hf hx hb hts iw0 hown hK hP hD hS (List.mem_of_getElem? (i := 1) rfl) dX0_come_23 (fun S_1 H locs hf hP hD hS => ?_)
  refine lv_aload_n hx hb dX0_come_26 rfl (lv_at hl 0 rfl) ?_
  refine gX0_marks hx hb hts iw0 hown hK hP (List.mem_of_getElem? (i := 2) rfl) dX0_come_27 ?_
  refine lv_iload_n hx hb dX0_come_30 rfl (lv_at hl 1 rfl) ?_
  refine lv_iload_n hx hb dX0_come_31 rfl (lv_at hl 3 rfl) ?_
  refine sX0_marks hf hx hb hK hP hD hS dX0_come_32 (fun S_2 H locs hf hP hD hS => ?_)
  refine lv_aload_n hx hb dX0_come_33 rfl (lv_at hl 0 rfl) ?_
  refine gX0_used hx hb hts iw0 hown hK hP (List.mem_of_getElem? (i := 3) rfl) dX0_come_34 ?_
  refine lv_iload_n hx hb dX0_come_37 rfl (lv_at hl 1 rfl) ?_
  refine lv_iload hx hb dX0_come_38 (lv_at hl 4 rfl) ?_
  refine sX0_used hf hx hb hK hP hD hS dX0_come_40 (fun S_3 H locs hf hP hD hS => ?_)
  refine lv_aload_n hx hb dX0_come_41 rfl (lv_at hl 0 rfl) ?_
  refine lv_iload_n hx hb dX0_come_42 rfl (lv_at hl 1 rfl) ?_
  refine lv_iload_n hx hb dX0_come_43 rfl (lv_at hl 2 rfl) ?_
  refine lv_iconst (v := (-1 : Int32)) hx hb dX0_come_44 (by decide) ?_
  obtain ⟨S_4, hg_1, hf⟩ := obnv_some hf
  refine zcv (va_runV (As := [.int x1, .int x2, .int (-1 : Int32)]) (rest := []) hC (tX0_become hg_1) (cwV 3 hts gX0_come_X0_become rfl rfl rfl (by decide +kernel) ⟨Nat.le_of_ble_eq_true rfl, Nat.le_of_ble_eq_true rfl⟩) (zpV hP hK hD hN (rX_6 hK hP)) rfl rfl hl.1 rfl (lv_room (Nat.le_of_ble_eq_true rfl)) dX0_come_45 ⟨Nat.zero_le _, Nat.zero_le _⟩) hS (fun H locs hP hD hS => ?_)
  exact zrv hf hQ hP hD hS dX0_come_48
set_option maxHeartbeats 4000000 in
set_option maxRecDepth 100000 in
theorem kX0_come {r : zS} (hC0 : zC p m c cX0_come 5 s args wsX0_come RX0 D cI cZ) (hQ : zRv p l e rmX0_come s m args below meth c cX0_come D A (wX a cI) Q r) {S : zS} {x1 : Int32} {x2 : Int32} {x3 : Int32} {x4 : Int32} (hf : fX0_come S x1 x2 x3 x4 = some r) {H : Heap} {locs : List Loc} (hP : va_P D vwCl (wX a cI S) H) (hD : va_D A (wX a cI S)) (hS : va_S A s.heap H locs) {ls : Array Slot} (hl : lv_has ls 5 [(0, .ref (a 6)), (1, .int x1), (2, .int x2), (3, .int x3), (4, .int x4)]) : W p l e rmX0_come s m args below meth c H locs 0 0 Q (F0 m 0 ls []) := by
  obtain ⟨hC, hK, hN⟩ := id hC0
  obtain ⟨hx, hb, hml, hown, hts⟩ := id hC
  have iw0 := iwX0_come_0
  have iw1 := iwX0_come_1
  unfold fX0_come at hf
  refine lv_aload_n hx hb dX0_come_0 rfl (lv_at hl 0 rfl) ?_
  refine gX0_size hx hb hts iw0 hown hK hP (List.mem_of_getElem? (i := 1) rfl) dX0_come_1 ?_
  refine lv_iconst (v := (5 : Int32)) hx hb dX0_come_4 (by decide) ?_
  refine lv_icmp_lt (tgt := 16) hx hb dX0_come_5 (by decide) (fun h_1 => ?_) (fun h_1 => ?_)
  · have hf := zt h_1 hf
    exact kX0_come_16 hC0 hQ hf hP hD hS (lv_sub hl [0, 1, 2, 3, 4] rfl)
  · have hf := zf h_1 hf
    refine lv_aload_n hx hb dX0_come_8 rfl (lv_at hl 0 rfl) ?_
    refine lv_aload_n hx hb dX0_come_9 rfl (lv_at hl 0 rfl) ?_
    obtain ⟨y_1, S_1, hg_1, hf⟩ := obnd_some hf
    refine zci (va_runV (As := []) (rest := [.ref (a 6)]) hC (tX0_longestUnused hg_1) (cwV 0 hts gX0_come_X0_longestUnused rfl rfl rfl (by decide +kernel) ⟨Nat.le_of_ble_eq_true rfl, Nat.le_of_ble_eq_true rfl⟩) (zpV hP hK hD hN (rX_6 hK hP)) rfl rfl hl.1 rfl (lv_room (Nat.le_of_ble_eq_true rfl)) dX0_come_10 ⟨Nat.zero_le _, Nat.zero_le _⟩) hS (fun H locs hP hD hS => ?_)
    obtain ⟨S_2, hg_2, hf⟩ := obnv_some hf
    refine zcv (va_runV (As := [.int y_1]) (rest := []) hC (tX0_remove hg_2) (cwV 1 hts gX0_come_X0_remove rfl rfl rfl (by decide +kernel) ⟨Nat.le_of_ble_eq_true rfl, Nat.le_of_ble_eq_true rfl⟩) (zpV hP hK hD hN (rX_6 hK hP)) rfl rfl hl.1 rfl (lv_room (Nat.le_of_ble_eq_true rfl)) dX0_come_13 ⟨Nat.zero_le _, Nat.zero_le _⟩) hS (fun H locs hP hD hS => ?_)
    exact kX0_come_16 hC0 hQ hf hP hD hS (lv_sub hl [0, 1, 2, 3, 4] rfl)
theorem tX0_come {S : zS} {x1 : Int32} {x2 : Int32} {x3 : Int32} {x4 : Int32} {r : zS} (hf : fX0_come S x1 x2 x3 x4 = some r) : zMv l yX0_come wsX0_come rmX0_come D (zT cI cZ) A (wX a cI) [.ref (a 6), .int x1, .int x2, .int x3, .int x4] S r :=
  zMv_of (by decide) rfl rfl (Nat.le_of_ble_eq_true rfl) (fun hC0 hQ hP hD hS _ hl => kX0_come hC0 hQ hf hP hD hS hl)
abbrev rmX0_becomeFresh : Room := { frames := 1, cells := 0, slots := 0, locals := 23 }
theorem iwX0_becomeFresh_0 : ∀ w ∈ wsX00, w ∈ wsX0_becomeFresh := fun _ h => List.mem_cons_of_mem _ (List.mem_append_right _ h)
set_option maxHeartbeats 4000000 in
set_option maxRecDepth 100000 in
theorem kX0_becomeFresh {r : zS} (hC0 : zC p m c cX0_becomeFresh 3 s args wsX0_becomeFresh RX0 D cI cZ) (hQ : zRv p l e rmX0_becomeFresh s m args below meth c cX0_becomeFresh D A (wX a cI) Q r) {S : zS} {x1 : Int32} {x2 : Int32} (hf : fX0_becomeFresh S x1 x2 = some r) {H : Heap} {locs : List Loc} (hP : va_P D vwCl (wX a cI S) H) (hD : va_D A (wX a cI S)) (hS : va_S A s.heap H locs) {ls : Array Slot} (hl : lv_has ls 3 [(0, .ref (a 6)), (1, .int x1), (2, .int x2)]) : W p l e rmX0_becomeFresh s m args below meth c H locs 0 0 Q (F0 m 0 ls []) := by
  obtain ⟨hC, hK, hN⟩ := id hC0
  obtain ⟨hx, hb, hml, hown, hts⟩ := id hC
  have iw0 := iwX0_becomeFresh_0
  unfold fX0_becomeFresh at hf
  refine lv_aload_n hx hb dX0_becomeFresh_0 rfl (lv_at hl 0 rfl) ?_
  refine lv_iload_n hx hb dX0_becomeFresh_1 rfl (lv_at hl 1 rfl) ?_
  refine lv_iconst (v := (1 : Int32)) hx hb dX0_becomeFresh_2 (by decide) ?_
  refine lv_iload_n hx hb dX0_becomeFresh_3 rfl (lv_at hl 2 rfl) ?_
  refine lv_bipush (v := (30 : Int32)) hx hb dX0_becomeFresh_4 (by decide) ?_
  refine lv_iadd hx hb dX0_becomeFresh_6 ?_
  obtain ⟨S_1, hg_1, hf⟩ := obnv_some hf
  refine zcv (va_runV (As := [.int x1, .int (1 : Int32), .int (x2 + (30 : Int32))]) (rest := []) hC (tX0_become hg_1) (cwV 3 hts gX0_becomeFresh_X0_become rfl rfl rfl (by decide +kernel) ⟨Nat.le_of_ble_eq_true rfl, Nat.le_of_ble_eq_true rfl⟩) (zpV hP hK hD hN (rX_6 hK hP)) rfl rfl hl.1 rfl (lv_room (Nat.le_of_ble_eq_true rfl)) dX0_becomeFresh_7 ⟨Nat.zero_le _, Nat.zero_le _⟩) hS (fun H locs hP hD hS => ?_)
  exact zrv hf hQ hP hD hS dX0_becomeFresh_10
theorem tX0_becomeFresh {S : zS} {x1 : Int32} {x2 : Int32} {r : zS} (hf : fX0_becomeFresh S x1 x2 = some r) : zMv l yX0_becomeFresh wsX0_becomeFresh rmX0_becomeFresh D (zT cI cZ) A (wX a cI) [.ref (a 6), .int x1, .int x2] S r :=
  zMv_of (by decide) rfl rfl (Nat.le_of_ble_eq_true rfl) (fun hC0 hQ hP hD hS _ hl => kX0_becomeFresh hC0 hQ hf hP hD hS hl)
abbrev rmX0_becomeStale : Room := { frames := 1, cells := 0, slots := 0, locals := 23 }
theorem iwX0_becomeStale_0 : ∀ w ∈ wsX00, w ∈ wsX0_becomeStale := fun _ h => List.mem_cons_of_mem _ (List.mem_append_right _ h)
set_option maxHeartbeats 4000000 in
set_option maxRecDepth 100000 in
theorem kX0_becomeStale {r : zS} (hC0 : zC p m c cX0_becomeStale 2 s args wsX0_becomeStale RX0 D cI cZ) (hQ : zRv p l e rmX0_becomeStale s m args below meth c cX0_becomeStale D A (wX a cI) Q r) {S : zS} {x1 : Int32} (hf : fX0_becomeStale S x1 = some r) {H : Heap} {locs : List Loc} (hP : va_P D vwCl (wX a cI S) H) (hD : va_D A (wX a cI S)) (hS : va_S A s.heap H locs) {ls : Array Slot} (hl : lv_has ls 2 [(0, .ref (a 6)), (1, .int x1)]) : W p l e rmX0_becomeStale s m args below meth c H locs 0 0 Q (F0 m 0 ls []) := by
  obtain ⟨hC, hK, hN⟩ := id hC0
  obtain ⟨hx, hb, hml, hown, hts⟩ := id hC
  have iw0 := iwX0_becomeStale_0
  unfold fX0_becomeStale at hf
  refine lv_aload_n hx hb dX0_becomeStale_0 rfl (lv_at hl 0 rfl) ?_
  refine lv_iload_n hx hb dX0_becomeStale_1 rfl (lv_at hl 1 rfl) ?_
  refine lv_iconst (v := (2 : Int32)) hx hb dX0_becomeStale_2 (by decide) ?_
  refine lv_iconst (v := (-1 : Int32)) hx hb dX0_becomeStale_3 (by decide) ?_
  obtain ⟨S_1, hg_1, hf⟩ := obnv_some hf
  refine zcv (va_runV (As := [.int x1, .int (2 : Int32), .int (-1 : Int32)]) (rest := []) hC (tX0_become hg_1) (cwV 3 hts gX0_becomeStale_X0_become rfl rfl rfl (by decide +kernel) ⟨Nat.le_of_ble_eq_true rfl, Nat.le_of_ble_eq_true rfl⟩) (zpV hP hK hD hN (rX_6 hK hP)) rfl rfl hl.1 rfl (lv_room (Nat.le_of_ble_eq_true rfl)) dX0_becomeStale_4 ⟨Nat.zero_le _, Nat.zero_le _⟩) hS (fun H locs hP hD hS => ?_)
  exact zrv hf hQ hP hD hS dX0_becomeStale_7
theorem tX0_becomeStale {S : zS} {x1 : Int32} {r : zS} (hf : fX0_becomeStale S x1 = some r) : zMv l yX0_becomeStale wsX0_becomeStale rmX0_becomeStale D (zT cI cZ) A (wX a cI) [.ref (a 6), .int x1] S r :=
  zMv_of (by decide) rfl rfl (Nat.le_of_ble_eq_true rfl) (fun hC0 hQ hP hD hS _ hl => kX0_becomeStale hC0 hQ hf hP hD hS hl)
abbrev rmX2_add : Room := { frames := 0, cells := 0, slots := 0, locals := 0 }
theorem iwX2_add_2 : ∀ w ∈ wsX20, w ∈ wsX2_add := fun _ h => List.mem_cons_of_mem _ (List.mem_append_right _ h)
set_option maxHeartbeats 4000000 in
set_option maxRecDepth 100000 in
theorem kX2_add_100 {r : zS} (hC0 : zC p m c cX2_add 7 s args wsX2_add RX2 D cI cZ) (hQ : zRv p l e rmX2_add s m args below meth c cX2_add D A (wX a cI) Q r) {S : zS} {x1 : Int32} (hf : fX2_add_100 S x1 = some r) {H : Heap} {locs : List Loc} (hP : va_P D vwCl (wX a cI S) H) (hD : va_D A (wX a cI S)) (hS : va_S A s.heap H locs) {ls : Array Slot} (hl : lv_has ls 7 [(0, .ref (a 1)), (1, .int x1)]) : W p l e rmX2_add s m args below meth c H locs 0 0 Q (F0 m 100 ls []) := by
  obtain ⟨hC, hK, hN⟩ := id hC0
  obtain ⟨hx, hb, hml, hown, hts⟩ := id hC
  have iw2 := iwX2_add_2
  unfold fX2_add_100 at hf
  refine lv_aload_n hx hb dX2_add_100 rfl (lv_at hl 0 rfl) ?_
  refine lv_dup hx hb dX2_add_101 rfl ?_
  refine gX2_all hx hb hts iw2 hown hK hP (List.mem_of_getElem? (i := 4) rfl) dX2_add_102 ?_
  refine lv_iconst (v := (1 : Int32)) hx hb dX2_add_105 (by decide) ?_
  refine lv_iadd hx hb dX2_add_106 ?_
  refine pX2_all hf hx hb hts iw2 hown hK hP hD hS (List.mem_of_getElem? (i := 4) rfl) dX2_add_107 (fun S_1 H locs hf hP hD hS => ?_)
  refine lv_iload_n hx hb dX2_add_110 rfl (lv_at hl 1 rfl) ?_
  refine lv_if_ne (tgt := 124) hx hb dX2_add_111 (by decide) (fun h_1 => ?_) (fun h_1 => ?_)
  · have hf := zf h_1 hf
    exact zrv hf hQ hP hD hS dX2_add_124
  · have hf := zt h_1 hf
    refine lv_aload_n hx hb dX2_add_114 rfl (lv_at hl 0 rfl) ?_
    refine lv_dup hx hb dX2_add_115 rfl ?_
    refine gX2_letters hx hb hts iw2 hown hK hP (List.mem_of_getElem? (i := 5) rfl) dX2_add_116 ?_
    refine lv_iconst (v := (1 : Int32)) hx hb dX2_add_119 (by decide) ?_
    refine lv_iadd hx hb dX2_add_120 ?_
    refine pX2_letters hf hx hb hts iw2 hown hK hP hD hS (List.mem_of_getElem? (i := 5) rfl) dX2_add_121 (fun S_2 H locs hf hP hD hS => ?_)
    exact zrv hf hQ hP hD hS dX2_add_124
set_option maxHeartbeats 4000000 in
set_option maxRecDepth 100000 in
theorem kX2_add_20 {r : zS} (hC0 : zC p m c cX2_add 7 s args wsX2_add RX2 D cI cZ) (hQ : zRv p l e rmX2_add s m args below meth c cX2_add D A (wX a cI) Q r) {S : zS} {x1 : Int32} {x2 : Int32} {x3 : Int32} {x4 : Int32} {x5 : Int32} {t1 : Int32} (hf : fX2_add_20 S x1 x2 x3 x4 x5 t1 = some r) {H : Heap} {locs : List Loc} (hP : va_P D vwCl (wX a cI S) H) (hD : va_D A (wX a cI S)) (hS : va_S A s.heap H locs) {ls : Array Slot} (hl : lv_has ls 7 [(0, .ref (a 1)), (1, .int x1), (2, .int x2), (3, .int x3), (4, .int x4), (5, .int x5)]) : W p l e rmX2_add s m args below meth c H locs 0 0 Q (F0 m 20 ls [.int t1, .ref (a 1)]) := by
  obtain ⟨hC, hK, hN⟩ := id hC0
  obtain ⟨hx, hb, hml, hown, hts⟩ := id hC
  have iw2 := iwX2_add_2
  unfold fX2_add_20 at hf
  refine pX2_latest hf hx hb hts iw2 hown hK hP hD hS (List.mem_of_getElem? (i := 1) rfl) dX2_add_20 (fun S_1 H locs hf hP hD hS => ?_)
  refine lv_aload_n hx hb dX2_add_23 rfl (lv_at hl 0 rfl) ?_
  refine gX2_latest hx hb hts iw2 hown hK hP (List.mem_of_getElem? (i := 1) rfl) dX2_add_24 ?_
  refine lv_iconst (v := (5 : Int32)) hx hb dX2_add_27 (by decide) ?_
  refine lv_imul hx hb dX2_add_28 ?_
  refine z_istore hf hx hb (fun y => [(6, .int y), (0, .ref (a 1)), (1, .int x1), (2, .int x2), (3, .int x3), (4, .int x4), (5, .int x5)]) dX2_add_29 hl (by decide) (fun _ => rfl) (fun y_1 ls hf hl => ?_)
  refine lv_aload_n hx hb dX2_add_31 rfl (lv_at hl 1 rfl) ?_
  refine gX2_ring hx hb hts iw2 hown hK hP (List.mem_of_getElem? (i := 2) rfl) dX2_add_32 ?_
  refine lv_iload hx hb dX2_add_35 (lv_at hl 0 rfl) ?_
  refine lv_iload_n hx hb dX2_add_37 rfl (lv_at hl 2 rfl) ?_
  refine sX2_ring hf hx hb hK hP hD hS dX2_add_38 (fun S_2 H locs hf hP hD hS => ?_)
  refine lv_aload_n hx hb dX2_add_39 rfl (lv_at hl 1 rfl) ?_
  refine gX2_ring hx hb hts iw2 hown hK hP (List.mem_of_getElem? (i := 2) rfl) dX2_add_40 ?_
  refine lv_iload hx hb dX2_add_43 (lv_at hl 0 rfl) ?_
  refine lv_iconst (v := (1 : Int32)) hx hb dX2_add_45 (by decide) ?_
  refine lv_iadd hx hb dX2_add_46 ?_
  refine lv_iload_n hx hb dX2_add_47 rfl (lv_at hl 3 rfl) ?_
  refine sX2_ring hf hx hb hK hP hD hS dX2_add_48 (fun S_3 H locs hf hP hD hS => ?_)
  refine lv_aload_n hx hb dX2_add_49 rfl (lv_at hl 1 rfl) ?_
  refine gX2_ring hx hb hts iw2 hown hK hP (List.mem_of_getElem? (i := 2) rfl) dX2_add_50 ?_
  refine lv_iload hx hb dX2_add_53 (lv_at hl 0 rfl) ?_
  refine lv_iconst (v := (2 : Int32)) hx hb dX2_add_55 (by decide) ?_
  refine lv_iadd hx hb dX2_add_56 ?_
  refine lv_iload_n hx hb dX2_add_57 rfl (lv_at hl 4 rfl) ?_
  refine sX2_ring hf hx hb hK hP hD hS dX2_add_58 (fun S_4 H locs hf hP hD hS => ?_)
  refine lv_aload_n hx hb dX2_add_59 rfl (lv_at hl 1 rfl) ?_
  refine gX2_ring hx hb hts iw2 hown hK hP (List.mem_of_getElem? (i := 2) rfl) dX2_add_60 ?_
  refine lv_iload hx hb dX2_add_63 (lv_at hl 0 rfl) ?_
  refine lv_iconst (v := (3 : Int32)) hx hb dX2_add_65 (by decide) ?_
  refine lv_iadd hx hb dX2_add_66 ?_
  refine lv_iload hx hb dX2_add_67 (lv_at hl 5 rfl) ?_
  refine sX2_ring hf hx hb hK hP hD hS dX2_add_69 (fun S_5 H locs hf hP hD hS => ?_)
  refine lv_aload_n hx hb dX2_add_70 rfl (lv_at hl 1 rfl) ?_
  refine gX2_ring hx hb hts iw2 hown hK hP (List.mem_of_getElem? (i := 2) rfl) dX2_add_71 ?_
  refine lv_iload hx hb dX2_add_74 (lv_at hl 0 rfl) ?_
  refine lv_iconst (v := (4 : Int32)) hx hb dX2_add_76 (by decide) ?_
  refine lv_iadd hx hb dX2_add_77 ?_
  refine lv_iload hx hb dX2_add_78 (lv_at hl 6 rfl) ?_
  refine sX2_ring hf hx hb hK hP hD hS dX2_add_80 (fun S_6 H locs hf hP hD hS => ?_)
  refine lv_aload_n hx hb dX2_add_81 rfl (lv_at hl 1 rfl) ?_
  refine gX2_size hx hb hts iw2 hown hK hP (List.mem_of_getElem? (i := 3) rfl) dX2_add_82 ?_
  refine lv_bipush (v := (10 : Int32)) hx hb dX2_add_85 (by decide) ?_
  refine lv_icmp_ge (tgt := 100) hx hb dX2_add_87 (by decide) (fun h_1 => ?_) (fun h_1 => ?_)
  · have hf := zt h_1 hf
    exact kX2_add_100 hC0 hQ hf hP hD hS (lv_sub hl [1, 2] rfl)
  · have hf := zf h_1 hf
    refine lv_aload_n hx hb dX2_add_90 rfl (lv_at hl 1 rfl) ?_
    refine lv_dup hx hb dX2_add_91 rfl ?_
    refine gX2_size hx hb hts iw2 hown hK hP (List.mem_of_getElem? (i := 3) rfl) dX2_add_92 ?_
    refine lv_iconst (v := (1 : Int32)) hx hb dX2_add_95 (by decide) ?_
    refine lv_iadd hx hb dX2_add_96 ?_
    refine pX2_size hf hx hb hts iw2 hown hK hP hD hS (List.mem_of_getElem? (i := 3) rfl) dX2_add_97 (fun S_7 H locs hf hP hD hS => ?_)
    exact kX2_add_100 hC0 hQ hf hP hD hS (lv_sub hl [1, 2] rfl)
set_option maxHeartbeats 4000000 in
set_option maxRecDepth 100000 in
theorem kX2_add {r : zS} (hC0 : zC p m c cX2_add 7 s args wsX2_add RX2 D cI cZ) (hQ : zRv p l e rmX2_add s m args below meth c cX2_add D A (wX a cI) Q r) {S : zS} {x1 : Int32} {x2 : Int32} {x3 : Int32} {x4 : Int32} {x5 : Int32} (hf : fX2_add S x1 x2 x3 x4 x5 = some r) {H : Heap} {locs : List Loc} (hP : va_P D vwCl (wX a cI S) H) (hD : va_D A (wX a cI S)) (hS : va_S A s.heap H locs) {ls : Array Slot} (hl : lv_has ls 7 [(0, .ref (a 1)), (1, .int x1), (2, .int x2), (3, .int x3), (4, .int x4), (5, .int x5)]) : W p l e rmX2_add s m args below meth c H locs 0 0 Q (F0 m 0 ls []) := by
  obtain ⟨hC, hK, hN⟩ := id hC0
  obtain ⟨hx, hb, hml, hown, hts⟩ := id hC
  have iw2 := iwX2_add_2
  unfold fX2_add at hf
  refine lv_aload_n hx hb dX2_add_0 rfl (lv_at hl 0 rfl) ?_
  refine lv_aload_n hx hb dX2_add_1 rfl (lv_at hl 0 rfl) ?_
  refine gX2_latest hx hb hts iw2 hown hK hP (List.mem_of_getElem? (i := 1) rfl) dX2_add_2 ?_
  refine lv_bipush (v := (9 : Int32)) hx hb dX2_add_5 (by decide) ?_
  refine lv_icmp_lt (tgt := 14) hx hb dX2_add_7 (by decide) (fun h_1 => ?_) (fun h_1 => ?_)
  · have hf := zt h_1 hf
    refine lv_aload_n hx hb dX2_add_14 rfl (lv_at hl 0 rfl) ?_
    refine gX2_latest hx hb hts iw2 hown hK hP (List.mem_of_getElem? (i := 1) rfl) dX2_add_15 ?_
    refine lv_iconst (v := (1 : Int32)) hx hb dX2_add_18 (by decide) ?_
    refine lv_iadd hx hb dX2_add_19 ?_
    exact kX2_add_20 hC0 hQ hf hP hD hS (lv_sub hl [0, 1, 2, 3, 4, 5] rfl)
  · have hf := zf h_1 hf
    refine lv_iconst (v := (0 : Int32)) hx hb dX2_add_10 (by decide) ?_
    refine lv_goto (tgt := 20) hx hb dX2_add_11 (by decide) ?_
    exact kX2_add_20 hC0 hQ hf hP hD hS (lv_sub hl [0, 1, 2, 3, 4, 5] rfl)
theorem tX2_add {S : zS} {x1 : Int32} {x2 : Int32} {x3 : Int32} {x4 : Int32} {x5 : Int32} {r : zS} (hf : fX2_add S x1 x2 x3 x4 x5 = some r) : zMv l yX2_add wsX2_add rmX2_add D (zT cI cZ) A (wX a cI) [.ref (a 1), .int x1, .int x2, .int x3, .int x4, .int x5] S r :=
  zMv_of (by decide) rfl rfl (Nat.le_of_ble_eq_true rfl) (fun hC0 hQ hP hD hS _ hl => kX2_add hC0 hQ hf hP hD hS hl)
abbrev rmX0_ask : Room := { frames := 1, cells := 0, slots := 0, locals := 26 }
theorem iwX0_ask_0 : ∀ w ∈ wsX00, w ∈ wsX0_ask := fun _ h => List.mem_cons_of_mem _ (List.mem_append_left _ (List.mem_append_right _ h))
theorem iwX0_ask_2 : ∀ w ∈ wsX20, w ∈ wsX0_ask := fun _ h => List.mem_cons_of_mem _ (List.mem_append_right _ h)
set_option maxHeartbeats 4000000 in
set_option maxRecDepth 100000 in
theorem kX0_ask {r : zS} (hC0 : zC p m c cX0_ask 3 s args wsX0_ask RX0 D cI cZ) (hQ : zRv p l e rmX0_ask s m args below meth c cX0_ask D A (wX a cI) Q r) {S : zS} {x1 : Int32} {x2 : Int32} (hf : fX0_ask S x1 x2 = some r) {H : Heap} {locs : List Loc} (hP : va_P D vwCl (wX a cI S) H) (hD : va_D A (wX a cI S)) (hS : va_S A s.heap H locs) {ls : Array Slot} (hl : lv_has ls 3 [(0, .ref (a 6)), (1, .int x1), (2, .int x2)]) : W p l e rmX0_ask s m args below meth c H locs 0 0 Q (F0 m 0 ls []) := by
  obtain ⟨hC, hK, hN⟩ := id hC0
  obtain ⟨hx, hb, hml, hown, hts⟩ := id hC
  have iw0 := iwX0_ask_0
  have iw2 := iwX0_ask_2
  unfold fX0_ask at hf
  refine lv_aload_n hx hb dX0_ask_0 rfl (lv_at hl 0 rfl) ?_
  refine gX0_outbox hx hb hts iw0 hown hK hP (List.mem_of_getElem? (i := 1) rfl) dX0_ask_1 ?_
  refine lv_iconst (v := (1 : Int32)) hx hb dX0_ask_4 (by decide) ?_
  refine lv_iload_n hx hb dX0_ask_5 rfl (lv_at hl 1 rfl) ?_
  refine lv_iconst (v := (0 : Int32)) hx hb dX0_ask_6 (by decide) ?_
  refine lv_iconst (v := (0 : Int32)) hx hb dX0_ask_7 (by decide) ?_
  refine lv_iload_n hx hb dX0_ask_8 rfl (lv_at hl 2 rfl) ?_
  obtain ⟨S_1, hg_1, hf⟩ := obnv_some hf
  refine zcv (va_runVN (As := [.int (1 : Int32), .int x1, .int (0 : Int32), .int (0 : Int32), .int x2]) (rest := []) hC (tX2_add hg_1) ⟨va_cnB 5 hts gX0_ask_X2_add_n95 rfl rfl rfl (hN _ zN6) (hts _ (List.mem_of_getElem? (i := 5) rfl)) (by decide +kernel) ⟨Nat.le_of_ble_eq_true rfl, Nat.le_of_ble_eq_true rfl⟩, hts _ (List.mem_of_getElem? (i := 4) rfl), hts _ (List.mem_of_getElem? (i := 6) rfl)⟩ (zpV hP hK hD hN (rX_1 hK hP)) rfl rfl hl.1 rfl (lv_room (Nat.le_of_ble_eq_true rfl)) dX0_ask_9 ⟨Nat.zero_le _, Nat.zero_le _⟩) hS (fun H locs hP hD hS => ?_)
  refine lv_aload_n hx hb dX0_ask_12 rfl (lv_at hl 0 rfl) ?_
  refine gX0_tries hx hb hts iw0 hown hK hP (List.mem_of_getElem? (i := 2) rfl) dX0_ask_13 ?_
  refine lv_iload_n hx hb dX0_ask_16 rfl (lv_at hl 1 rfl) ?_
  refine lv_dup2_11 hx hb dX0_ask_17 rfl rfl ?_
  refine lX0_tries hf hx hb hK hP dX0_ask_18 (fun hf => ?_)
  refine lv_iconst (v := (1 : Int32)) hx hb dX0_ask_19 (by decide) ?_
  refine lv_iadd hx hb dX0_ask_20 ?_
  refine sX0_tries hf hx hb hK hP hD hS dX0_ask_21 (fun S_2 H locs hf hP hD hS => ?_)
  refine lv_aload_n hx hb dX0_ask_22 rfl (lv_at hl 0 rfl) ?_
  refine gX0_ends hx hb hts iw0 hown hK hP (List.mem_of_getElem? (i := 3) rfl) dX0_ask_23 ?_
  refine lv_iload_n hx hb dX0_ask_26 rfl (lv_at hl 1 rfl) ?_
  refine lv_iload_n hx hb dX0_ask_27 rfl (lv_at hl 2 rfl) ?_
  refine lv_bipush (v := (6 : Int32)) hx hb dX0_ask_28 (by decide) ?_
  refine lv_iadd hx hb dX0_ask_30 ?_
  refine sX0_ends hf hx hb hK hP hD hS dX0_ask_31 (fun S_3 H locs hf hP hD hS => ?_)
  exact zrv hf hQ hP hD hS dX0_ask_32
theorem tX0_ask {S : zS} {x1 : Int32} {x2 : Int32} {r : zS} (hf : fX0_ask S x1 x2 = some r) : zMv l yX0_ask wsX0_ask rmX0_ask D (zT cI cZ) A (wX a cI) [.ref (a 6), .int x1, .int x2] S r :=
  zMv_of (by decide) rfl rfl (Nat.le_of_ble_eq_true rfl) (fun hC0 hQ hP hD hS _ hl => kX0_ask hC0 hQ hf hP hD hS hl)
abbrev rmX0_hold : Room := { frames := 0, cells := 0, slots := 0, locals := 0 }
theorem iwX0_hold_0 : ∀ w ∈ wsX00, w ∈ wsX0_hold := fun _ h => List.mem_cons_of_mem _ (List.mem_append_right _ h)
set_option maxHeartbeats 4000000 in
set_option maxRecDepth 100000 in
theorem kX0_hold_43b {r : Int32 × zS} (hC0 : zC p m c cX0_hold 5 s args wsX0_hold RX0 D cI cZ) (hQ : zRi p l e rmX0_hold s m args below meth c cX0_hold D A (wX a cI) Q r) {F43 : zS → Int32 → Int32 → Int32 → Option (Int32 × zS)} (hF43 : ∀ (S : zS) (x2 : Int32) (x3 : Int32) (x4 : Int32), F43 S x2 x3 x4 = some r → ∀ {H : Heap} {locs : List Loc}, va_P D vwCl (wX a cI S) H → va_D A (wX a cI S) → va_S A s.heap H locs → ∀ {ls : Array Slot}, lv_has ls 5 [(0, .ref (a 6)), (2, .int x2), (3, .int x3), (4, .int x4)] → W p l e rmX0_hold s m args below meth c H locs 0 0 Q (F0 m 43 ls [])) {S : zS} {x2 : Int32} {x3 : Int32} {x4 : Int32} (hf : bX0_hold_43 F43 S x2 x3 x4 = some r) {H : Heap} {locs : List Loc} (hP : va_P D vwCl (wX a cI S) H) (hD : va_D A (wX a cI S)) (hS : va_S A s.heap H locs) {ls : Array Slot} (hl : lv_has ls 5 [(0, .ref (a 6)), (2, .int x2), (3, .int x3), (4, .int x4)]) : W p l e rmX0_hold s m args below meth c H locs 0 0 Q (F0 m 43 ls []) := by
  obtain ⟨hC, hK, hN⟩ := id hC0
  obtain ⟨hx, hb, hml, hown, hts⟩ := id hC
  have iw0 := iwX0_hold_0
  unfold bX0_hold_43 at hf
  refine lv_iload hx hb dX0_hold_43 (lv_at hl 3 rfl) ?_
  refine lv_iload_n hx hb dX0_hold_45 rfl (lv_at hl 2 rfl) ?_
  refine lv_iconst (v := (3 : Int32)) hx hb dX0_hold_46 (by decide) ?_
  refine lv_iadd hx hb dX0_hold_47 ?_
  refine lv_iconst (v := (1 : Int32)) hx hb dX0_hold_48 (by decide) ?_
  refine lv_isub hx hb dX0_hold_49 ?_
  refine lv_icmp_ge (tgt := 75) hx hb dX0_hold_50 (by decide) (fun h_1 => ?_) (fun h_1 => ?_)
  · have hf := zt h_1 hf
    refine lv_aload_n hx hb dX0_hold_75 rfl (lv_at hl 0 rfl) ?_
    refine gX0_letters hx hb hts iw0 hown hK hP (List.mem_of_getElem? (i := 2) rfl) dX0_hold_76 ?_
    refine lv_iload_n hx hb dX0_hold_79 rfl (lv_at hl 2 rfl) ?_
    refine lv_iconst (v := (3 : Int32)) hx hb dX0_hold_80 (by decide) ?_
    refine lv_iadd hx hb dX0_hold_81 ?_
    refine lv_iconst (v := (1 : Int32)) hx hb dX0_hold_82 (by decide) ?_
    refine lv_isub hx hb dX0_hold_83 ?_
    refine lv_iload_n hx hb dX0_hold_84 rfl (lv_at hl 1 rfl) ?_
    refine sX0_letters hf hx hb hK hP hD hS dX0_hold_85 (fun S_1 H locs hf hP hD hS => ?_)
    refine lv_aload_n hx hb dX0_hold_86 rfl (lv_at hl 0 rfl) ?_
    refine lv_dup hx hb dX0_hold_87 rfl ?_
    refine gX0_lost hx hb hts iw0 hown hK hP (List.mem_of_getElem? (i := 3) rfl) dX0_hold_88 ?_
    refine lv_iconst (v := (1 : Int32)) hx hb dX0_hold_91 (by decide) ?_
    refine lv_iadd hx hb dX0_hold_92 ?_
    refine pX0_lost hf hx hb hts iw0 hown hK hP hD hS (List.mem_of_getElem? (i := 3) rfl) dX0_hold_93 (fun S_2 H locs hf hP hD hS => ?_)
    refine lv_iconst (v := (2 : Int32)) hx hb dX0_hold_96 (by decide) ?_
    exact zri hf hQ hP hD hS dX0_hold_97
  · have hf := zf h_1 hf
    refine lv_aload_n hx hb dX0_hold_53 rfl (lv_at hl 0 rfl) ?_
    refine gX0_letters hx hb hts iw0 hown hK hP (List.mem_of_getElem? (i := 2) rfl) dX0_hold_54 ?_
    refine lv_iload hx hb dX0_hold_57 (lv_at hl 3 rfl) ?_
    refine lv_aload_n hx hb dX0_hold_59 rfl (lv_at hl 0 rfl) ?_
    refine gX0_letters hx hb hts iw0 hown hK hP (List.mem_of_getElem? (i := 2) rfl) dX0_hold_60 ?_
    refine lv_iload hx hb dX0_hold_63 (lv_at hl 3 rfl) ?_
    refine lv_iconst (v := (1 : Int32)) hx hb dX0_hold_65 (by decide) ?_
    refine lv_iadd hx hb dX0_hold_66 ?_
    refine lX0_letters hf hx hb hK hP dX0_hold_67 (fun hf => ?_)
    refine sX0_letters hf hx hb hK hP hD hS dX0_hold_68 (fun S_3 H locs hf hP hD hS => ?_)
    refine z_iinc hf hx hb 3 (fun y => [(4, .int y), (0, .ref (a 6)), (2, .int x2), (3, .int x3)]) dX0_hold_69 hl rfl (by decide) (by decide) (fun _ => rfl) (fun y_1 ls hf hl => ?_)
    refine lv_goto (tgt := 43) hx hb dX0_hold_72 (by decide) ?_
    exact hF43 _ _ _ _ hf hP hD hS (lv_sub hl [1, 2, 3, 0] rfl)
theorem kX0_hold_43 {r : Int32 × zS} (hC0 : zC p m c cX0_hold 5 s args wsX0_hold RX0 D cI cZ) (hQ : zRi p l e rmX0_hold s m args below meth c cX0_hold D A (wX a cI) Q r) (n : Nat) : ∀ (S : zS) (x2 : Int32) (x3 : Int32) (x4 : Int32), fX0_hold_43 n S x2 x3 x4 = some r → ∀ {H : Heap} {locs : List Loc}, va_P D vwCl (wX a cI S) H → va_D A (wX a cI S) → va_S A s.heap H locs → ∀ {ls : Array Slot}, lv_has ls 5 [(0, .ref (a 6)), (2, .int x2), (3, .int x3), (4, .int x4)] → W p l e rmX0_hold s m args below meth c H locs 0 0 Q (F0 m 43 ls []) := by
  induction n with
  | zero => intro S x2 x3 x4 hf; cases hf
  | succ n ih => intro S x2 x3 x4 hf; exact kX0_hold_43b hC0 hQ ih hf
set_option maxHeartbeats 4000000 in
set_option maxRecDepth 100000 in
theorem kX0_hold {r : Int32 × zS} (hC0 : zC p m c cX0_hold 5 s args wsX0_hold RX0 D cI cZ) (hQ : zRi p l e rmX0_hold s m args below meth c cX0_hold D A (wX a cI) Q r) {S : zS} {x1 : Int32} {x2 : Int32} (hf : fX0_hold S x1 x2 = some r) {H : Heap} {locs : List Loc} (hP : va_P D vwCl (wX a cI S) H) (hD : va_D A (wX a cI S)) (hS : va_S A s.heap H locs) {ls : Array Slot} (hl : lv_has ls 5 [(0, .ref (a 6)), (1, .int x1), (2, .int x2)]) : W p l e rmX0_hold s m args below meth c H locs 0 0 Q (F0 m 0 ls []) := by
  obtain ⟨hC, hK, hN⟩ := id hC0
  obtain ⟨hx, hb, hml, hown, hts⟩ := id hC
  have iw0 := iwX0_hold_0
  unfold fX0_hold at hf
  refine lv_iload_n hx hb dX0_hold_0 rfl (lv_at hl 1 rfl) ?_
  refine lv_iconst (v := (3 : Int32)) hx hb dX0_hold_1 (by decide) ?_
  refine lv_imul hx hb dX0_hold_2 ?_
  refine z_istore_n hf hx hb (fun y => [(3, .int y), (0, .ref (a 6)), (1, .int x1), (2, .int x2)]) dX0_hold_3 rfl hl (by decide) (fun _ => rfl) (fun y_1 ls hf hl => ?_)
  refine lv_aload_n hx hb dX0_hold_4 rfl (lv_at hl 1 rfl) ?_
  refine gX0_waiting hx hb hts iw0 hown hK hP (List.mem_of_getElem? (i := 1) rfl) dX0_hold_5 ?_
  refine lv_iload_n hx hb dX0_hold_8 rfl (lv_at hl 2 rfl) ?_
  refine lX0_waiting hf hx hb hK hP dX0_hold_9 (fun hf => ?_)
  refine lv_iconst (v := (3 : Int32)) hx hb dX0_hold_10 (by decide) ?_
  refine lv_icmp_ge (tgt := 40) hx hb dX0_hold_11 (by decide) (fun h_1 => ?_) (fun h_1 => ?_)
  · have hf := zt h_1 hf
    refine lv_iload_n hx hb dX0_hold_40 rfl (lv_at hl 0 rfl) ?_
    refine z_istore hf hx hb (fun y => [(4, .int y), (3, .int y_1), (0, .ref (a 6)), (1, .int x1), (2, .int x2)]) dX0_hold_41 hl (by decide) (fun _ => rfl) (fun y_2 ls hf hl => ?_)
    exact kX0_hold_43 hC0 hQ 64 _ _ _ _ hf hP hD hS (lv_sub hl [2, 4, 1, 0] rfl)
  · have hf := zf h_1 hf
    refine lv_aload_n hx hb dX0_hold_14 rfl (lv_at hl 1 rfl) ?_
    refine gX0_letters hx hb hts iw0 hown hK hP (List.mem_of_getElem? (i := 2) rfl) dX0_hold_15 ?_
    refine lv_iload_n hx hb dX0_hold_18 rfl (lv_at hl 0 rfl) ?_
    refine lv_aload_n hx hb dX0_hold_19 rfl (lv_at hl 1 rfl) ?_
    refine gX0_waiting hx hb hts iw0 hown hK hP (List.mem_of_getElem? (i := 1) rfl) dX0_hold_20 ?_
    refine lv_iload_n hx hb dX0_hold_23 rfl (lv_at hl 2 rfl) ?_
    refine lX0_waiting hf hx hb hK hP dX0_hold_24 (fun hf => ?_)
    refine lv_iadd hx hb dX0_hold_25 ?_
    refine lv_iload_n hx hb dX0_hold_26 rfl (lv_at hl 3 rfl) ?_
    refine sX0_letters hf hx hb hK hP hD hS dX0_hold_27 (fun S_1 H locs hf hP hD hS => ?_)
    refine lv_aload_n hx hb dX0_hold_28 rfl (lv_at hl 1 rfl) ?_
    refine gX0_waiting hx hb hts iw0 hown hK hP (List.mem_of_getElem? (i := 1) rfl) dX0_hold_29 ?_
    refine lv_iload_n hx hb dX0_hold_32 rfl (lv_at hl 2 rfl) ?_
    refine lv_dup2_11 hx hb dX0_hold_33 rfl rfl ?_
    refine lX0_waiting hf hx hb hK hP dX0_hold_34 (fun hf => ?_)
    refine lv_iconst (v := (1 : Int32)) hx hb dX0_hold_35 (by decide) ?_
    refine lv_iadd hx hb dX0_hold_36 ?_
    refine sX0_waiting hf hx hb hK hP hD hS dX0_hold_37 (fun S_2 H locs hf hP hD hS => ?_)
    refine lv_iconst (v := (1 : Int32)) hx hb dX0_hold_38 (by decide) ?_
    exact zri hf hQ hP hD hS dX0_hold_39
theorem tX0_hold {S : zS} {x1 : Int32} {x2 : Int32} {r : Int32 × zS} (hf : fX0_hold S x1 x2 = some r) : zMi l yX0_hold wsX0_hold rmX0_hold D (zT cI cZ) A (wX a cI) [.ref (a 6), .int x1, .int x2] S r :=
  zMi_of (by decide) rfl rfl (Nat.le_of_ble_eq_true rfl) (fun hC0 hQ hP hD hS _ hl => kX0_hold hC0 hQ hf hP hD hS hl)
end KX1
