section KX5
variable {p : Program} {l : Launch} {e : Env} {s : State} {m : MethodId} {args : Array Value} {below : List Frame} {meth : Method} {c : Code} {Q : State → Prop} {D : va_G} {a : Nat → Nat} {cI cZ : ClassId} {A : Nat → Prop}
abbrev rmX4_answered : Room := { frames := 5, cells := 0, slots := 0, locals := 123 }
theorem iwX4_answered_4 : ∀ w ∈ wsX40, w ∈ wsX4_answered := fun _ h => List.mem_cons_of_mem _ (List.mem_append_left _ (List.mem_append_left _ (List.mem_append_left _ (List.mem_append_right _ h))))
theorem iwX4_answered_0 : ∀ w ∈ wsX00, w ∈ wsX4_answered := fun _ h => List.mem_cons_of_mem _ (List.mem_append_left _ (List.mem_append_left _ (List.mem_append_right _ h)))
theorem iwX4_answered_2 : ∀ w ∈ wsX20, w ∈ wsX4_answered := fun _ h => List.mem_cons_of_mem _ (List.mem_append_left _ (List.mem_append_right _ h))
theorem iwX4_answered_3 : ∀ w ∈ wsX30, w ∈ wsX4_answered := fun _ h => List.mem_cons_of_mem _ (List.mem_append_right _ h)
set_option maxHeartbeats 4000000 in
set_option maxRecDepth 100000 in
theorem kX4_answered_71 {r : Int32 × zS} (hC0 : zC p m c cX4_answered 6 s args wsX4_answered RX4 D cI cZ) (hQ : zRi p l e rmX4_answered s m args below meth c cX4_answered D A (wX a cI) Q r) {S : zS} {x1 : Int32} (hf : fX4_answered_71 S x1 = some r) {H : Heap} {locs : List Loc} (hP : va_P D vwCl (wX a cI S) H) (hD : va_D A (wX a cI S)) (hS : va_S A s.heap H locs) {ls : Array Slot} (hl : lv_has ls 6 [(0, .ref (a 0)), (1, .int x1)]) : W p l e rmX4_answered s m args below meth c H locs 0 0 Q (F0 m 71 ls []) := by
  obtain ⟨hC, hK, hN⟩ := id hC0
  obtain ⟨hx, hb, hml, hown, hts⟩ := id hC
  have iw4 := iwX4_answered_4
  have iw0 := iwX4_answered_0
  have iw2 := iwX4_answered_2
  have iw3 := iwX4_answered_3
  unfold fX4_answered_71 at hf
  refine lv_aload_n hx hb dX4_answered_71 rfl (lv_at hl 0 rfl) ?_
  refine gX4_entries hx hb hts iw4 hown hK hP (List.mem_of_getElem? (i := 2) rfl) dX4_answered_72 ?_
  refine lv_iload_n hx hb dX4_answered_75 rfl (lv_at hl 1 rfl) ?_
  obtain ⟨y_1, S_1, hg_1, hf⟩ := obnd_some hf
  refine zci (va_runVN (As := [.int x1]) (rest := []) hC (tX0_stateOf hg_1) ⟨va_cnB 1 hts gX4_answered_X0_stateOf_n125 rfl rfl rfl (hN _ zN18) (hts _ (List.mem_of_getElem? (i := 18) rfl)) (by decide +kernel) ⟨Nat.le_of_ble_eq_true rfl, Nat.le_of_ble_eq_true rfl⟩, hts _ (List.mem_of_getElem? (i := 88) rfl), hts _ (List.mem_of_getElem? (i := 89) rfl)⟩ (zpV hP hK hD hN (rX_6 hK hP)) rfl rfl hl.1 rfl (lv_room (Nat.le_of_ble_eq_true rfl)) dX4_answered_76 ⟨Nat.zero_le _, Nat.zero_le _⟩) hS (fun H locs hP hD hS => ?_)
  exact zri hf hQ hP hD hS dX4_answered_79
set_option maxHeartbeats 4000000 in
set_option maxRecDepth 100000 in
theorem kX4_answered_29 {r : Int32 × zS} (hC0 : zC p m c cX4_answered 6 s args wsX4_answered RX4 D cI cZ) (hQ : zRi p l e rmX4_answered s m args below meth c cX4_answered D A (wX a cI) Q r) {S : zS} {x1 : Int32} {x2 : Int32} {x3 : Int32} {x4 : Int32} {x5 : Int32} (hf : fX4_answered_29 S x1 x2 x3 x4 x5 = some r) {H : Heap} {locs : List Loc} (hP : va_P D vwCl (wX a cI S) H) (hD : va_D A (wX a cI S)) (hS : va_S A s.heap H locs) {ls : Array Slot} (hl : lv_has ls 6 [(0, .ref (a 0)), (1, .int x1), (2, .int x2), (3, .int x3), (4, .int x4), (5, .int x5)]) : W p l e rmX4_answered s m args below meth c H locs 0 0 Q (F0 m 29 ls []) := by
  obtain ⟨hC, hK, hN⟩ := id hC0
  obtain ⟨hx, hb, hml, hown, hts⟩ := id hC
  have iw4 := iwX4_answered_4
  have iw0 := iwX4_answered_0
  have iw2 := iwX4_answered_2
  have iw3 := iwX4_answered_3
  unfold fX4_answered_29 at hf
  refine lv_aload_n hx hb dX4_answered_29 rfl (lv_at hl 0 rfl) ?_
  refine gX4_entries hx hb hts iw4 hown hK hP (List.mem_of_getElem? (i := 2) rfl) dX4_answered_30 ?_
  refine lv_iload_n hx hb dX4_answered_33 rfl (lv_at hl 1 rfl) ?_
  obtain ⟨y_1, S_1, hg_1, hf⟩ := obnd_some hf
  refine zci (va_runVN (As := [.int x1]) (rest := []) hC (tX0_has hg_1) ⟨va_cnB 1 hts gX4_answered_X0_has_n115 rfl rfl rfl (hN _ zN15) (hts _ (List.mem_of_getElem? (i := 18) rfl)) (by decide +kernel) ⟨Nat.le_of_ble_eq_true rfl, Nat.le_of_ble_eq_true rfl⟩, hts _ (List.mem_of_getElem? (i := 17) rfl), hts _ (List.mem_of_getElem? (i := 19) rfl)⟩ (zpV hP hK hD hN (rX_6 hK hP)) rfl rfl hl.1 rfl (lv_room (Nat.le_of_ble_eq_true rfl)) dX4_answered_34 ⟨Nat.zero_le _, Nat.zero_le _⟩) hS (fun H locs hP hD hS => ?_)
  refine lv_if_ne (tgt := 42) hx hb dX4_answered_37 (by decide) (fun h_1 => ?_) (fun h_1 => ?_)
  · have hf := zf h_1 hf
    refine lv_aload_n hx hb dX4_answered_42 rfl (lv_at hl 0 rfl) ?_
    refine gX4_entries hx hb hts iw4 hown hK hP (List.mem_of_getElem? (i := 2) rfl) dX4_answered_43 ?_
    refine lv_iload_n hx hb dX4_answered_46 rfl (lv_at hl 1 rfl) ?_
    refine lv_iload_n hx hb dX4_answered_47 rfl (lv_at hl 2 rfl) ?_
    refine lv_iload_n hx hb dX4_answered_48 rfl (lv_at hl 3 rfl) ?_
    refine lv_iload hx hb dX4_answered_49 (lv_at hl 4 rfl) ?_
    refine lv_aload_n hx hb dX4_answered_51 rfl (lv_at hl 0 rfl) ?_
    refine gX4_clock hx hb hts iw4 hown hK hP (List.mem_of_getElem? (i := 3) rfl) dX4_answered_52 ?_
    obtain ⟨S_2, hg_2, hf⟩ := obnv_some hf
    refine zcv (va_runVN (As := [.int x1, .int x2, .int x3, .int x4, .int (S_1.1 0)]) (rest := []) hC (tX0_takeAnswer hg_2) ⟨va_cnB 5 hts gX4_answered_X0_takeAnswer_n118 rfl rfl rfl (hN _ zN16) (hts _ (List.mem_of_getElem? (i := 18) rfl)) (by decide +kernel) ⟨Nat.le_of_ble_eq_true rfl, Nat.le_of_ble_eq_true rfl⟩, hts _ (List.mem_of_getElem? (i := 22) rfl), hts _ (List.mem_of_getElem? (i := 23) rfl)⟩ (zpV hP hK hD hN (rX_6 hK hP)) rfl rfl hl.1 rfl (lv_room (Nat.le_of_ble_eq_true rfl)) dX4_answered_55 ⟨Nat.zero_le _, Nat.zero_le _⟩) hS (fun H locs hP hD hS => ?_)
    refine lv_iload hx hb dX4_answered_58 (lv_at hl 5 rfl) ?_
    refine lv_if_ne (tgt := 71) hx hb dX4_answered_60 (by decide) (fun h_2 => ?_) (fun h_2 => ?_)
    · have hf := zf h_2 hf
      exact kX4_answered_71 hC0 hQ hf hP hD hS (lv_sub hl [0, 1] rfl)
    · have hf := zt h_2 hf
      refine lv_aload_n hx hb dX4_answered_63 rfl (lv_at hl 0 rfl) ?_
      refine gX4_routers hx hb hts iw4 hown hK hP (List.mem_of_getElem? (i := 4) rfl) dX4_answered_64 ?_
      refine lv_iload_n hx hb dX4_answered_67 rfl (lv_at hl 1 rfl) ?_
      obtain ⟨S_3, hg_3, hf⟩ := obnv_some hf
      refine zcv (va_runVN (As := [.int x1]) (rest := []) hC (tX3_remove hg_3) ⟨va_cnB 1 hts gX4_answered_X3_remove_n122 rfl rfl rfl (hN _ zN17) (hts _ (List.mem_of_getElem? (i := 73) rfl)) (by decide +kernel) ⟨Nat.le_of_ble_eq_true rfl, Nat.le_of_ble_eq_true rfl⟩, hts _ (List.mem_of_getElem? (i := 72) rfl), hts _ (List.mem_of_getElem? (i := 74) rfl)⟩ (zpV hP hK hD hN (rX_14 hK hP)) rfl rfl hl.1 rfl (lv_room (Nat.le_of_ble_eq_true rfl)) dX4_answered_68 ⟨Nat.zero_le _, Nat.zero_le _⟩) hS (fun H locs hP hD hS => ?_)
      exact kX4_answered_71 hC0 hQ hf hP hD hS (lv_sub hl [0, 1] rfl)
  · have hf := zt h_1 hf
    refine lv_iconst (v := (-1 : Int32)) hx hb dX4_answered_40 (by decide) ?_
    exact zri hf hQ hP hD hS dX4_answered_41
set_option maxHeartbeats 4000000 in
set_option maxRecDepth 100000 in
theorem kX4_answered {r : Int32 × zS} (hC0 : zC p m c cX4_answered 6 s args wsX4_answered RX4 D cI cZ) (hQ : zRi p l e rmX4_answered s m args below meth c cX4_answered D A (wX a cI) Q r) {S : zS} {x1 : Int32} {x2 : Int32} {x3 : Int32} {x4 : Int32} {x5 : Int32} (hf : fX4_answered S x1 x2 x3 x4 x5 = some r) {H : Heap} {locs : List Loc} (hP : va_P D vwCl (wX a cI S) H) (hD : va_D A (wX a cI S)) (hS : va_S A s.heap H locs) {ls : Array Slot} (hl : lv_has ls 6 [(0, .ref (a 0)), (1, .int x1), (2, .int x2), (3, .int x3), (4, .int x4), (5, .int x5)]) : W p l e rmX4_answered s m args below meth c H locs 0 0 Q (F0 m 0 ls []) := by
  obtain ⟨hC, hK, hN⟩ := id hC0
  obtain ⟨hx, hb, hml, hown, hts⟩ := id hC
  have iw4 := iwX4_answered_4
  have iw0 := iwX4_answered_0
  have iw2 := iwX4_answered_2
  have iw3 := iwX4_answered_3
  unfold fX4_answered at hf
  refine lv_iload_n hx hb dX4_answered_0 rfl (lv_at hl 1 rfl) ?_
  obtain ⟨y_1, S_1, hg_1, hf⟩ := obnd_some hf
  refine zci (va_runS (As := [.int x1]) (rest := []) hC (tX4_isAddress hg_1) (va_cwS 1 hts gX4_answered_X4_isAddress rfl rfl rfl (by decide +kernel) ⟨Nat.le_of_ble_eq_true rfl, Nat.le_of_ble_eq_true rfl⟩) (zpS hP hK hD hN) rfl rfl hl.1 rfl (lv_room (Nat.le_of_ble_eq_true rfl)) dX4_answered_1 ⟨Nat.zero_le _, Nat.zero_le _⟩) hS (fun H locs hP hD hS => ?_)
  refine lv_if_eq (tgt := 14) hx hb dX4_answered_4 (by decide) (fun h_1 => ?_) (fun h_1 => ?_)
  · have hf := zt h_1 hf
    refine lv_bipush (v := (-102 : Int32)) hx hb dX4_answered_14 (by decide) ?_
    exact zri hf hQ hP hD hS dX4_answered_16
  · have hf := zf h_1 hf
    refine lv_iload_n hx hb dX4_answered_7 rfl (lv_at hl 2 rfl) ?_
    obtain ⟨y_2, S_2, hg_2, hf⟩ := obnd_some hf
    refine zci (va_runS (As := [.int x2]) (rest := []) hC (tX4_isMark hg_2) (va_cwS 1 hts gX4_answered_X4_isMark rfl rfl rfl (by decide +kernel) ⟨Nat.le_of_ble_eq_true rfl, Nat.le_of_ble_eq_true rfl⟩) (zpS hP hK hD hN) rfl rfl hl.1 rfl (lv_room (Nat.le_of_ble_eq_true rfl)) dX4_answered_8 ⟨Nat.zero_le _, Nat.zero_le _⟩) hS (fun H locs hP hD hS => ?_)
    refine lv_if_ne (tgt := 17) hx hb dX4_answered_11 (by decide) (fun h_2 => ?_) (fun h_2 => ?_)
    · have hf := zf h_2 hf
      refine lv_iload_n hx hb dX4_answered_17 rfl (lv_at hl 1 rfl) ?_
      refine lv_aload_n hx hb dX4_answered_18 rfl (lv_at hl 0 rfl) ?_
      refine gX4_trial hx hb hts iw4 hown hK hP (List.mem_of_getElem? (i := 1) rfl) dX4_answered_19 ?_
      refine lv_icmp_ne (tgt := 29) hx hb dX4_answered_22 (by decide) (fun h_3 => ?_) (fun h_3 => ?_)
      · have hf := zf h_3 hf
        exact kX4_answered_29 hC0 hQ hf hP hD hS (lv_sub hl [0, 1, 2, 3, 4, 5] rfl)
      · have hf := zt h_3 hf
        refine lv_aload_n hx hb dX4_answered_25 rfl (lv_at hl 0 rfl) ?_
        obtain ⟨S_3, hg_3, hf⟩ := obnv_some hf
        refine zcv (va_runV (As := []) (rest := []) hC (tX4_trialIsDoubled hg_3) (cwV 0 hts gX4_answered_X4_trialIsDoubled rfl rfl rfl (by decide +kernel) ⟨Nat.le_of_ble_eq_true rfl, Nat.le_of_ble_eq_true rfl⟩) (zpV hP hK hD hN (rX_0 hK hP)) rfl rfl hl.1 rfl (lv_room (Nat.le_of_ble_eq_true rfl)) dX4_answered_26 ⟨Nat.zero_le _, Nat.zero_le _⟩) hS (fun H locs hP hD hS => ?_)
        exact kX4_answered_29 hC0 hQ hf hP hD hS (lv_sub hl [0, 1, 2, 3, 4, 5] rfl)
    · have hf := zt h_2 hf
      refine lv_bipush (v := (-102 : Int32)) hx hb dX4_answered_14 (by decide) ?_
      exact zri hf hQ hP hD hS dX4_answered_16
theorem tX4_answered {S : zS} {x1 : Int32} {x2 : Int32} {x3 : Int32} {x4 : Int32} {x5 : Int32} {r : Int32 × zS} (hf : fX4_answered S x1 x2 x3 x4 x5 = some r) : zMi l yX4_answered wsX4_answered rmX4_answered D (zT cI cZ) A (wX a cI) [.ref (a 0), .int x1, .int x2, .int x3, .int x4, .int x5] S r :=
  zMi_of (by decide) rfl rfl (Nat.le_of_ble_eq_true rfl) (fun hC0 hQ hP hD hS _ hl => kX4_answered hC0 hQ hf hP hD hS hl)
abbrev rmX4_answerTo : Room := { frames := 5, cells := 0, slots := 0, locals := 120 }
theorem iwX4_answerTo_4 : ∀ w ∈ wsX40, w ∈ wsX4_answerTo := fun _ h => List.mem_cons_of_mem _ (List.mem_append_left _ (List.mem_append_left _ (List.mem_append_left _ (List.mem_append_right _ h))))
theorem iwX4_answerTo_2 : ∀ w ∈ wsX20, w ∈ wsX4_answerTo := fun _ h => List.mem_cons_of_mem _ (List.mem_append_left _ (List.mem_append_left _ (List.mem_append_right _ h)))
theorem iwX4_answerTo_0 : ∀ w ∈ wsX00, w ∈ wsX4_answerTo := fun _ h => List.mem_cons_of_mem _ (List.mem_append_left _ (List.mem_append_right _ h))
theorem iwX4_answerTo_1 : ∀ w ∈ wsX10, w ∈ wsX4_answerTo := fun _ h => List.mem_cons_of_mem _ (List.mem_append_right _ h)
set_option maxHeartbeats 4000000 in
set_option maxRecDepth 100000 in
theorem kX4_answerTo {r : zS} (hC0 : zC p m c cX4_answerTo 3 s args wsX4_answerTo RX4 D cI cZ) (hQ : zRv p l e rmX4_answerTo s m args below meth c cX4_answerTo D A (wX a cI) Q r) {S : zS} {x1 : Int32} {x2 : Int32} (hf : fX4_answerTo S x1 x2 = some r) {H : Heap} {locs : List Loc} (hP : va_P D vwCl (wX a cI S) H) (hD : va_D A (wX a cI S)) (hS : va_S A s.heap H locs) {ls : Array Slot} (hl : lv_has ls 3 [(0, .ref (a 0)), (1, .int x1), (2, .int x2)]) : W p l e rmX4_answerTo s m args below meth c H locs 0 0 Q (F0 m 0 ls []) := by
  obtain ⟨hC, hK, hN⟩ := id hC0
  obtain ⟨hx, hb, hml, hown, hts⟩ := id hC
  have iw4 := iwX4_answerTo_4
  have iw2 := iwX4_answerTo_2
  have iw0 := iwX4_answerTo_0
  have iw1 := iwX4_answerTo_1
  unfold fX4_answerTo at hf
  refine lv_iload_n hx hb dX4_answerTo_0 rfl (lv_at hl 1 rfl) ?_
  refine lv_iconst (v := (-1 : Int32)) hx hb dX4_answerTo_1 (by decide) ?_
  refine lv_icmp_ne (tgt := 21) hx hb dX4_answerTo_2 (by decide) (fun h_1 => ?_) (fun h_1 => ?_)
  · have hf := zf h_1 hf
    refine lv_aload_n hx hb dX4_answerTo_21 rfl (lv_at hl 0 rfl) ?_
    refine gX4_entries hx hb hts iw4 hown hK hP (List.mem_of_getElem? (i := 3) rfl) dX4_answerTo_22 ?_
    refine lv_iload_n hx hb dX4_answerTo_25 rfl (lv_at hl 1 rfl) ?_
    refine lv_iload_n hx hb dX4_answerTo_26 rfl (lv_at hl 2 rfl) ?_
    refine lv_aload_n hx hb dX4_answerTo_27 rfl (lv_at hl 0 rfl) ?_
    refine gX4_clock hx hb hts iw4 hown hK hP (List.mem_of_getElem? (i := 2) rfl) dX4_answerTo_28 ?_
    obtain ⟨S_1, hg_1, hf⟩ := obnv_some hf
    refine zcv (va_runVN (As := [.int x1, .int x2, .int (S.1 0)]) (rest := []) hC (tX0_hear hg_1) ⟨va_cnB 3 hts gX4_answerTo_X0_hear_n132 rfl rfl rfl (hN _ zN19) (hts _ (List.mem_of_getElem? (i := 14) rfl)) (by decide +kernel) ⟨Nat.le_of_ble_eq_true rfl, Nat.le_of_ble_eq_true rfl⟩, hts _ (List.mem_of_getElem? (i := 13) rfl), hts _ (List.mem_of_getElem? (i := 15) rfl)⟩ (zpV hP hK hD hN (rX_6 hK hP)) rfl rfl hl.1 rfl (lv_room (Nat.le_of_ble_eq_true rfl)) dX4_answerTo_31 ⟨Nat.zero_le _, Nat.zero_le _⟩) hS (fun H locs hP hD hS => ?_)
    refine lv_aload_n hx hb dX4_answerTo_34 rfl (lv_at hl 0 rfl) ?_
    refine gX4_outbox hx hb hts iw4 hown hK hP (List.mem_of_getElem? (i := 1) rfl) dX4_answerTo_35 ?_
    refine lv_iconst (v := (3 : Int32)) hx hb dX4_answerTo_38 (by decide) ?_
    refine lv_iload_n hx hb dX4_answerTo_39 rfl (lv_at hl 1 rfl) ?_
    refine lv_iload_n hx hb dX4_answerTo_40 rfl (lv_at hl 2 rfl) ?_
    refine lv_iconst (v := (0 : Int32)) hx hb dX4_answerTo_41 (by decide) ?_
    refine lv_aload_n hx hb dX4_answerTo_42 rfl (lv_at hl 0 rfl) ?_
    refine gX4_clock hx hb hts iw4 hown hK hP (List.mem_of_getElem? (i := 2) rfl) dX4_answerTo_43 ?_
    obtain ⟨S_2, hg_2, hf⟩ := obnv_some hf
    refine zcv (va_runVN (As := [.int (3 : Int32), .int x1, .int x2, .int (0 : Int32), .int (S_1.1 0)]) (rest := []) hC (tX2_add hg_2) ⟨va_cnB 5 hts gX4_answerTo_X2_add_n62 rfl rfl rfl (hN _ zN4) (hts _ (List.mem_of_getElem? (i := 5) rfl)) (by decide +kernel) ⟨Nat.le_of_ble_eq_true rfl, Nat.le_of_ble_eq_true rfl⟩, hts _ (List.mem_of_getElem? (i := 4) rfl), hts _ (List.mem_of_getElem? (i := 6) rfl)⟩ (zpV hP hK hD hN (rX_1 hK hP)) rfl rfl hl.1 rfl (lv_room (Nat.le_of_ble_eq_true rfl)) dX4_answerTo_46 ⟨Nat.zero_le _, Nat.zero_le _⟩) hS (fun H locs hP hD hS => ?_)
    exact zrv hf hQ hP hD hS dX4_answerTo_49
  · have hf := zt h_1 hf
    refine lv_aload_n hx hb dX4_answerTo_5 rfl (lv_at hl 0 rfl) ?_
    refine gX4_outbox hx hb hts iw4 hown hK hP (List.mem_of_getElem? (i := 1) rfl) dX4_answerTo_6 ?_
    refine lv_iconst (v := (3 : Int32)) hx hb dX4_answerTo_9 (by decide) ?_
    refine lv_iconst (v := (-1 : Int32)) hx hb dX4_answerTo_10 (by decide) ?_
    refine lv_iconst (v := (0 : Int32)) hx hb dX4_answerTo_11 (by decide) ?_
    refine lv_iconst (v := (0 : Int32)) hx hb dX4_answerTo_12 (by decide) ?_
    refine lv_aload_n hx hb dX4_answerTo_13 rfl (lv_at hl 0 rfl) ?_
    refine gX4_clock hx hb hts iw4 hown hK hP (List.mem_of_getElem? (i := 2) rfl) dX4_answerTo_14 ?_
    obtain ⟨S_3, hg_3, hf⟩ := obnv_some hf
    refine zcv (va_runVN (As := [.int (3 : Int32), .int (-1 : Int32), .int (0 : Int32), .int (0 : Int32), .int (S.1 0)]) (rest := []) hC (tX2_add hg_3) ⟨va_cnB 5 hts gX4_answerTo_X2_add_n62 rfl rfl rfl (hN _ zN4) (hts _ (List.mem_of_getElem? (i := 5) rfl)) (by decide +kernel) ⟨Nat.le_of_ble_eq_true rfl, Nat.le_of_ble_eq_true rfl⟩, hts _ (List.mem_of_getElem? (i := 4) rfl), hts _ (List.mem_of_getElem? (i := 6) rfl)⟩ (zpV hP hK hD hN (rX_1 hK hP)) rfl rfl hl.1 rfl (lv_room (Nat.le_of_ble_eq_true rfl)) dX4_answerTo_17 ⟨Nat.zero_le _, Nat.zero_le _⟩) hS (fun H locs hP hD hS => ?_)
    exact zrv hf hQ hP hD hS dX4_answerTo_20
theorem tX4_answerTo {S : zS} {x1 : Int32} {x2 : Int32} {r : zS} (hf : fX4_answerTo S x1 x2 = some r) : zMv l yX4_answerTo wsX4_answerTo rmX4_answerTo D (zT cI cZ) A (wX a cI) [.ref (a 0), .int x1, .int x2] S r :=
  zMv_of (by decide) rfl rfl (Nat.le_of_ble_eq_true rfl) (fun hC0 hQ hP hD hS _ hl => kX4_answerTo hC0 hQ hf hP hD hS hl)
abbrev rmX4_asks : Room := { frames := 6, cells := 0, slots := 0, locals := 142 }
theorem iwX4_asks_4 : ∀ w ∈ wsX40, w ∈ wsX4_asks := fun _ h => List.mem_cons_of_mem _ (List.mem_append_left _ (List.mem_append_left _ (List.mem_append_left _ (List.mem_append_right _ h))))
theorem iwX4_asks_2 : ∀ w ∈ wsX20, w ∈ wsX4_asks := fun _ h => List.mem_cons_of_mem _ (List.mem_append_left _ (List.mem_append_left _ (List.mem_append_right _ h)))
theorem iwX4_asks_0 : ∀ w ∈ wsX00, w ∈ wsX4_asks := fun _ h => List.mem_cons_of_mem _ (List.mem_append_left _ (List.mem_append_right _ h))
theorem iwX4_asks_1 : ∀ w ∈ wsX10, w ∈ wsX4_asks := fun _ h => List.mem_cons_of_mem _ (List.mem_append_right _ h)
set_option maxHeartbeats 4000000 in
set_option maxRecDepth 100000 in
theorem kX4_asks_57 {r : Int32 × zS} (hC0 : zC p m c cX4_asks 5 s args wsX4_asks RX4 D cI cZ) (hQ : zRi p l e rmX4_asks s m args below meth c cX4_asks D A (wX a cI) Q r) {S : zS} {x1 : Int32} {x2 : Int32} {x3 : Int32} {x4 : Int32} (hf : fX4_asks_57 S x1 x2 x3 x4 = some r) {H : Heap} {locs : List Loc} (hP : va_P D vwCl (wX a cI S) H) (hD : va_D A (wX a cI S)) (hS : va_S A s.heap H locs) {ls : Array Slot} (hl : lv_has ls 5 [(0, .ref (a 0)), (1, .int x1), (2, .int x2), (3, .int x3), (4, .int x4)]) : W p l e rmX4_asks s m args below meth c H locs 0 0 Q (F0 m 57 ls []) := by
  obtain ⟨hC, hK, hN⟩ := id hC0
  obtain ⟨hx, hb, hml, hown, hts⟩ := id hC
  have iw4 := iwX4_asks_4
  have iw2 := iwX4_asks_2
  have iw0 := iwX4_asks_0
  have iw1 := iwX4_asks_1
  unfold fX4_asks_57 at hf
  refine lv_iload_n hx hb dX4_asks_57 rfl (lv_at hl 3 rfl) ?_
  refine lv_aload_n hx hb dX4_asks_58 rfl (lv_at hl 0 rfl) ?_
  refine gX4_own hx hb hts iw4 hown hK hP (List.mem_of_getElem? (i := 1) rfl) dX4_asks_59 ?_
  refine lv_icmp_ne (tgt := 73) hx hb dX4_asks_62 (by decide) (fun h_1 => ?_) (fun h_1 => ?_)
  · have hf := zf h_1 hf
    refine lv_iload_n hx hb dX4_asks_73 rfl (lv_at hl 3 rfl) ?_
    refine lv_aload_n hx hb dX4_asks_74 rfl (lv_at hl 0 rfl) ?_
    refine gX4_trial hx hb hts iw4 hown hK hP (List.mem_of_getElem? (i := 2) rfl) dX4_asks_75 ?_
    refine lv_icmp_ne (tgt := 92) hx hb dX4_asks_78 (by decide) (fun h_2 => ?_) (fun h_2 => ?_)
    · have hf := zf h_2 hf
      refine lv_iconst (v := (0 : Int32)) hx hb dX4_asks_92 (by decide) ?_
      exact zri hf hQ hP hD hS dX4_asks_93
    · have hf := zt h_2 hf
      refine lv_iload hx hb dX4_asks_81 (lv_at hl 4 rfl) ?_
      refine lv_if_eq (tgt := 92) hx hb dX4_asks_83 (by decide) (fun h_3 => ?_) (fun h_3 => ?_)
      · have hf := zt h_3 hf
        refine lv_iconst (v := (0 : Int32)) hx hb dX4_asks_92 (by decide) ?_
        exact zri hf hQ hP hD hS dX4_asks_93
      · have hf := zf h_3 hf
        refine lv_aload_n hx hb dX4_asks_86 rfl (lv_at hl 0 rfl) ?_
        obtain ⟨S_1, hg_1, hf⟩ := obnv_some hf
        refine zcv (va_runV (As := []) (rest := []) hC (tX4_trialIsDoubled hg_1) (cwV 0 hts gX4_asks_X4_trialIsDoubled rfl rfl rfl (by decide +kernel) ⟨Nat.le_of_ble_eq_true rfl, Nat.le_of_ble_eq_true rfl⟩) (zpV hP hK hD hN (rX_0 hK hP)) rfl rfl hl.1 rfl (lv_room (Nat.le_of_ble_eq_true rfl)) dX4_asks_87 ⟨Nat.zero_le _, Nat.zero_le _⟩) hS (fun H locs hP hD hS => ?_)
        refine lv_iconst (v := (2 : Int32)) hx hb dX4_asks_90 (by decide) ?_
        exact zri hf hQ hP hD hS dX4_asks_91
  · have hf := zt h_1 hf
    refine lv_aload_n hx hb dX4_asks_65 rfl (lv_at hl 0 rfl) ?_
    refine lv_iload_n hx hb dX4_asks_66 rfl (lv_at hl 1 rfl) ?_
    refine lv_iload_n hx hb dX4_asks_67 rfl (lv_at hl 2 rfl) ?_
    obtain ⟨S_2, hg_2, hf⟩ := obnv_some hf
    refine zcv (va_runV (As := [.int x1, .int x2]) (rest := []) hC (tX4_answerTo hg_2) (cwV 2 hts gX4_asks_X4_answerTo rfl rfl rfl (by decide +kernel) ⟨Nat.le_of_ble_eq_true rfl, Nat.le_of_ble_eq_true rfl⟩) (zpV hP hK hD hN (rX_0 hK hP)) rfl rfl hl.1 rfl (lv_room (Nat.le_of_ble_eq_true rfl)) dX4_asks_68 ⟨Nat.zero_le _, Nat.zero_le _⟩) hS (fun H locs hP hD hS => ?_)
    refine lv_iconst (v := (1 : Int32)) hx hb dX4_asks_71 (by decide) ?_
    exact zri hf hQ hP hD hS dX4_asks_72
set_option maxHeartbeats 4000000 in
set_option maxRecDepth 100000 in
theorem kX4_asks_24 {r : Int32 × zS} (hC0 : zC p m c cX4_asks 5 s args wsX4_asks RX4 D cI cZ) (hQ : zRi p l e rmX4_asks s m args below meth c cX4_asks D A (wX a cI) Q r) {S : zS} {x1 : Int32} {x2 : Int32} {x3 : Int32} {x4 : Int32} (hf : fX4_asks_24 S x1 x2 x3 x4 = some r) {H : Heap} {locs : List Loc} (hP : va_P D vwCl (wX a cI S) H) (hD : va_D A (wX a cI S)) (hS : va_S A s.heap H locs) {ls : Array Slot} (hl : lv_has ls 5 [(0, .ref (a 0)), (1, .int x1), (2, .int x2), (3, .int x3), (4, .int x4)]) : W p l e rmX4_asks s m args below meth c H locs 0 0 Q (F0 m 24 ls []) := by
  obtain ⟨hC, hK, hN⟩ := id hC0
  obtain ⟨hx, hb, hml, hown, hts⟩ := id hC
  have iw4 := iwX4_asks_4
  have iw2 := iwX4_asks_2
  have iw0 := iwX4_asks_0
  have iw1 := iwX4_asks_1
  unfold fX4_asks_24 at hf
  refine lv_iload_n hx hb dX4_asks_24 rfl (lv_at hl 2 rfl) ?_
  obtain ⟨y_1, S_1, hg_1, hf⟩ := obnd_some hf
  refine zci (va_runS (As := [.int x2]) (rest := []) hC (tX4_isMark hg_1) (va_cwS 1 hts gX4_asks_X4_isMark rfl rfl rfl (by decide +kernel) ⟨Nat.le_of_ble_eq_true rfl, Nat.le_of_ble_eq_true rfl⟩) (zpS hP hK hD hN) rfl rfl hl.1 rfl (lv_room (Nat.le_of_ble_eq_true rfl)) dX4_asks_25 ⟨Nat.zero_le _, Nat.zero_le _⟩) hS (fun H locs hP hD hS => ?_)
  refine lv_if_eq (tgt := 38) hx hb dX4_asks_28 (by decide) (fun h_1 => ?_) (fun h_1 => ?_)
  · have hf := zt h_1 hf
    refine lv_bipush (v := (-102 : Int32)) hx hb dX4_asks_38 (by decide) ?_
    exact zri hf hQ hP hD hS dX4_asks_40
  · have hf := zf h_1 hf
    refine lv_iload_n hx hb dX4_asks_31 rfl (lv_at hl 3 rfl) ?_
    obtain ⟨y_2, S_2, hg_2, hf⟩ := obnd_some hf
    refine zci (va_runS (As := [.int x3]) (rest := []) hC (tX4_isAddress hg_2) (va_cwS 1 hts gX4_asks_X4_isAddress rfl rfl rfl (by decide +kernel) ⟨Nat.le_of_ble_eq_true rfl, Nat.le_of_ble_eq_true rfl⟩) (zpS hP hK hD hN) rfl rfl hl.1 rfl (lv_room (Nat.le_of_ble_eq_true rfl)) dX4_asks_32 ⟨Nat.zero_le _, Nat.zero_le _⟩) hS (fun H locs hP hD hS => ?_)
    refine lv_if_ne (tgt := 41) hx hb dX4_asks_35 (by decide) (fun h_2 => ?_) (fun h_2 => ?_)
    · have hf := zf h_2 hf
      refine lv_iload hx hb dX4_asks_41 (lv_at hl 4 rfl) ?_
      refine lv_if_ne (tgt := 57) hx hb dX4_asks_43 (by decide) (fun h_3 => ?_) (fun h_3 => ?_)
      · have hf := zf h_3 hf
        exact kX4_asks_57 hC0 hQ hf hP hD hS (lv_sub hl [0, 1, 2, 3, 4] rfl)
      · have hf := zt h_3 hf
        refine lv_aload_n hx hb dX4_asks_46 rfl (lv_at hl 0 rfl) ?_
        refine lv_iload_n hx hb dX4_asks_47 rfl (lv_at hl 1 rfl) ?_
        obtain ⟨y_3, S_3, hg_3, hf⟩ := obnd_some hf
        refine zci (va_runV (As := [.int x1]) (rest := []) hC (tX4_isOwnOrTrial hg_3) (cwV 1 hts gX4_asks_X4_isOwnOrTrial rfl rfl rfl (by decide +kernel) ⟨Nat.le_of_ble_eq_true rfl, Nat.le_of_ble_eq_true rfl⟩) (zpV hP hK hD hN (rX_0 hK hP)) rfl rfl hl.1 rfl (lv_room (Nat.le_of_ble_eq_true rfl)) dX4_asks_48 ⟨Nat.zero_le _, Nat.zero_le _⟩) hS (fun H locs hP hD hS => ?_)
        refine lv_if_eq (tgt := 57) hx hb dX4_asks_51 (by decide) (fun h_4 => ?_) (fun h_4 => ?_)
        · have hf := zt h_4 hf
          exact kX4_asks_57 hC0 hQ hf hP hD hS (lv_sub hl [0, 1, 2, 3, 4] rfl)
        · have hf := zf h_4 hf
          refine lv_bipush (v := (-103 : Int32)) hx hb dX4_asks_54 (by decide) ?_
          exact zri hf hQ hP hD hS dX4_asks_56
    · have hf := zt h_2 hf
      refine lv_bipush (v := (-102 : Int32)) hx hb dX4_asks_38 (by decide) ?_
      exact zri hf hQ hP hD hS dX4_asks_40
set_option maxHeartbeats 4000000 in
set_option maxRecDepth 100000 in
theorem kX4_asks_10 {r : Int32 × zS} (hC0 : zC p m c cX4_asks 5 s args wsX4_asks RX4 D cI cZ) (hQ : zRi p l e rmX4_asks s m args below meth c cX4_asks D A (wX a cI) Q r) {S : zS} {x1 : Int32} {x2 : Int32} {x3 : Int32} {t0 : Int32} (hf : fX4_asks_10 S x1 x2 x3 t0 = some r) {H : Heap} {locs : List Loc} (hP : va_P D vwCl (wX a cI S) H) (hD : va_D A (wX a cI S)) (hS : va_S A s.heap H locs) {ls : Array Slot} (hl : lv_has ls 5 [(0, .ref (a 0)), (1, .int x1), (2, .int x2), (3, .int x3)]) : W p l e rmX4_asks s m args below meth c H locs 0 0 Q (F0 m 10 ls [.int t0]) := by
  obtain ⟨hC, hK, hN⟩ := id hC0
  obtain ⟨hx, hb, hml, hown, hts⟩ := id hC
  have iw4 := iwX4_asks_4
  have iw2 := iwX4_asks_2
  have iw0 := iwX4_asks_0
  have iw1 := iwX4_asks_1
  unfold fX4_asks_10 at hf
  refine z_istore hf hx hb (fun y => [(4, .int y), (0, .ref (a 0)), (1, .int x1), (2, .int x2), (3, .int x3)]) dX4_asks_10 hl (by decide) (fun _ => rfl) (fun y_1 ls hf hl => ?_)
  refine lv_iload hx hb dX4_asks_12 (lv_at hl 0 rfl) ?_
  refine lv_if_ne (tgt := 24) hx hb dX4_asks_14 (by decide) (fun h_1 => ?_) (fun h_1 => ?_)
  · have hf := zf h_1 hf
    exact kX4_asks_24 hC0 hQ hf hP hD hS (lv_sub hl [1, 2, 3, 4, 0] rfl)
  · have hf := zt h_1 hf
    refine lv_iload_n hx hb dX4_asks_17 rfl (lv_at hl 2 rfl) ?_
    obtain ⟨y_2, S_1, hg_1, hf⟩ := obnd_some hf
    refine zci (va_runS (As := [.int x1]) (rest := []) hC (tX4_isAddress hg_1) (va_cwS 1 hts gX4_asks_X4_isAddress rfl rfl rfl (by decide +kernel) ⟨Nat.le_of_ble_eq_true rfl, Nat.le_of_ble_eq_true rfl⟩) (zpS hP hK hD hN) rfl rfl hl.1 rfl (lv_room (Nat.le_of_ble_eq_true rfl)) dX4_asks_18 ⟨Nat.zero_le _, Nat.zero_le _⟩) hS (fun H locs hP hD hS => ?_)
    refine lv_if_eq (tgt := 38) hx hb dX4_asks_21 (by decide) (fun h_2 => ?_) (fun h_2 => ?_)
    · have hf := zt h_2 hf
      refine lv_bipush (v := (-102 : Int32)) hx hb dX4_asks_38 (by decide) ?_
      exact zri hf hQ hP hD hS dX4_asks_40
    · have hf := zf h_2 hf
      exact kX4_asks_24 hC0 hQ hf hP hD hS (lv_sub hl [1, 2, 3, 4, 0] rfl)
set_option maxHeartbeats 4000000 in
set_option maxRecDepth 100000 in
theorem kX4_asks {r : Int32 × zS} (hC0 : zC p m c cX4_asks 5 s args wsX4_asks RX4 D cI cZ) (hQ : zRi p l e rmX4_asks s m args below meth c cX4_asks D A (wX a cI) Q r) {S : zS} {x1 : Int32} {x2 : Int32} {x3 : Int32} (hf : fX4_asks S x1 x2 x3 = some r) {H : Heap} {locs : List Loc} (hP : va_P D vwCl (wX a cI S) H) (hD : va_D A (wX a cI S)) (hS : va_S A s.heap H locs) {ls : Array Slot} (hl : lv_has ls 5 [(0, .ref (a 0)), (1, .int x1), (2, .int x2), (3, .int x3)]) : W p l e rmX4_asks s m args below meth c H locs 0 0 Q (F0 m 0 ls []) := by
  obtain ⟨hC, hK, hN⟩ := id hC0
  obtain ⟨hx, hb, hml, hown, hts⟩ := id hC
  have iw4 := iwX4_asks_4
  have iw2 := iwX4_asks_2
  have iw0 := iwX4_asks_0
  have iw1 := iwX4_asks_1
  unfold fX4_asks at hf
  refine lv_iload_n hx hb dX4_asks_0 rfl (lv_at hl 1 rfl) ?_
  refine lv_iconst (v := (-1 : Int32)) hx hb dX4_asks_1 (by decide) ?_
  refine lv_icmp_ne (tgt := 9) hx hb dX4_asks_2 (by decide) (fun h_1 => ?_) (fun h_1 => ?_)
  · have hf := zf h_1 hf
    refine lv_iconst (v := (0 : Int32)) hx hb dX4_asks_9 (by decide) ?_
    exact kX4_asks_10 hC0 hQ hf hP hD hS (lv_sub hl [0, 1, 2, 3] rfl)
  · have hf := zt h_1 hf
    refine lv_iconst (v := (1 : Int32)) hx hb dX4_asks_5 (by decide) ?_
    refine lv_goto (tgt := 10) hx hb dX4_asks_6 (by decide) ?_
    exact kX4_asks_10 hC0 hQ hf hP hD hS (lv_sub hl [0, 1, 2, 3] rfl)
theorem tX4_asks {S : zS} {x1 : Int32} {x2 : Int32} {x3 : Int32} {r : Int32 × zS} (hf : fX4_asks S x1 x2 x3 = some r) : zMi l yX4_asks wsX4_asks rmX4_asks D (zT cI cZ) A (wX a cI) [.ref (a 0), .int x1, .int x2, .int x3] S r :=
  zMi_of (by decide) rfl rfl (Nat.le_of_ble_eq_true rfl) (fun hC0 hQ hP hD hS _ hl => kX4_asks hC0 hQ hf hP hD hS hl)
abbrev rmX4_told : Room := { frames := 5, cells := 0, slots := 0, locals := 120 }
theorem iwX4_told_4 : ∀ w ∈ wsX40, w ∈ wsX4_told := fun _ h => List.mem_cons_of_mem _ (List.mem_append_left _ (List.mem_append_left _ (List.mem_append_left _ (List.mem_append_left _ (List.mem_append_right _ h)))))
theorem iwX4_told_3 : ∀ w ∈ wsX30, w ∈ wsX4_told := fun _ h => List.mem_cons_of_mem _ (List.mem_append_left _ (List.mem_append_left _ (List.mem_append_left _ (List.mem_append_right _ h))))
theorem iwX4_told_0 : ∀ w ∈ wsX00, w ∈ wsX4_told := fun _ h => List.mem_cons_of_mem _ (List.mem_append_left _ (List.mem_append_left _ (List.mem_append_right _ h)))
theorem iwX4_told_1 : ∀ w ∈ wsX10, w ∈ wsX4_told := fun _ h => List.mem_cons_of_mem _ (List.mem_append_left _ (List.mem_append_right _ h))
theorem iwX4_told_2 : ∀ w ∈ wsX20, w ∈ wsX4_told := fun _ h => List.mem_cons_of_mem _ (List.mem_append_right _ h)
set_option maxHeartbeats 4000000 in
set_option maxRecDepth 100000 in
theorem kX4_told_121 {r : Int32 × zS} (hC0 : zC p m c cX4_told 5 s args wsX4_told RX4 D cI cZ) (hQ : zRi p l e rmX4_told s m args below meth c cX4_told D A (wX a cI) Q r) {S : zS} (hf : fX4_told_121 S = some r) {H : Heap} {locs : List Loc} (hP : va_P D vwCl (wX a cI S) H) (hD : va_D A (wX a cI S)) (hS : va_S A s.heap H locs) {ls : Array Slot} (hl : lv_has ls 5 [(0, .ref (a 0))]) : W p l e rmX4_told s m args below meth c H locs 0 0 Q (F0 m 121 ls []) := by
  obtain ⟨hC, hK, hN⟩ := id hC0
  obtain ⟨hx, hb, hml, hown, hts⟩ := id hC
  have iw4 := iwX4_told_4
  have iw3 := iwX4_told_3
  have iw0 := iwX4_told_0
  have iw1 := iwX4_told_1
  have iw2 := iwX4_told_2
  unfold fX4_told_121 at hf
  refine lv_aload_n hx hb dX4_told_121 rfl (lv_at hl 0 rfl) ?_
  refine gX4_routers hx hb hts iw4 hown hK hP (List.mem_of_getElem? (i := 1) rfl) dX4_told_122 ?_
  obtain ⟨y_1, S_1, hg_1, hf⟩ := obnd_some hf
  refine zci (va_runVN (As := []) (rest := []) hC (tX3_howMany hg_1) ⟨va_cnB 0 hts gX4_told_X3_howMany_n142 rfl rfl rfl (hN _ zN22) (hts _ (List.mem_of_getElem? (i := 19) rfl)) (by decide +kernel) ⟨Nat.le_of_ble_eq_true rfl, Nat.le_of_ble_eq_true rfl⟩, hts _ (List.mem_of_getElem? (i := 128) rfl), hts _ (List.mem_of_getElem? (i := 129) rfl)⟩ (zpV hP hK hD hN (rX_14 hK hP)) rfl rfl hl.1 rfl (lv_room (Nat.le_of_ble_eq_true rfl)) dX4_told_125 ⟨Nat.zero_le _, Nat.zero_le _⟩) hS (fun H locs hP hD hS => ?_)
  exact zri hf hQ hP hD hS dX4_told_128
set_option maxHeartbeats 4000000 in
set_option maxRecDepth 100000 in
theorem kX4_told_72 {r : Int32 × zS} (hC0 : zC p m c cX4_told 5 s args wsX4_told RX4 D cI cZ) (hQ : zRi p l e rmX4_told s m args below meth c cX4_told D A (wX a cI) Q r) {S : zS} {x1 : Int32} {x2 : Int32} {x3 : Int32} {x4 : Int32} (hf : fX4_told_72 S x1 x2 x3 x4 = some r) {H : Heap} {locs : List Loc} (hP : va_P D vwCl (wX a cI S) H) (hD : va_D A (wX a cI S)) (hS : va_S A s.heap H locs) {ls : Array Slot} (hl : lv_has ls 5 [(0, .ref (a 0)), (1, .int x1), (2, .int x2), (3, .int x3), (4, .int x4)]) : W p l e rmX4_told s m args below meth c H locs 0 0 Q (F0 m 72 ls []) := by
  obtain ⟨hC, hK, hN⟩ := id hC0
  obtain ⟨hx, hb, hml, hown, hts⟩ := id hC
  have iw4 := iwX4_told_4
  have iw3 := iwX4_told_3
  have iw0 := iwX4_told_0
  have iw1 := iwX4_told_1
  have iw2 := iwX4_told_2
  unfold fX4_told_72 at hf
  refine lv_aload_n hx hb dX4_told_72 rfl (lv_at hl 0 rfl) ?_
  refine gX4_entries hx hb hts iw4 hown hK hP (List.mem_of_getElem? (i := 2) rfl) dX4_told_73 ?_
  refine lv_iload_n hx hb dX4_told_76 rfl (lv_at hl 1 rfl) ?_
  refine lv_iload_n hx hb dX4_told_77 rfl (lv_at hl 2 rfl) ?_
  refine lv_aload_n hx hb dX4_told_78 rfl (lv_at hl 0 rfl) ?_
  refine gX4_clock hx hb hts iw4 hown hK hP (List.mem_of_getElem? (i := 3) rfl) dX4_told_79 ?_
  obtain ⟨S_1, hg_1, hf⟩ := obnv_some hf
  refine zcv (va_runVN (As := [.int x1, .int x2, .int (S.1 0)]) (rest := []) hC (tX0_hear hg_1) ⟨va_cnB 3 hts gX4_told_X0_hear_n132 rfl rfl rfl (hN _ zN19) (hts _ (List.mem_of_getElem? (i := 33) rfl)) (by decide +kernel) ⟨Nat.le_of_ble_eq_true rfl, Nat.le_of_ble_eq_true rfl⟩, hts _ (List.mem_of_getElem? (i := 32) rfl), hts _ (List.mem_of_getElem? (i := 34) rfl)⟩ (zpV hP hK hD hN (rX_6 hK hP)) rfl rfl hl.1 rfl (lv_room (Nat.le_of_ble_eq_true rfl)) dX4_told_82 ⟨Nat.zero_le _, Nat.zero_le _⟩) hS (fun H locs hP hD hS => ?_)
  refine lv_iload_n hx hb dX4_told_85 rfl (lv_at hl 3 rfl) ?_
  refine lv_if_le (tgt := 113) hx hb dX4_told_86 (by decide) (fun h_1 => ?_) (fun h_1 => ?_)
  · have hf := zt h_1 hf
    refine lv_aload_n hx hb dX4_told_113 rfl (lv_at hl 0 rfl) ?_
    refine gX4_routers hx hb hts iw4 hown hK hP (List.mem_of_getElem? (i := 1) rfl) dX4_told_114 ?_
    refine lv_iload_n hx hb dX4_told_117 rfl (lv_at hl 1 rfl) ?_
    obtain ⟨S_2, hg_2, hf⟩ := obnv_some hf
    refine zcv (va_runVN (As := [.int x1]) (rest := []) hC (tX3_remove hg_2) ⟨va_cnB 1 hts gX4_told_X3_remove_n122 rfl rfl rfl (hN _ zN17) (hts _ (List.mem_of_getElem? (i := 19) rfl)) (by decide +kernel) ⟨Nat.le_of_ble_eq_true rfl, Nat.le_of_ble_eq_true rfl⟩, hts _ (List.mem_of_getElem? (i := 121) rfl), hts _ (List.mem_of_getElem? (i := 122) rfl)⟩ (zpV hP hK hD hN (rX_14 hK hP)) rfl rfl hl.1 rfl (lv_room (Nat.le_of_ble_eq_true rfl)) dX4_told_118 ⟨Nat.zero_le _, Nat.zero_le _⟩) hS (fun H locs hP hD hS => ?_)
    exact kX4_told_121 hC0 hQ hf hP hD hS (lv_sub hl [0] rfl)
  · have hf := zf h_1 hf
    refine lv_aload_n hx hb dX4_told_89 rfl (lv_at hl 0 rfl) ?_
    refine gX4_routers hx hb hts iw4 hown hK hP (List.mem_of_getElem? (i := 1) rfl) dX4_told_90 ?_
    refine lv_iload_n hx hb dX4_told_93 rfl (lv_at hl 1 rfl) ?_
    refine lv_iload hx hb dX4_told_94 (lv_at hl 4 rfl) ?_
    refine lv_aload_n hx hb dX4_told_96 rfl (lv_at hl 0 rfl) ?_
    refine gX4_clock hx hb hts iw4 hown hK hP (List.mem_of_getElem? (i := 3) rfl) dX4_told_97 ?_
    refine lv_iload_n hx hb dX4_told_100 rfl (lv_at hl 3 rfl) ?_
    refine lv_iadd hx hb dX4_told_101 ?_
    obtain ⟨S_3, hg_3, hf⟩ := obnv_some hf
    refine zcv (va_runVN (As := [.int x1, .int x4, .int ((S_1.1 0) + x3)]) (rest := []) hC (tX3_put hg_3) ⟨va_cnB 3 hts gX4_told_X3_put_n139 rfl rfl rfl (hN _ zN21) (hts _ (List.mem_of_getElem? (i := 19) rfl)) (by decide +kernel) ⟨Nat.le_of_ble_eq_true rfl, Nat.le_of_ble_eq_true rfl⟩, hts _ (List.mem_of_getElem? (i := 116) rfl), hts _ (List.mem_of_getElem? (i := 117) rfl)⟩ (zpV hP hK hD hN (rX_14 hK hP)) rfl rfl hl.1 rfl (lv_room (Nat.le_of_ble_eq_true rfl)) dX4_told_102 ⟨Nat.zero_le _, Nat.zero_le _⟩) hS (fun H locs hP hD hS => ?_)
    refine lv_aload_n hx hb dX4_told_105 rfl (lv_at hl 0 rfl) ?_
    refine lv_iconst (v := (1 : Int32)) hx hb dX4_told_106 (by decide) ?_
    refine pX4_routerWasTold hf (Or.inr rfl) hx hb hts iw4 hown hK hP hD hS (List.mem_of_getElem? (i := 4) rfl) dX4_told_107 (fun S_4 H locs hf hP hD hS => ?_)
    refine lv_goto (tgt := 121) hx hb dX4_told_110 (by decide) ?_
    exact kX4_told_121 hC0 hQ hf hP hD hS (lv_sub hl [0] rfl)
set_option maxHeartbeats 4000000 in
set_option maxRecDepth 100000 in
theorem kX4_told {r : Int32 × zS} (hC0 : zC p m c cX4_told 5 s args wsX4_told RX4 D cI cZ) (hQ : zRi p l e rmX4_told s m args below meth c cX4_told D A (wX a cI) Q r) {S : zS} {x1 : Int32} {x2 : Int32} {x3 : Int32} {x4 : Int32} (hf : fX4_told S x1 x2 x3 x4 = some r) {H : Heap} {locs : List Loc} (hP : va_P D vwCl (wX a cI S) H) (hD : va_D A (wX a cI S)) (hS : va_S A s.heap H locs) {ls : Array Slot} (hl : lv_has ls 5 [(0, .ref (a 0)), (1, .int x1), (2, .int x2), (3, .int x3), (4, .int x4)]) : W p l e rmX4_told s m args below meth c H locs 0 0 Q (F0 m 0 ls []) := by
  obtain ⟨hC, hK, hN⟩ := id hC0
  obtain ⟨hx, hb, hml, hown, hts⟩ := id hC
  have iw4 := iwX4_told_4
  have iw3 := iwX4_told_3
  have iw0 := iwX4_told_0
  have iw1 := iwX4_told_1
  have iw2 := iwX4_told_2
  unfold fX4_told at hf
  refine lv_iload_n hx hb dX4_told_0 rfl (lv_at hl 1 rfl) ?_
  obtain ⟨y_1, S_1, hg_1, hf⟩ := obnd_some hf
  refine zci (va_runS (As := [.int x1]) (rest := []) hC (tX4_isAddress hg_1) (va_cwS 1 hts gX4_told_X4_isAddress rfl rfl rfl (by decide +kernel) ⟨Nat.le_of_ble_eq_true rfl, Nat.le_of_ble_eq_true rfl⟩) (zpS hP hK hD hN) rfl rfl hl.1 rfl (lv_room (Nat.le_of_ble_eq_true rfl)) dX4_told_1 ⟨Nat.zero_le _, Nat.zero_le _⟩) hS (fun H locs hP hD hS => ?_)
  refine lv_if_eq (tgt := 14) hx hb dX4_told_4 (by decide) (fun h_1 => ?_) (fun h_1 => ?_)
  · have hf := zt h_1 hf
    refine lv_bipush (v := (-102 : Int32)) hx hb dX4_told_14 (by decide) ?_
    exact zri hf hQ hP hD hS dX4_told_16
  · have hf := zf h_1 hf
    refine lv_iload_n hx hb dX4_told_7 rfl (lv_at hl 2 rfl) ?_
    obtain ⟨y_2, S_2, hg_2, hf⟩ := obnd_some hf
    refine zci (va_runS (As := [.int x2]) (rest := []) hC (tX4_isMark hg_2) (va_cwS 1 hts gX4_told_X4_isMark rfl rfl rfl (by decide +kernel) ⟨Nat.le_of_ble_eq_true rfl, Nat.le_of_ble_eq_true rfl⟩) (zpS hP hK hD hN) rfl rfl hl.1 rfl (lv_room (Nat.le_of_ble_eq_true rfl)) dX4_told_8 ⟨Nat.zero_le _, Nat.zero_le _⟩) hS (fun H locs hP hD hS => ?_)
    refine lv_if_ne (tgt := 17) hx hb dX4_told_11 (by decide) (fun h_2 => ?_) (fun h_2 => ?_)
    · have hf := zf h_2 hf
      refine lv_iload_n hx hb dX4_told_17 rfl (lv_at hl 3 rfl) ?_
      refine lv_if_lt (tgt := 40) hx hb dX4_told_18 (by decide) (fun h_3 => ?_) (fun h_3 => ?_)
      · have hf := zt h_3 hf
        refine lv_bipush (v := (-102 : Int32)) hx hb dX4_told_40 (by decide) ?_
        exact zri hf hQ hP hD hS dX4_told_42
      · have hf := zf h_3 hf
        refine lv_iload_n hx hb dX4_told_21 rfl (lv_at hl 3 rfl) ?_
        refine lv_sipush (v := (200 : Int32)) hx hb dX4_told_22 (by decide) ?_
        refine lv_icmp_gt (tgt := 40) hx hb dX4_told_25 (by decide) (fun h_4 => ?_) (fun h_4 => ?_)
        · have hf := zt h_4 hf
          refine lv_bipush (v := (-102 : Int32)) hx hb dX4_told_40 (by decide) ?_
          exact zri hf hQ hP hD hS dX4_told_42
        · have hf := zf h_4 hf
          refine lv_iload hx hb dX4_told_28 (lv_at hl 4 rfl) ?_
          refine lv_iconst (v := (-1 : Int32)) hx hb dX4_told_30 (by decide) ?_
          refine lv_icmp_lt (tgt := 40) hx hb dX4_told_31 (by decide) (fun h_5 => ?_) (fun h_5 => ?_)
          · have hf := zt h_5 hf
            refine lv_bipush (v := (-102 : Int32)) hx hb dX4_told_40 (by decide) ?_
            exact zri hf hQ hP hD hS dX4_told_42
          · have hf := zf h_5 hf
            refine lv_iload hx hb dX4_told_34 (lv_at hl 4 rfl) ?_
            refine lv_iconst (v := (1 : Int32)) hx hb dX4_told_36 (by decide) ?_
            refine lv_icmp_le (tgt := 43) hx hb dX4_told_37 (by decide) (fun h_6 => ?_) (fun h_6 => ?_)
            · have hf := zt h_6 hf
              refine lv_aload_n hx hb dX4_told_43 rfl (lv_at hl 0 rfl) ?_
              refine lv_iload_n hx hb dX4_told_44 rfl (lv_at hl 1 rfl) ?_
              obtain ⟨y_3, S_3, hg_3, hf⟩ := obnd_some hf
              refine zci (va_runV (As := [.int x1]) (rest := []) hC (tX4_isOwnOrTrial hg_3) (cwV 1 hts gX4_told_X4_isOwnOrTrial rfl rfl rfl (by decide +kernel) ⟨Nat.le_of_ble_eq_true rfl, Nat.le_of_ble_eq_true rfl⟩) (zpV hP hK hD hN (rX_0 hK hP)) rfl rfl hl.1 rfl (lv_room (Nat.le_of_ble_eq_true rfl)) dX4_told_45 ⟨Nat.zero_le _, Nat.zero_le _⟩) hS (fun H locs hP hD hS => ?_)
              refine lv_if_eq (tgt := 54) hx hb dX4_told_48 (by decide) (fun h_7 => ?_) (fun h_7 => ?_)
              · have hf := zt h_7 hf
                refine lv_iload_n hx hb dX4_told_54 rfl (lv_at hl 3 rfl) ?_
                refine lv_if_le (tgt := 72) hx hb dX4_told_55 (by decide) (fun h_8 => ?_) (fun h_8 => ?_)
                · have hf := zt h_8 hf
                  exact kX4_told_72 hC0 hQ hf hP hD hS (lv_sub hl [0, 1, 2, 3, 4] rfl)
                · have hf := zf h_8 hf
                  refine lv_aload_n hx hb dX4_told_58 rfl (lv_at hl 0 rfl) ?_
                  refine gX4_routers hx hb hts iw4 hown hK hP (List.mem_of_getElem? (i := 1) rfl) dX4_told_59 ?_
                  refine lv_iload_n hx hb dX4_told_62 rfl (lv_at hl 1 rfl) ?_
                  obtain ⟨y_4, S_4, hg_4, hf⟩ := obnd_some hf
                  refine zci (va_runVN (As := [.int x1]) (rest := []) hC (tX3_hasRoomFor hg_4) ⟨va_cnB 1 hts gX4_told_X3_hasRoomFor_n136 rfl rfl rfl (hN _ zN20) (hts _ (List.mem_of_getElem? (i := 19) rfl)) (by decide +kernel) ⟨Nat.le_of_ble_eq_true rfl, Nat.le_of_ble_eq_true rfl⟩, hts _ (List.mem_of_getElem? (i := 18) rfl), hts _ (List.mem_of_getElem? (i := 20) rfl)⟩ (zpV hP hK hD hN (rX_14 hK hP)) rfl rfl hl.1 rfl (lv_room (Nat.le_of_ble_eq_true rfl)) dX4_told_63 ⟨Nat.zero_le _, Nat.zero_le _⟩) hS (fun H locs hP hD hS => ?_)
                  refine lv_if_ne (tgt := 72) hx hb dX4_told_66 (by decide) (fun h_9 => ?_) (fun h_9 => ?_)
                  · have hf := zf h_9 hf
                    exact kX4_told_72 hC0 hQ hf hP hD hS (lv_sub hl [0, 1, 2, 3, 4] rfl)
                  · have hf := zt h_9 hf
                    refine lv_bipush (v := (-104 : Int32)) hx hb dX4_told_69 (by decide) ?_
                    exact zri hf hQ hP hD hS dX4_told_71
              · have hf := zf h_7 hf
                refine lv_bipush (v := (-103 : Int32)) hx hb dX4_told_51 (by decide) ?_
                exact zri hf hQ hP hD hS dX4_told_53
            · have hf := zf h_6 hf
              refine lv_bipush (v := (-102 : Int32)) hx hb dX4_told_40 (by decide) ?_
              exact zri hf hQ hP hD hS dX4_told_42
    · have hf := zt h_2 hf
      refine lv_bipush (v := (-102 : Int32)) hx hb dX4_told_14 (by decide) ?_
      exact zri hf hQ hP hD hS dX4_told_16
theorem tX4_told {S : zS} {x1 : Int32} {x2 : Int32} {x3 : Int32} {x4 : Int32} {r : Int32 × zS} (hf : fX4_told S x1 x2 x3 x4 = some r) : zMi l yX4_told wsX4_told rmX4_told D (zT cI cZ) A (wX a cI) [.ref (a 0), .int x1, .int x2, .int x3, .int x4] S r :=
  zMi_of (by decide) rfl rfl (Nat.le_of_ble_eq_true rfl) (fun hC0 hQ hP hD hS _ hl => kX4_told hC0 hQ hf hP hD hS hl)
abbrev rmX4_hop : Room := { frames := 5, cells := 0, slots := 0, locals := 114 }
theorem iwX4_hop_4 : ∀ w ∈ wsX40, w ∈ wsX4_hop := fun _ h => List.mem_cons_of_mem _ (List.mem_append_left _ (List.mem_append_left _ (List.mem_append_left _ (List.mem_append_right _ h))))
theorem iwX4_hop_1 : ∀ w ∈ wsX10, w ∈ wsX4_hop := fun _ h => List.mem_cons_of_mem _ (List.mem_append_left _ (List.mem_append_left _ (List.mem_append_right _ h)))
theorem iwX4_hop_3 : ∀ w ∈ wsX30, w ∈ wsX4_hop := fun _ h => List.mem_cons_of_mem _ (List.mem_append_left _ (List.mem_append_right _ h))
theorem iwX4_hop_0 : ∀ w ∈ wsX00, w ∈ wsX4_hop := fun _ h => List.mem_cons_of_mem _ (List.mem_append_right _ h)
set_option maxHeartbeats 4000000 in
set_option maxRecDepth 100000 in
theorem kX4_hop {r : Int32 × zS} (hC0 : zC p m c cX4_hop 3 s args wsX4_hop RX4 D cI cZ) (hQ : zRi p l e rmX4_hop s m args below meth c cX4_hop D A (wX a cI) Q r) {S : zS} {x1 : Int32} (hf : fX4_hop S x1 = some r) {H : Heap} {locs : List Loc} (hP : va_P D vwCl (wX a cI S) H) (hD : va_D A (wX a cI S)) (hS : va_S A s.heap H locs) {ls : Array Slot} (hl : lv_has ls 3 [(0, .ref (a 0)), (1, .int x1)]) : W p l e rmX4_hop s m args below meth c H locs 0 0 Q (F0 m 0 ls []) := by
  obtain ⟨hC, hK, hN⟩ := id hC0
  obtain ⟨hx, hb, hml, hown, hts⟩ := id hC
  have iw4 := iwX4_hop_4
  have iw1 := iwX4_hop_1
  have iw3 := iwX4_hop_3
  have iw0 := iwX4_hop_0
  unfold fX4_hop at hf
  refine lv_iload_n hx hb dX4_hop_0 rfl (lv_at hl 1 rfl) ?_
  obtain ⟨y_1, S_1, hg_1, hf⟩ := obnd_some hf
  refine zci (va_runS (As := [.int x1]) (rest := []) hC (tX4_isGoal hg_1) (va_cwS 1 hts gX4_hop_X4_isGoal rfl rfl rfl (by decide +kernel) ⟨Nat.le_of_ble_eq_true rfl, Nat.le_of_ble_eq_true rfl⟩) (zpS hP hK hD hN) rfl rfl hl.1 rfl (lv_room (Nat.le_of_ble_eq_true rfl)) dX4_hop_1 ⟨Nat.zero_le _, Nat.zero_le _⟩) hS (fun H locs hP hD hS => ?_)
  refine lv_if_ne (tgt := 10) hx hb dX4_hop_4 (by decide) (fun h_1 => ?_) (fun h_1 => ?_)
  · have hf := zf h_1 hf
    refine lv_aload_n hx hb dX4_hop_10 rfl (lv_at hl 0 rfl) ?_
    refine lv_iload_n hx hb dX4_hop_11 rfl (lv_at hl 1 rfl) ?_
    obtain ⟨y_2, S_2, hg_2, hf⟩ := obnd_some hf
    refine zci (va_runV (As := [.int x1]) (rest := []) hC (tX4_sureHopOf hg_2) (cwV 1 hts gX4_hop_X4_sureHopOf rfl rfl rfl (by decide +kernel) ⟨Nat.le_of_ble_eq_true rfl, Nat.le_of_ble_eq_true rfl⟩) (zpV hP hK hD hN (rX_0 hK hP)) rfl rfl hl.1 rfl (lv_room (Nat.le_of_ble_eq_true rfl)) dX4_hop_12 ⟨Nat.zero_le _, Nat.zero_le _⟩) hS (fun H locs hP hD hS => ?_)
    refine z_istore_n hf hx hb (fun y => [(2, .int y), (0, .ref (a 0)), (1, .int x1)]) dX4_hop_15 rfl hl (by decide) (fun _ => rfl) (fun y_3 ls hf hl => ?_)
    refine lv_iload_n hx hb dX4_hop_16 rfl (lv_at hl 0 rfl) ?_
    refine lv_iconst (v := (-1 : Int32)) hx hb dX4_hop_17 (by decide) ?_
    refine lv_icmp_ne (tgt := 28) hx hb dX4_hop_18 (by decide) (fun h_2 => ?_) (fun h_2 => ?_)
    · have hf := zf h_2 hf
      refine lv_iload_n hx hb dX4_hop_28 rfl (lv_at hl 0 rfl) ?_
      exact zri hf hQ hP hD hS dX4_hop_29
    · have hf := zt h_2 hf
      refine lv_aload_n hx hb dX4_hop_21 rfl (lv_at hl 1 rfl) ?_
      obtain ⟨y_4, S_3, hg_3, hf⟩ := obnd_some hf
      refine zci (va_runV (As := []) (rest := []) hC (tX4_nextInTurn hg_3) (cwV 0 hts gX4_hop_X4_nextInTurn rfl rfl rfl (by decide +kernel) ⟨Nat.le_of_ble_eq_true rfl, Nat.le_of_ble_eq_true rfl⟩) (zpV hP hK hD hN (rX_0 hK hP)) rfl rfl hl.1 rfl (lv_room (Nat.le_of_ble_eq_true rfl)) dX4_hop_22 ⟨Nat.zero_le _, Nat.zero_le _⟩) hS (fun H locs hP hD hS => ?_)
      refine lv_goto (tgt := 29) hx hb dX4_hop_25 (by decide) ?_
      exact zri hf hQ hP hD hS dX4_hop_29
  · have hf := zt h_1 hf
    refine lv_bipush (v := (-102 : Int32)) hx hb dX4_hop_7 (by decide) ?_
    exact zri hf hQ hP hD hS dX4_hop_9
theorem tX4_hop {S : zS} {x1 : Int32} {r : Int32 × zS} (hf : fX4_hop S x1 = some r) : zMi l yX4_hop wsX4_hop rmX4_hop D (zT cI cZ) A (wX a cI) [.ref (a 0), .int x1] S r :=
  zMi_of (by decide) rfl rfl (Nat.le_of_ble_eq_true rfl) (fun hC0 hQ hP hD hS _ hl => kX4_hop hC0 hQ hf hP hD hS hl)
abbrev rmX4_better : Room := { frames := 6, cells := 0, slots := 0, locals := 136 }
theorem iwX4_better_4 : ∀ w ∈ wsX40, w ∈ wsX4_better := fun _ h => List.mem_cons_of_mem _ (List.mem_append_left _ (List.mem_append_left _ (List.mem_append_left _ (List.mem_append_right _ h))))
theorem iwX4_better_1 : ∀ w ∈ wsX10, w ∈ wsX4_better := fun _ h => List.mem_cons_of_mem _ (List.mem_append_left _ (List.mem_append_left _ (List.mem_append_right _ h)))
theorem iwX4_better_3 : ∀ w ∈ wsX30, w ∈ wsX4_better := fun _ h => List.mem_cons_of_mem _ (List.mem_append_left _ (List.mem_append_right _ h))
theorem iwX4_better_0 : ∀ w ∈ wsX00, w ∈ wsX4_better := fun _ h => List.mem_cons_of_mem _ (List.mem_append_right _ h)
set_option maxHeartbeats 4000000 in
set_option maxRecDepth 100000 in
theorem kX4_better {r : Int32 × zS} (hC0 : zC p m c cX4_better 4 s args wsX4_better RX4 D cI cZ) (hQ : zRi p l e rmX4_better s m args below meth c cX4_better D A (wX a cI) Q r) {S : zS} {x1 : Int32} {x2 : Int32} {x3 : Int32} (hf : fX4_better S x1 x2 x3 = some r) {H : Heap} {locs : List Loc} (hP : va_P D vwCl (wX a cI S) H) (hD : va_D A (wX a cI S)) (hS : va_S A s.heap H locs) {ls : Array Slot} (hl : lv_has ls 4 [(0, .ref (a 0)), (1, .int x1), (2, .int x2), (3, .int x3)]) : W p l e rmX4_better s m args below meth c H locs 0 0 Q (F0 m 0 ls []) := by
  obtain ⟨hC, hK, hN⟩ := id hC0
  obtain ⟨hx, hb, hml, hown, hts⟩ := id hC
  have iw4 := iwX4_better_4
  have iw1 := iwX4_better_1
  have iw3 := iwX4_better_3
  have iw0 := iwX4_better_0
  unfold fX4_better at hf
  refine lv_iload_n hx hb dX4_better_0 rfl (lv_at hl 1 rfl) ?_
  obtain ⟨y_1, S_1, hg_1, hf⟩ := obnd_some hf
  refine zci (va_runS (As := [.int x1]) (rest := []) hC (tX4_isAddress hg_1) (va_cwS 1 hts gX4_better_X4_isAddress rfl rfl rfl (by decide +kernel) ⟨Nat.le_of_ble_eq_true rfl, Nat.le_of_ble_eq_true rfl⟩) (zpS hP hK hD hN) rfl rfl hl.1 rfl (lv_room (Nat.le_of_ble_eq_true rfl)) dX4_better_1 ⟨Nat.zero_le _, Nat.zero_le _⟩) hS (fun H locs hP hD hS => ?_)
  refine lv_if_eq (tgt := 21) hx hb dX4_better_4 (by decide) (fun h_1 => ?_) (fun h_1 => ?_)
  · have hf := zt h_1 hf
    refine lv_bipush (v := (-102 : Int32)) hx hb dX4_better_21 (by decide) ?_
    exact zri hf hQ hP hD hS dX4_better_23
  · have hf := zf h_1 hf
    refine lv_iload_n hx hb dX4_better_7 rfl (lv_at hl 2 rfl) ?_
    obtain ⟨y_2, S_2, hg_2, hf⟩ := obnd_some hf
    refine zci (va_runS (As := [.int x2]) (rest := []) hC (tX4_isGoal hg_2) (va_cwS 1 hts gX4_better_X4_isGoal rfl rfl rfl (by decide +kernel) ⟨Nat.le_of_ble_eq_true rfl, Nat.le_of_ble_eq_true rfl⟩) (zpS hP hK hD hN) rfl rfl hl.1 rfl (lv_room (Nat.le_of_ble_eq_true rfl)) dX4_better_8 ⟨Nat.zero_le _, Nat.zero_le _⟩) hS (fun H locs hP hD hS => ?_)
    refine lv_if_eq (tgt := 21) hx hb dX4_better_11 (by decide) (fun h_2 => ?_) (fun h_2 => ?_)
    · have hf := zt h_2 hf
      refine lv_bipush (v := (-102 : Int32)) hx hb dX4_better_21 (by decide) ?_
      exact zri hf hQ hP hD hS dX4_better_23
    · have hf := zf h_2 hf
      refine lv_iload_n hx hb dX4_better_14 rfl (lv_at hl 3 rfl) ?_
      obtain ⟨y_3, S_3, hg_3, hf⟩ := obnd_some hf
      refine zci (va_runS (As := [.int x3]) (rest := []) hC (tX4_isAddress hg_3) (va_cwS 1 hts gX4_better_X4_isAddress rfl rfl rfl (by decide +kernel) ⟨Nat.le_of_ble_eq_true rfl, Nat.le_of_ble_eq_true rfl⟩) (zpS hP hK hD hN) rfl rfl hl.1 rfl (lv_room (Nat.le_of_ble_eq_true rfl)) dX4_better_15 ⟨Nat.zero_le _, Nat.zero_le _⟩) hS (fun H locs hP hD hS => ?_)
      refine lv_if_ne (tgt := 24) hx hb dX4_better_18 (by decide) (fun h_3 => ?_) (fun h_3 => ?_)
      · have hf := zf h_3 hf
        refine lv_aload_n hx hb dX4_better_24 rfl (lv_at hl 0 rfl) ?_
        refine lv_iload_n hx hb dX4_better_25 rfl (lv_at hl 3 rfl) ?_
        obtain ⟨y_4, S_4, hg_4, hf⟩ := obnd_some hf
        refine zci (va_runV (As := [.int x3]) (rest := []) hC (tX4_isOwnOrTrial hg_4) (cwV 1 hts gX4_better_X4_isOwnOrTrial rfl rfl rfl (by decide +kernel) ⟨Nat.le_of_ble_eq_true rfl, Nat.le_of_ble_eq_true rfl⟩) (zpV hP hK hD hN (rX_0 hK hP)) rfl rfl hl.1 rfl (lv_room (Nat.le_of_ble_eq_true rfl)) dX4_better_26 ⟨Nat.zero_le _, Nat.zero_le _⟩) hS (fun H locs hP hD hS => ?_)
        refine lv_if_eq (tgt := 35) hx hb dX4_better_29 (by decide) (fun h_4 => ?_) (fun h_4 => ?_)
        · have hf := zt h_4 hf
          refine lv_aload_n hx hb dX4_better_35 rfl (lv_at hl 0 rfl) ?_
          refine lv_iload_n hx hb dX4_better_36 rfl (lv_at hl 2 rfl) ?_
          obtain ⟨y_5, S_5, hg_5, hf⟩ := obnd_some hf
          refine zci (va_runV (As := [.int x2]) (rest := []) hC (tX4_hop hg_5) (cwV 1 hts gX4_better_X4_hop rfl rfl rfl (by decide +kernel) ⟨Nat.le_of_ble_eq_true rfl, Nat.le_of_ble_eq_true rfl⟩) (zpV hP hK hD hN (rX_0 hK hP)) rfl rfl hl.1 rfl (lv_room (Nat.le_of_ble_eq_true rfl)) dX4_better_37 ⟨Nat.zero_le _, Nat.zero_le _⟩) hS (fun H locs hP hD hS => ?_)
          refine lv_iload_n hx hb dX4_better_40 rfl (lv_at hl 1 rfl) ?_
          refine lv_icmp_eq (tgt := 46) hx hb dX4_better_41 (by decide) (fun h_5 => ?_) (fun h_5 => ?_)
          · have hf := zt h_5 hf
            refine lv_aload_n hx hb dX4_better_46 rfl (lv_at hl 0 rfl) ?_
            refine gX4_kept hx hb hts iw4 hown hK hP (List.mem_of_getElem? (i := 1) rfl) dX4_better_47 ?_
            refine lv_iload_n hx hb dX4_better_50 rfl (lv_at hl 2 rfl) ?_
            refine lv_iload_n hx hb dX4_better_51 rfl (lv_at hl 3 rfl) ?_
            obtain ⟨S_6, hg_6, hf⟩ := obnv_some hf
            refine zcv (va_runVN (As := [.int x2, .int x3]) (rest := []) hC (tX1_keep hg_6) ⟨va_cnB 2 hts gX4_better_X1_keep_n148 rfl rfl rfl (hN _ zN23) (hts _ (List.mem_of_getElem? (i := 26) rfl)) (by decide +kernel) ⟨Nat.le_of_ble_eq_true rfl, Nat.le_of_ble_eq_true rfl⟩, hts _ (List.mem_of_getElem? (i := 68) rfl), hts _ (List.mem_of_getElem? (i := 69) rfl)⟩ (zpV hP hK hD hN (rX_3 hK hP)) rfl rfl hl.1 rfl (lv_room (Nat.le_of_ble_eq_true rfl)) dX4_better_52 ⟨Nat.zero_le _, Nat.zero_le _⟩) hS (fun H locs hP hD hS => ?_)
            refine lv_iconst (v := (1 : Int32)) hx hb dX4_better_55 (by decide) ?_
            exact zri hf hQ hP hD hS dX4_better_56
          · have hf := zf h_5 hf
            refine lv_iconst (v := (0 : Int32)) hx hb dX4_better_44 (by decide) ?_
            exact zri hf hQ hP hD hS dX4_better_45
        · have hf := zf h_4 hf
          refine lv_bipush (v := (-103 : Int32)) hx hb dX4_better_32 (by decide) ?_
          exact zri hf hQ hP hD hS dX4_better_34
      · have hf := zt h_3 hf
        refine lv_bipush (v := (-102 : Int32)) hx hb dX4_better_21 (by decide) ?_
        exact zri hf hQ hP hD hS dX4_better_23
theorem tX4_better {S : zS} {x1 : Int32} {x2 : Int32} {x3 : Int32} {r : Int32 × zS} (hf : fX4_better S x1 x2 x3 = some r) : zMi l yX4_better wsX4_better rmX4_better D (zT cI cZ) A (wX a cI) [.ref (a 0), .int x1, .int x2, .int x3] S r :=
  zMi_of (by decide) rfl rfl (Nat.le_of_ble_eq_true rfl) (fun hC0 hQ hP hD hS _ hl => kX4_better hC0 hQ hf hP hD hS hl)
abbrev rmX4_isTaken : Room := { frames := 2, cells := 0, slots := 0, locals := 43 }
theorem iwX4_isTaken_4 : ∀ w ∈ wsX40, w ∈ wsX4_isTaken := fun _ h => List.mem_cons_of_mem _ (List.mem_append_left _ (List.mem_append_left _ (List.mem_append_left _ (List.mem_append_right _ h))))
theorem iwX4_isTaken_0 : ∀ w ∈ wsX00, w ∈ wsX4_isTaken := fun _ h => List.mem_cons_of_mem _ (List.mem_append_left _ (List.mem_append_left _ (List.mem_append_right _ h)))
theorem iwX4_isTaken_3 : ∀ w ∈ wsX30, w ∈ wsX4_isTaken := fun _ h => List.mem_cons_of_mem _ (List.mem_append_left _ (List.mem_append_right _ h))
theorem iwX4_isTaken_1 : ∀ w ∈ wsX10, w ∈ wsX4_isTaken := fun _ h => List.mem_cons_of_mem _ (List.mem_append_right _ h)
set_option maxHeartbeats 4000000 in
set_option maxRecDepth 100000 in
theorem kX4_isTaken_54 {r : Int32 × zS} (hC0 : zC p m c cX4_isTaken 3 s args wsX4_isTaken RX4 D cI cZ) (hQ : zRz p l e rmX4_isTaken s m args below meth c cX4_isTaken D A (wX a cI) Q r) {S : zS} (hf : fX4_isTaken_54 S = some r) {H : Heap} {locs : List Loc} (hP : va_P D vwCl (wX a cI S) H) (hD : va_D A (wX a cI S)) (hS : va_S A s.heap H locs) {ls : Array Slot} (hl : lv_has ls 3 []) : W p l e rmX4_isTaken s m args below meth c H locs 0 0 Q (F0 m 54 ls []) := by
  obtain ⟨hC, hK, hN⟩ := id hC0
  obtain ⟨hx, hb, hml, hown, hts⟩ := id hC
  have iw4 := iwX4_isTaken_4
  have iw0 := iwX4_isTaken_0
  have iw3 := iwX4_isTaken_3
  have iw1 := iwX4_isTaken_1
  unfold fX4_isTaken_54 at hf
  refine lv_iconst (v := (1 : Int32)) hx hb dX4_isTaken_54 (by decide) ?_
  refine lv_goto (tgt := 59) hx hb dX4_isTaken_55 (by decide) ?_
  exact zrz hf (Or.inr rfl) hQ hP hD hS dX4_isTaken_59
set_option maxHeartbeats 4000000 in
set_option maxRecDepth 100000 in
theorem kX4_isTaken_16 {r : Int32 × zS} (hC0 : zC p m c cX4_isTaken 3 s args wsX4_isTaken RX4 D cI cZ) (hQ : zRz p l e rmX4_isTaken s m args below meth c cX4_isTaken D A (wX a cI) Q r) {S : zS} {x1 : Int32} {t0 : Int32} (hf : fX4_isTaken_16 S x1 t0 = some r) {H : Heap} {locs : List Loc} (hP : va_P D vwCl (wX a cI S) H) (hD : va_D A (wX a cI S)) (hS : va_S A s.heap H locs) {ls : Array Slot} (hl : lv_has ls 3 [(0, .ref (a 0)), (1, .int x1)]) : W p l e rmX4_isTaken s m args below meth c H locs 0 0 Q (F0 m 16 ls [.int t0]) := by
  obtain ⟨hC, hK, hN⟩ := id hC0
  obtain ⟨hx, hb, hml, hown, hts⟩ := id hC
  have iw4 := iwX4_isTaken_4
  have iw0 := iwX4_isTaken_0
  have iw3 := iwX4_isTaken_3
  have iw1 := iwX4_isTaken_1
  unfold fX4_isTaken_16 at hf
  refine z_istore_n hf hx hb (fun y => [(2, .int y), (0, .ref (a 0)), (1, .int x1)]) dX4_isTaken_16 rfl hl (by decide) (fun _ => rfl) (fun y_1 ls hf hl => ?_)
  refine lv_iload_n hx hb dX4_isTaken_17 rfl (lv_at hl 0 rfl) ?_
  refine lv_if_ne (tgt := 54) hx hb dX4_isTaken_18 (by decide) (fun h_1 => ?_) (fun h_1 => ?_)
  · have hf := zf h_1 hf
    exact kX4_isTaken_54 hC0 hQ hf hP hD hS (lv_sub hl [] rfl)
  · have hf := zt h_1 hf
    refine lv_aload_n hx hb dX4_isTaken_21 rfl (lv_at hl 1 rfl) ?_
    refine gX4_entries hx hb hts iw4 hown hK hP (List.mem_of_getElem? (i := 2) rfl) dX4_isTaken_22 ?_
    refine lv_iload_n hx hb dX4_isTaken_25 rfl (lv_at hl 2 rfl) ?_
    obtain ⟨y_2, S_1, hg_1, hf⟩ := obnd_some hf
    refine zci (va_runVN (As := [.int x1]) (rest := []) hC (tX0_has hg_1) ⟨va_cnB 1 hts gX4_isTaken_X0_has_n115 rfl rfl rfl (hN _ zN15) (hts _ (List.mem_of_getElem? (i := 6) rfl)) (by decide +kernel) ⟨Nat.le_of_ble_eq_true rfl, Nat.le_of_ble_eq_true rfl⟩, hts _ (List.mem_of_getElem? (i := 5) rfl), hts _ (List.mem_of_getElem? (i := 7) rfl)⟩ (zpV hP hK hD hN (rX_6 hK hP)) rfl rfl hl.1 rfl (lv_room (Nat.le_of_ble_eq_true rfl)) dX4_isTaken_26 ⟨Nat.zero_le _, Nat.zero_le _⟩) hS (fun H locs hP hD hS => ?_)
    refine lv_if_ne (tgt := 54) hx hb dX4_isTaken_29 (by decide) (fun h_2 => ?_) (fun h_2 => ?_)
    · have hf := zf h_2 hf
      exact kX4_isTaken_54 hC0 hQ hf hP hD hS (lv_sub hl [] rfl)
    · have hf := zt h_2 hf
      refine lv_aload_n hx hb dX4_isTaken_32 rfl (lv_at hl 1 rfl) ?_
      refine gX4_routers hx hb hts iw4 hown hK hP (List.mem_of_getElem? (i := 3) rfl) dX4_isTaken_33 ?_
      refine lv_iload_n hx hb dX4_isTaken_36 rfl (lv_at hl 2 rfl) ?_
      obtain ⟨y_3, S_2, hg_2, hf⟩ := obnd_some hf
      refine zci (va_runVN (As := [.int x1]) (rest := []) hC (tX3_has hg_2) ⟨va_cnB 1 hts gX4_isTaken_X3_has_n154 rfl rfl rfl (hN _ zN24) (hts _ (List.mem_of_getElem? (i := 11) rfl)) (by decide +kernel) ⟨Nat.le_of_ble_eq_true rfl, Nat.le_of_ble_eq_true rfl⟩, hts _ (List.mem_of_getElem? (i := 10) rfl), hts _ (List.mem_of_getElem? (i := 12) rfl)⟩ (zpV hP hK hD hN (rX_14 hK hP)) rfl rfl hl.1 rfl (lv_room (Nat.le_of_ble_eq_true rfl)) dX4_isTaken_37 ⟨Nat.zero_le _, Nat.zero_le _⟩) hS (fun H locs hP hD hS => ?_)
      refine lv_if_ne (tgt := 54) hx hb dX4_isTaken_40 (by decide) (fun h_3 => ?_) (fun h_3 => ?_)
      · have hf := zf h_3 hf
        exact kX4_isTaken_54 hC0 hQ hf hP hD hS (lv_sub hl [] rfl)
      · have hf := zt h_3 hf
        refine lv_aload_n hx hb dX4_isTaken_43 rfl (lv_at hl 1 rfl) ?_
        refine gX4_kept hx hb hts iw4 hown hK hP (List.mem_of_getElem? (i := 4) rfl) dX4_isTaken_44 ?_
        refine lv_iload_n hx hb dX4_isTaken_47 rfl (lv_at hl 2 rfl) ?_
        obtain ⟨y_4, S_3, hg_3, hf⟩ := obnd_some hf
        refine zci (va_runVN (As := [.int x1]) (rest := []) hC (tX1_leadTo hg_3) ⟨va_cnB 1 hts gX4_isTaken_X1_leadTo_n155 rfl rfl rfl (hN _ zN25) (hts _ (List.mem_of_getElem? (i := 21) rfl)) (by decide +kernel) ⟨Nat.le_of_ble_eq_true rfl, Nat.le_of_ble_eq_true rfl⟩, hts _ (List.mem_of_getElem? (i := 20) rfl), hts _ (List.mem_of_getElem? (i := 22) rfl)⟩ (zpV hP hK hD hN (rX_3 hK hP)) rfl rfl hl.1 rfl (lv_room (Nat.le_of_ble_eq_true rfl)) dX4_isTaken_48 ⟨Nat.zero_le _, Nat.zero_le _⟩) hS (fun H locs hP hD hS => ?_)
        refine lv_if_eq (tgt := 58) hx hb dX4_isTaken_51 (by decide) (fun h_4 => ?_) (fun h_4 => ?_)
        · have hf := zt h_4 hf
          refine lv_iconst (v := (0 : Int32)) hx hb dX4_isTaken_58 (by decide) ?_
          exact zrz hf (Or.inl rfl) hQ hP hD hS dX4_isTaken_59
        · have hf := zf h_4 hf
          exact kX4_isTaken_54 hC0 hQ hf hP hD hS (lv_sub hl [] rfl)
set_option maxHeartbeats 4000000 in
set_option maxRecDepth 100000 in
theorem kX4_isTaken {r : Int32 × zS} (hC0 : zC p m c cX4_isTaken 3 s args wsX4_isTaken RX4 D cI cZ) (hQ : zRz p l e rmX4_isTaken s m args below meth c cX4_isTaken D A (wX a cI) Q r) {S : zS} {x1 : Int32} (hf : fX4_isTaken S x1 = some r) {H : Heap} {locs : List Loc} (hP : va_P D vwCl (wX a cI S) H) (hD : va_D A (wX a cI S)) (hS : va_S A s.heap H locs) {ls : Array Slot} (hl : lv_has ls 3 [(0, .ref (a 0)), (1, .int x1)]) : W p l e rmX4_isTaken s m args below meth c H locs 0 0 Q (F0 m 0 ls []) := by
  obtain ⟨hC, hK, hN⟩ := id hC0
  obtain ⟨hx, hb, hml, hown, hts⟩ := id hC
  have iw4 := iwX4_isTaken_4
  have iw0 := iwX4_isTaken_0
  have iw3 := iwX4_isTaken_3
  have iw1 := iwX4_isTaken_1
  unfold fX4_isTaken at hf
  refine lv_aload_n hx hb dX4_isTaken_0 rfl (lv_at hl 0 rfl) ?_
  refine gX4_doubled hx hb hts iw4 hown hK hP (List.mem_of_getElem? (i := 1) rfl) dX4_isTaken_1 ?_
  refine lv_iconst (v := (1 : Int32)) hx hb dX4_isTaken_4 (by decide) ?_
  refine lv_iload_n hx hb dX4_isTaken_5 rfl (lv_at hl 1 rfl) ?_
  refine lv_ishl hx hb dX4_isTaken_6 ?_
  refine lv_iand hx hb dX4_isTaken_7 ?_
  refine lv_if_eq (tgt := 15) hx hb dX4_isTaken_8 (by decide) (fun h_1 => ?_) (fun h_1 => ?_)
  · have hf := zt h_1 hf
    refine lv_iconst (v := (0 : Int32)) hx hb dX4_isTaken_15 (by decide) ?_
    exact kX4_isTaken_16 hC0 hQ hf hP hD hS (lv_sub hl [0, 1] rfl)
  · have hf := zf h_1 hf
    refine lv_iconst (v := (1 : Int32)) hx hb dX4_isTaken_11 (by decide) ?_
    refine lv_goto (tgt := 16) hx hb dX4_isTaken_12 (by decide) ?_
    exact kX4_isTaken_16 hC0 hQ hf hP hD hS (lv_sub hl [0, 1] rfl)
theorem tX4_isTaken {S : zS} {x1 : Int32} {r : Int32 × zS} (hf : fX4_isTaken S x1 = some r) : zMi l yX4_isTaken wsX4_isTaken rmX4_isTaken D (zT cI cZ) A (wX a cI) [.ref (a 0), .int x1] S r :=
  zMz_of (by decide) rfl rfl (Nat.le_of_ble_eq_true rfl) (fun hC0 hQ hP hD hS _ hl => kX4_isTaken hC0 hQ hf hP hD hS hl)
abbrev rmX4_claim : Room := { frames := 3, cells := 0, slots := 0, locals := 65 }
theorem iwX4_claim_4 : ∀ w ∈ wsX40, w ∈ wsX4_claim := fun _ h => List.mem_cons_of_mem _ (List.mem_append_left _ (List.mem_append_left _ (List.mem_append_left _ (List.mem_append_left _ (List.mem_append_right _ h)))))
theorem iwX4_claim_0 : ∀ w ∈ wsX00, w ∈ wsX4_claim := fun _ h => List.mem_cons_of_mem _ (List.mem_append_left _ (List.mem_append_left _ (List.mem_append_left _ (List.mem_append_right _ h))))
theorem iwX4_claim_3 : ∀ w ∈ wsX30, w ∈ wsX4_claim := fun _ h => List.mem_cons_of_mem _ (List.mem_append_left _ (List.mem_append_left _ (List.mem_append_right _ h)))
theorem iwX4_claim_1 : ∀ w ∈ wsX10, w ∈ wsX4_claim := fun _ h => List.mem_cons_of_mem _ (List.mem_append_left _ (List.mem_append_right _ h))
theorem iwX4_claim_2 : ∀ w ∈ wsX20, w ∈ wsX4_claim := fun _ h => List.mem_cons_of_mem _ (List.mem_append_right _ h)
set_option maxHeartbeats 4000000 in
set_option maxRecDepth 100000 in
theorem kX4_claim {r : Int32 × zS} (hC0 : zC p m c cX4_claim 2 s args wsX4_claim RX4 D cI cZ) (hQ : zRi p l e rmX4_claim s m args below meth c cX4_claim D A (wX a cI) Q r) {S : zS} {x1 : Int32} (hf : fX4_claim S x1 = some r) {H : Heap} {locs : List Loc} (hP : va_P D vwCl (wX a cI S) H) (hD : va_D A (wX a cI S)) (hS : va_S A s.heap H locs) {ls : Array Slot} (hl : lv_has ls 2 [(0, .ref (a 0)), (1, .int x1)]) : W p l e rmX4_claim s m args below meth c H locs 0 0 Q (F0 m 0 ls []) := by
  obtain ⟨hC, hK, hN⟩ := id hC0
  obtain ⟨hx, hb, hml, hown, hts⟩ := id hC
  have iw4 := iwX4_claim_4
  have iw0 := iwX4_claim_0
  have iw3 := iwX4_claim_3
  have iw1 := iwX4_claim_1
  have iw2 := iwX4_claim_2
  unfold fX4_claim at hf
  refine lv_iload_n hx hb dX4_claim_0 rfl (lv_at hl 1 rfl) ?_
  obtain ⟨y_1, S_1, hg_1, hf⟩ := obnd_some hf
  refine zci (va_runS (As := [.int x1]) (rest := []) hC (tX4_isAddress hg_1) (va_cwS 1 hts gX4_claim_X4_isAddress rfl rfl rfl (by decide +kernel) ⟨Nat.le_of_ble_eq_true rfl, Nat.le_of_ble_eq_true rfl⟩) (zpS hP hK hD hN) rfl rfl hl.1 rfl (lv_room (Nat.le_of_ble_eq_true rfl)) dX4_claim_1 ⟨Nat.zero_le _, Nat.zero_le _⟩) hS (fun H locs hP hD hS => ?_)
  refine lv_if_ne (tgt := 10) hx hb dX4_claim_4 (by decide) (fun h_1 => ?_) (fun h_1 => ?_)
  · have hf := zf h_1 hf
    refine lv_aload_n hx hb dX4_claim_10 rfl (lv_at hl 0 rfl) ?_
    refine gX4_own hx hb hts iw4 hown hK hP (List.mem_of_getElem? (i := 1) rfl) dX4_claim_11 ?_
    refine lv_iconst (v := (-1 : Int32)) hx hb dX4_claim_14 (by decide) ?_
    refine lv_icmp_ne (tgt := 34) hx hb dX4_claim_15 (by decide) (fun h_2 => ?_) (fun h_2 => ?_)
    · have hf := zf h_2 hf
      refine lv_bipush (v := (-103 : Int32)) hx hb dX4_claim_34 (by decide) ?_
      exact zri hf hQ hP hD hS dX4_claim_36
    · have hf := zt h_2 hf
      refine lv_aload_n hx hb dX4_claim_18 rfl (lv_at hl 0 rfl) ?_
      refine gX4_trial hx hb hts iw4 hown hK hP (List.mem_of_getElem? (i := 2) rfl) dX4_claim_19 ?_
      refine lv_iconst (v := (-1 : Int32)) hx hb dX4_claim_22 (by decide) ?_
      refine lv_icmp_ne (tgt := 34) hx hb dX4_claim_23 (by decide) (fun h_3 => ?_) (fun h_3 => ?_)
      · have hf := zf h_3 hf
        refine lv_bipush (v := (-103 : Int32)) hx hb dX4_claim_34 (by decide) ?_
        exact zri hf hQ hP hD hS dX4_claim_36
      · have hf := zt h_3 hf
        refine lv_aload_n hx hb dX4_claim_26 rfl (lv_at hl 0 rfl) ?_
        refine lv_iload_n hx hb dX4_claim_27 rfl (lv_at hl 1 rfl) ?_
        obtain ⟨y_2, S_2, hg_2, hf⟩ := obnd_some hf
        refine zci (va_runV (As := [.int x1]) (rest := []) hC (tX4_isTaken hg_2) (cwV 1 hts gX4_claim_X4_isTaken rfl rfl rfl (by decide +kernel) ⟨Nat.le_of_ble_eq_true rfl, Nat.le_of_ble_eq_true rfl⟩) (zpV hP hK hD hN (rX_0 hK hP)) rfl rfl hl.1 rfl (lv_room (Nat.le_of_ble_eq_true rfl)) dX4_claim_28 ⟨Nat.zero_le _, Nat.zero_le _⟩) hS (fun H locs hP hD hS => ?_)
        refine lv_if_eq (tgt := 37) hx hb dX4_claim_31 (by decide) (fun h_4 => ?_) (fun h_4 => ?_)
        · have hf := zt h_4 hf
          refine lv_aload_n hx hb dX4_claim_37 rfl (lv_at hl 0 rfl) ?_
          refine lv_iload_n hx hb dX4_claim_38 rfl (lv_at hl 1 rfl) ?_
          refine pX4_trial hf hx hb hts iw4 hown hK hP hD hS (List.mem_of_getElem? (i := 2) rfl) dX4_claim_39 (fun S_3 H locs hf hP hD hS => ?_)
          refine lv_aload_n hx hb dX4_claim_42 rfl (lv_at hl 0 rfl) ?_
          refine lv_aload_n hx hb dX4_claim_43 rfl (lv_at hl 0 rfl) ?_
          refine gX4_clock hx hb hts iw4 hown hK hP (List.mem_of_getElem? (i := 3) rfl) dX4_claim_44 ?_
          refine pX4_trialBegan hf hx hb hts iw4 hown hK hP hD hS (List.mem_of_getElem? (i := 4) rfl) dX4_claim_47 (fun S_4 H locs hf hP hD hS => ?_)
          refine lv_aload_n hx hb dX4_claim_50 rfl (lv_at hl 0 rfl) ?_
          refine gX4_outbox hx hb hts iw4 hown hK hP (List.mem_of_getElem? (i := 5) rfl) dX4_claim_51 ?_
          refine lv_iconst (v := (4 : Int32)) hx hb dX4_claim_54 (by decide) ?_
          refine lv_iload_n hx hb dX4_claim_55 rfl (lv_at hl 1 rfl) ?_
          refine lv_iconst (v := (0 : Int32)) hx hb dX4_claim_56 (by decide) ?_
          refine lv_iconst (v := (0 : Int32)) hx hb dX4_claim_57 (by decide) ?_
          refine lv_aload_n hx hb dX4_claim_58 rfl (lv_at hl 0 rfl) ?_
          refine gX4_clock hx hb hts iw4 hown hK hP (List.mem_of_getElem? (i := 3) rfl) dX4_claim_59 ?_
          obtain ⟨S_5, hg_3, hf⟩ := obnv_some hf
          refine zcv (va_runVN (As := [.int (4 : Int32), .int x1, .int (0 : Int32), .int (0 : Int32), .int (S_4.1 0)]) (rest := []) hC (tX2_add hg_3) ⟨va_cnB 5 hts gX4_claim_X2_add_n62 rfl rfl rfl (hN _ zN4) (hts _ (List.mem_of_getElem? (i := 40) rfl)) (by decide +kernel) ⟨Nat.le_of_ble_eq_true rfl, Nat.le_of_ble_eq_true rfl⟩, hts _ (List.mem_of_getElem? (i := 39) rfl), hts _ (List.mem_of_getElem? (i := 41) rfl)⟩ (zpV hP hK hD hN (rX_1 hK hP)) rfl rfl hl.1 rfl (lv_room (Nat.le_of_ble_eq_true rfl)) dX4_claim_62 ⟨Nat.zero_le _, Nat.zero_le _⟩) hS (fun H locs hP hD hS => ?_)
          refine lv_aload_n hx hb dX4_claim_65 rfl (lv_at hl 0 rfl) ?_
          refine gX4_clock hx hb hts iw4 hown hK hP (List.mem_of_getElem? (i := 3) rfl) dX4_claim_66 ?_
          refine lv_bipush (v := (10 : Int32)) hx hb dX4_claim_69 (by decide) ?_
          refine lv_iadd hx hb dX4_claim_71 ?_
          exact zri hf hQ hP hD hS dX4_claim_72
        · have hf := zf h_4 hf
          refine lv_bipush (v := (-103 : Int32)) hx hb dX4_claim_34 (by decide) ?_
          exact zri hf hQ hP hD hS dX4_claim_36
  · have hf := zt h_1 hf
    refine lv_bipush (v := (-102 : Int32)) hx hb dX4_claim_7 (by decide) ?_
    exact zri hf hQ hP hD hS dX4_claim_9
theorem tX4_claim {S : zS} {x1 : Int32} {r : Int32 × zS} (hf : fX4_claim S x1 = some r) : zMi l yX4_claim wsX4_claim rmX4_claim D (zT cI cZ) A (wX a cI) [.ref (a 0), .int x1] S r :=
  zMi_of (by decide) rfl rfl (Nat.le_of_ble_eq_true rfl) (fun hC0 hQ hP hD hS _ hl => kX4_claim hC0 hQ hf hP hD hS hl)
abbrev rmX4_give : Room := { frames := 0, cells := 0, slots := 0, locals := 0 }
theorem iwX4_give_4 : ∀ w ∈ wsX40, w ∈ wsX4_give := fun _ h => List.mem_cons_of_mem _ (List.mem_append_right _ h)
set_option maxHeartbeats 4000000 in
set_option maxRecDepth 100000 in
theorem kX4_give_19 {r : Int32 × zS} (hC0 : zC p m c cX4_give 2 s args wsX4_give RX4 D cI cZ) (hQ : zRi p l e rmX4_give s m args below meth c cX4_give D A (wX a cI) Q r) {S : zS} {t0 : Int32} (hf : fX4_give_19 S t0 = some r) {H : Heap} {locs : List Loc} (hP : va_P D vwCl (wX a cI S) H) (hD : va_D A (wX a cI S)) (hS : va_S A s.heap H locs) {ls : Array Slot} (hl : lv_has ls 2 [(0, .ref (a 0))]) : W p l e rmX4_give s m args below meth c H locs 0 0 Q (F0 m 19 ls [.int t0]) := by
  obtain ⟨hC, hK, hN⟩ := id hC0
  obtain ⟨hx, hb, hml, hown, hts⟩ := id hC
  have iw4 := iwX4_give_4
  unfold fX4_give_19 at hf
  refine z_istore_n hf hx hb (fun y => [(1, .int y), (0, .ref (a 0))]) dX4_give_19 rfl hl (by decide) (fun _ => rfl) (fun y_1 ls hf hl => ?_)
  refine lv_iload_n hx hb dX4_give_20 rfl (lv_at hl 0 rfl) ?_
  refine lv_iconst (v := (-1 : Int32)) hx hb dX4_give_21 (by decide) ?_
  refine lv_icmp_ne (tgt := 28) hx hb dX4_give_22 (by decide) (fun h_1 => ?_) (fun h_1 => ?_)
  · have hf := zf h_1 hf
    refine lv_aload_n hx hb dX4_give_28 rfl (lv_at hl 1 rfl) ?_
    refine lv_iconst (v := (-1 : Int32)) hx hb dX4_give_29 (by decide) ?_
    refine pX4_own hf hx hb hts iw4 hown hK hP hD hS (List.mem_of_getElem? (i := 1) rfl) dX4_give_30 (fun S_1 H locs hf hP hD hS => ?_)
    refine lv_aload_n hx hb dX4_give_33 rfl (lv_at hl 1 rfl) ?_
    refine lv_iconst (v := (-1 : Int32)) hx hb dX4_give_34 (by decide) ?_
    refine pX4_trial hf hx hb hts iw4 hown hK hP hD hS (List.mem_of_getElem? (i := 2) rfl) dX4_give_35 (fun S_2 H locs hf hP hD hS => ?_)
    refine lv_iload_n hx hb dX4_give_38 rfl (lv_at hl 0 rfl) ?_
    exact zri hf hQ hP hD hS dX4_give_39
  · have hf := zt h_1 hf
    refine lv_bipush (v := (-103 : Int32)) hx hb dX4_give_25 (by decide) ?_
    exact zri hf hQ hP hD hS dX4_give_27
set_option maxHeartbeats 4000000 in
set_option maxRecDepth 100000 in
theorem kX4_give {r : Int32 × zS} (hC0 : zC p m c cX4_give 2 s args wsX4_give RX4 D cI cZ) (hQ : zRi p l e rmX4_give s m args below meth c cX4_give D A (wX a cI) Q r) {S : zS} (hf : fX4_give S = some r) {H : Heap} {locs : List Loc} (hP : va_P D vwCl (wX a cI S) H) (hD : va_D A (wX a cI S)) (hS : va_S A s.heap H locs) {ls : Array Slot} (hl : lv_has ls 2 [(0, .ref (a 0))]) : W p l e rmX4_give s m args below meth c H locs 0 0 Q (F0 m 0 ls []) := by
  obtain ⟨hC, hK, hN⟩ := id hC0
  obtain ⟨hx, hb, hml, hown, hts⟩ := id hC
  have iw4 := iwX4_give_4
  unfold fX4_give at hf
  refine lv_aload_n hx hb dX4_give_0 rfl (lv_at hl 0 rfl) ?_
  refine gX4_own hx hb hts iw4 hown hK hP (List.mem_of_getElem? (i := 1) rfl) dX4_give_1 ?_
  refine lv_iconst (v := (-1 : Int32)) hx hb dX4_give_4 (by decide) ?_
  refine lv_icmp_eq (tgt := 15) hx hb dX4_give_5 (by decide) (fun h_1 => ?_) (fun h_1 => ?_)
  · have hf := zt h_1 hf
    refine lv_aload_n hx hb dX4_give_15 rfl (lv_at hl 0 rfl) ?_
    refine gX4_trial hx hb hts iw4 hown hK hP (List.mem_of_getElem? (i := 2) rfl) dX4_give_16 ?_
    exact kX4_give_19 hC0 hQ hf hP hD hS (lv_sub hl [0] rfl)
  · have hf := zf h_1 hf
    refine lv_aload_n hx hb dX4_give_8 rfl (lv_at hl 0 rfl) ?_
    refine gX4_own hx hb hts iw4 hown hK hP (List.mem_of_getElem? (i := 1) rfl) dX4_give_9 ?_
    refine lv_goto (tgt := 19) hx hb dX4_give_12 (by decide) ?_
    exact kX4_give_19 hC0 hQ hf hP hD hS (lv_sub hl [0] rfl)
theorem tX4_give {S : zS} {r : Int32 × zS} (hf : fX4_give S = some r) : zMi l yX4_give wsX4_give rmX4_give D (zT cI cZ) A (wX a cI) [.ref (a 0)] S r :=
  zMi_of (by decide) rfl rfl (Nat.le_of_ble_eq_true rfl) (fun hC0 hQ hP hD hS _ hl => kX4_give hC0 hQ hf hP hD hS hl)
abbrev rmX4_entry : Room := { frames := 2, cells := 0, slots := 0, locals := 44 }
theorem iwX4_entry_4 : ∀ w ∈ wsX40, w ∈ wsX4_entry := fun _ h => List.mem_cons_of_mem _ (List.mem_append_left _ (List.mem_append_left _ (List.mem_append_right _ h)))
theorem iwX4_entry_0 : ∀ w ∈ wsX00, w ∈ wsX4_entry := fun _ h => List.mem_cons_of_mem _ (List.mem_append_left _ (List.mem_append_right _ h))
theorem iwX4_entry_3 : ∀ w ∈ wsX30, w ∈ wsX4_entry := fun _ h => List.mem_cons_of_mem _ (List.mem_append_right _ h)
set_option maxHeartbeats 4000000 in
set_option maxRecDepth 100000 in
theorem kX4_entry {r : Int32 × zS} (hC0 : zC p m c cX4_entry 3 s args wsX4_entry RX4 D cI cZ) (hQ : zRi p l e rmX4_entry s m args below meth c cX4_entry D A (wX a cI) Q r) {S : zS} {x1 : Int32} {x2 : Int32} (hf : fX4_entry S x1 x2 = some r) {H : Heap} {locs : List Loc} (hP : va_P D vwCl (wX a cI S) H) (hD : va_D A (wX a cI S)) (hS : va_S A s.heap H locs) {ls : Array Slot} (hl : lv_has ls 3 [(0, .ref (a 0)), (1, .int x1), (2, .int x2)]) : W p l e rmX4_entry s m args below meth c H locs 0 0 Q (F0 m 0 ls []) := by
  obtain ⟨hC, hK, hN⟩ := id hC0
  obtain ⟨hx, hb, hml, hown, hts⟩ := id hC
  have iw4 := iwX4_entry_4
  have iw0 := iwX4_entry_0
  have iw3 := iwX4_entry_3
  unfold fX4_entry at hf
  refine lv_aload_n hx hb dX4_entry_0 rfl (lv_at hl 0 rfl) ?_
  refine gX4_entries hx hb hts iw4 hown hK hP (List.mem_of_getElem? (i := 1) rfl) dX4_entry_1 ?_
  refine lv_iload_n hx hb dX4_entry_4 rfl (lv_at hl 1 rfl) ?_
  obtain ⟨y_1, S_1, hg_1, hf⟩ := obnd_some hf
  refine zci (va_runVN (As := [.int x1]) (rest := []) hC (tX0_has hg_1) ⟨va_cnB 1 hts gX4_entry_X0_has_n115 rfl rfl rfl (hN _ zN15) (hts _ (List.mem_of_getElem? (i := 4) rfl)) (by decide +kernel) ⟨Nat.le_of_ble_eq_true rfl, Nat.le_of_ble_eq_true rfl⟩, hts _ (List.mem_of_getElem? (i := 3) rfl), hts _ (List.mem_of_getElem? (i := 5) rfl)⟩ (zpV hP hK hD hN (rX_6 hK hP)) rfl rfl hl.1 rfl (lv_room (Nat.le_of_ble_eq_true rfl)) dX4_entry_5 ⟨Nat.zero_le _, Nat.zero_le _⟩) hS (fun H locs hP hD hS => ?_)
  refine lv_if_ne (tgt := 14) hx hb dX4_entry_8 (by decide) (fun h_1 => ?_) (fun h_1 => ?_)
  · have hf := zf h_1 hf
    refine lv_iload_n hx hb dX4_entry_14 rfl (lv_at hl 2 rfl) ?_
    refine lv_iconst (v := (5 : Int32)) hx hb dX4_entry_15 (by decide) ?_
    refine lv_icmp_ne (tgt := 36) hx hb dX4_entry_16 (by decide) (fun h_2 => ?_) (fun h_2 => ?_)
    · have hf := zf h_2 hf
      refine lv_aload_n hx hb dX4_entry_36 rfl (lv_at hl 0 rfl) ?_
      refine gX4_entries hx hb hts iw4 hown hK hP (List.mem_of_getElem? (i := 1) rfl) dX4_entry_37 ?_
      refine lv_iload_n hx hb dX4_entry_40 rfl (lv_at hl 1 rfl) ?_
      refine lv_iload_n hx hb dX4_entry_41 rfl (lv_at hl 2 rfl) ?_
      obtain ⟨y_2, S_2, hg_2, hf⟩ := obnd_some hf
      refine zci (va_runVN (As := [.int x1, .int x2]) (rest := []) hC (tX0_tell hg_2) ⟨va_cnB 2 hts gX4_entry_X0_tell_n158 rfl rfl rfl (hN _ zN26) (hts _ (List.mem_of_getElem? (i := 4) rfl)) (by decide +kernel) ⟨Nat.le_of_ble_eq_true rfl, Nat.le_of_ble_eq_true rfl⟩, hts _ (List.mem_of_getElem? (i := 18) rfl), hts _ (List.mem_of_getElem? (i := 19) rfl)⟩ (zpV hP hK hD hN (rX_6 hK hP)) rfl rfl hl.1 rfl (lv_room (Nat.le_of_ble_eq_true rfl)) dX4_entry_42 ⟨Nat.zero_le _, Nat.zero_le _⟩) hS (fun H locs hP hD hS => ?_)
      exact zri hf hQ hP hD hS dX4_entry_45
    · have hf := zt h_2 hf
      refine lv_aload_n hx hb dX4_entry_19 rfl (lv_at hl 0 rfl) ?_
      refine gX4_routers hx hb hts iw4 hown hK hP (List.mem_of_getElem? (i := 2) rfl) dX4_entry_20 ?_
      refine lv_iload_n hx hb dX4_entry_23 rfl (lv_at hl 1 rfl) ?_
      obtain ⟨y_3, S_3, hg_3, hf⟩ := obnd_some hf
      refine zci (va_runVN (As := [.int x1]) (rest := []) hC (tX3_has hg_3) ⟨va_cnB 1 hts gX4_entry_X3_has_n154 rfl rfl rfl (hN _ zN24) (hts _ (List.mem_of_getElem? (i := 9) rfl)) (by decide +kernel) ⟨Nat.le_of_ble_eq_true rfl, Nat.le_of_ble_eq_true rfl⟩, hts _ (List.mem_of_getElem? (i := 8) rfl), hts _ (List.mem_of_getElem? (i := 10) rfl)⟩ (zpV hP hK hD hN (rX_14 hK hP)) rfl rfl hl.1 rfl (lv_room (Nat.le_of_ble_eq_true rfl)) dX4_entry_24 ⟨Nat.zero_le _, Nat.zero_le _⟩) hS (fun H locs hP hD hS => ?_)
      refine lv_if_eq (tgt := 34) hx hb dX4_entry_27 (by decide) (fun h_3 => ?_) (fun h_3 => ?_)
      · have hf := zt h_3 hf
        refine lv_iconst (v := (0 : Int32)) hx hb dX4_entry_34 (by decide) ?_
        exact zri hf hQ hP hD hS dX4_entry_35
      · have hf := zf h_3 hf
        refine lv_iconst (v := (1 : Int32)) hx hb dX4_entry_30 (by decide) ?_
        refine lv_goto (tgt := 35) hx hb dX4_entry_31 (by decide) ?_
        exact zri hf hQ hP hD hS dX4_entry_35
  · have hf := zt h_1 hf
    refine lv_bipush (v := (-101 : Int32)) hx hb dX4_entry_11 (by decide) ?_
    exact zri hf hQ hP hD hS dX4_entry_13
theorem tX4_entry {S : zS} {x1 : Int32} {x2 : Int32} {r : Int32 × zS} (hf : fX4_entry S x1 x2 = some r) : zMi l yX4_entry wsX4_entry rmX4_entry D (zT cI cZ) A (wX a cI) [.ref (a 0), .int x1, .int x2] S r :=
  zMi_of (by decide) rfl rfl (Nat.le_of_ble_eq_true rfl) (fun hC0 hQ hP hD hS _ hl => kX4_entry hC0 hQ hf hP hD hS hl)
abbrev rmX4_held : Room := { frames := 3, cells := 0, slots := 0, locals := 64 }
theorem iwX4_held_4 : ∀ w ∈ wsX40, w ∈ wsX4_held := fun _ h => List.mem_cons_of_mem _ (List.mem_append_left _ (List.mem_append_right _ h))
theorem iwX4_held_0 : ∀ w ∈ wsX00, w ∈ wsX4_held := fun _ h => List.mem_cons_of_mem _ (List.mem_append_right _ h)
set_option maxHeartbeats 4000000 in
set_option maxRecDepth 100000 in
theorem kX4_held {r : Int32 × zS} (hC0 : zC p m c cX4_held 3 s args wsX4_held RX4 D cI cZ) (hQ : zRi p l e rmX4_held s m args below meth c cX4_held D A (wX a cI) Q r) {S : zS} {x1 : Int32} {x2 : Int32} (hf : fX4_held S x1 x2 = some r) {H : Heap} {locs : List Loc} (hP : va_P D vwCl (wX a cI S) H) (hD : va_D A (wX a cI S)) (hS : va_S A s.heap H locs) {ls : Array Slot} (hl : lv_has ls 3 [(0, .ref (a 0)), (1, .int x1), (2, .int x2)]) : W p l e rmX4_held s m args below meth c H locs 0 0 Q (F0 m 0 ls []) := by
  obtain ⟨hC, hK, hN⟩ := id hC0
  obtain ⟨hx, hb, hml, hown, hts⟩ := id hC
  have iw4 := iwX4_held_4
  have iw0 := iwX4_held_0
  unfold fX4_held at hf
  refine lv_aload_n hx hb dX4_held_0 rfl (lv_at hl 0 rfl) ?_
  refine gX4_entries hx hb hts iw4 hown hK hP (List.mem_of_getElem? (i := 1) rfl) dX4_held_1 ?_
  refine lv_iload_n hx hb dX4_held_4 rfl (lv_at hl 1 rfl) ?_
  refine lv_iload_n hx hb dX4_held_5 rfl (lv_at hl 2 rfl) ?_
  obtain ⟨y_1, S_1, hg_1, hf⟩ := obnd_some hf
  refine zci (va_runVN (As := [.int x1, .int x2]) (rest := []) hC (tX0_letterAt hg_1) ⟨va_cnB 2 hts gX4_held_X0_letterAt_n161 rfl rfl rfl (hN _ zN27) (hts _ (List.mem_of_getElem? (i := 3) rfl)) (by decide +kernel) ⟨Nat.le_of_ble_eq_true rfl, Nat.le_of_ble_eq_true rfl⟩, hts _ (List.mem_of_getElem? (i := 2) rfl), hts _ (List.mem_of_getElem? (i := 4) rfl)⟩ (zpV hP hK hD hN (rX_6 hK hP)) rfl rfl hl.1 rfl (lv_room (Nat.le_of_ble_eq_true rfl)) dX4_held_6 ⟨Nat.zero_le _, Nat.zero_le _⟩) hS (fun H locs hP hD hS => ?_)
  exact zri hf hQ hP hD hS dX4_held_9
theorem tX4_held {S : zS} {x1 : Int32} {x2 : Int32} {r : Int32 × zS} (hf : fX4_held S x1 x2 = some r) : zMi l yX4_held wsX4_held rmX4_held D (zT cI cZ) A (wX a cI) [.ref (a 0), .int x1, .int x2] S r :=
  zMi_of (by decide) rfl rfl (Nat.le_of_ble_eq_true rfl) (fun hC0 hQ hP hD hS _ hl => kX4_held hC0 hQ hf hP hD hS hl)
abbrev rmX4_router : Room := { frames := 3, cells := 0, slots := 0, locals := 70 }
theorem iwX4_router_4 : ∀ w ∈ wsX40, w ∈ wsX4_router := fun _ h => List.mem_cons_of_mem _ (List.mem_append_left _ (List.mem_append_left _ (List.mem_append_right _ h)))
theorem iwX4_router_3 : ∀ w ∈ wsX30, w ∈ wsX4_router := fun _ h => List.mem_cons_of_mem _ (List.mem_append_left _ (List.mem_append_right _ h))
theorem iwX4_router_0 : ∀ w ∈ wsX00, w ∈ wsX4_router := fun _ h => List.mem_cons_of_mem _ (List.mem_append_right _ h)
set_option maxHeartbeats 4000000 in
set_option maxRecDepth 100000 in
theorem kX4_router {r : Int32 × zS} (hC0 : zC p m c cX4_router 4 s args wsX4_router RX4 D cI cZ) (hQ : zRi p l e rmX4_router s m args below meth c cX4_router D A (wX a cI) Q r) {S : zS} {x1 : Int32} {x2 : Int32} (hf : fX4_router S x1 x2 = some r) {H : Heap} {locs : List Loc} (hP : va_P D vwCl (wX a cI S) H) (hD : va_D A (wX a cI S)) (hS : va_S A s.heap H locs) {ls : Array Slot} (hl : lv_has ls 4 [(0, .ref (a 0)), (1, .int x1), (2, .int x2)]) : W p l e rmX4_router s m args below meth c H locs 0 0 Q (F0 m 0 ls []) := by
  obtain ⟨hC, hK, hN⟩ := id hC0
  obtain ⟨hx, hb, hml, hown, hts⟩ := id hC
  have iw4 := iwX4_router_4
  have iw3 := iwX4_router_3
  have iw0 := iwX4_router_0
  unfold fX4_router at hf
  refine lv_aload_n hx hb dX4_router_0 rfl (lv_at hl 0 rfl) ?_
  refine gX4_routers hx hb hts iw4 hown hK hP (List.mem_of_getElem? (i := 1) rfl) dX4_router_1 ?_
  refine lv_iload_n hx hb dX4_router_4 rfl (lv_at hl 1 rfl) ?_
  refine lv_aload_n hx hb dX4_router_5 rfl (lv_at hl 0 rfl) ?_
  refine gX4_entries hx hb hts iw4 hown hK hP (List.mem_of_getElem? (i := 2) rfl) dX4_router_6 ?_
  obtain ⟨y_1, S_1, hg_1, hf⟩ := obnd_some hf
  refine zci (va_runVN (As := [.int x1, .ref (a 6)]) (rest := []) hC (tX3_slotInOrder hg_1) ⟨va_cnB 2 hts gX4_router_X3_slotInOrder_n164 rfl rfl rfl (hN _ zN28) (hts _ (List.mem_of_getElem? (i := 4) rfl)) (by decide +kernel) ⟨Nat.le_of_ble_eq_true rfl, Nat.le_of_ble_eq_true rfl⟩, hts _ (List.mem_of_getElem? (i := 3) rfl), hts _ (List.mem_of_getElem? (i := 5) rfl)⟩ (zpV hP hK hD hN (rX_14 hK hP)) rfl rfl hl.1 rfl (lv_room (Nat.le_of_ble_eq_true rfl)) dX4_router_9 ⟨Nat.zero_le _, Nat.zero_le _⟩) hS (fun H locs hP hD hS => ?_)
  refine z_istore_n hf hx hb (fun y => [(3, .int y), (0, .ref (a 0)), (1, .int x1), (2, .int x2)]) dX4_router_12 rfl hl (by decide) (fun _ => rfl) (fun y_2 ls hf hl => ?_)
  refine lv_iload_n hx hb dX4_router_13 rfl (lv_at hl 0 rfl) ?_
  refine lv_iconst (v := (-1 : Int32)) hx hb dX4_router_14 (by decide) ?_
  refine lv_icmp_ne (tgt := 21) hx hb dX4_router_15 (by decide) (fun h_1 => ?_) (fun h_1 => ?_)
  · have hf := zf h_1 hf
    refine lv_iload_n hx hb dX4_router_21 rfl (lv_at hl 3 rfl) ?_
    refine lv_iconst (v := (3 : Int32)) hx hb dX4_router_22 (by decide) ?_
    refine lv_icmp_ne (tgt := 47) hx hb dX4_router_23 (by decide) (fun h_2 => ?_) (fun h_2 => ?_)
    · have hf := zf h_2 hf
      refine lv_aload_n hx hb dX4_router_47 rfl (lv_at hl 1 rfl) ?_
      refine gX4_routers hx hb hts iw4 hown hK hP (List.mem_of_getElem? (i := 1) rfl) dX4_router_48 ?_
      refine lv_iload_n hx hb dX4_router_51 rfl (lv_at hl 0 rfl) ?_
      refine lv_iload_n hx hb dX4_router_52 rfl (lv_at hl 3 rfl) ?_
      obtain ⟨y_3, S_2, hg_2, hf⟩ := obnd_some hf
      refine zci (va_runVN (As := [.int y_2, .int x2]) (rest := []) hC (tX3_tell hg_2) ⟨va_cnB 2 hts gX4_router_X3_tell_n172 rfl rfl rfl (hN _ zN30) (hts _ (List.mem_of_getElem? (i := 4) rfl)) (by decide +kernel) ⟨Nat.le_of_ble_eq_true rfl, Nat.le_of_ble_eq_true rfl⟩, hts _ (List.mem_of_getElem? (i := 22) rfl), hts _ (List.mem_of_getElem? (i := 23) rfl)⟩ (zpV hP hK hD hN (rX_14 hK hP)) rfl rfl hl.1 rfl (lv_room (Nat.le_of_ble_eq_true rfl)) dX4_router_53 ⟨Nat.zero_le _, Nat.zero_le _⟩) hS (fun H locs hP hD hS => ?_)
      exact zri hf hQ hP hD hS dX4_router_56
    · have hf := zt h_2 hf
      refine lv_aload_n hx hb dX4_router_26 rfl (lv_at hl 1 rfl) ?_
      refine gX4_routers hx hb hts iw4 hown hK hP (List.mem_of_getElem? (i := 1) rfl) dX4_router_27 ?_
      refine lv_iload_n hx hb dX4_router_30 rfl (lv_at hl 0 rfl) ?_
      refine lv_aload_n hx hb dX4_router_31 rfl (lv_at hl 1 rfl) ?_
      refine gX4_entries hx hb hts iw4 hown hK hP (List.mem_of_getElem? (i := 2) rfl) dX4_router_32 ?_
      obtain ⟨y_4, S_3, hg_3, hf⟩ := obnd_some hf
      refine zci (va_runVN (As := [.int y_2, .ref (a 6)]) (rest := []) hC (tX3_isGood hg_3) ⟨va_cnB 2 hts gX4_router_X3_isGood_n168 rfl rfl rfl (hN _ zN29) (hts _ (List.mem_of_getElem? (i := 4) rfl)) (by decide +kernel) ⟨Nat.le_of_ble_eq_true rfl, Nat.le_of_ble_eq_true rfl⟩, hts _ (List.mem_of_getElem? (i := 19) rfl), hts _ (List.mem_of_getElem? (i := 20) rfl)⟩ (zpV hP hK hD hN (rX_14 hK hP)) rfl rfl hl.1 rfl (lv_room (Nat.le_of_ble_eq_true rfl)) dX4_router_35 ⟨Nat.zero_le _, Nat.zero_le _⟩) hS (fun H locs hP hD hS => ?_)
      refine lv_if_eq (tgt := 45) hx hb dX4_router_38 (by decide) (fun h_3 => ?_) (fun h_3 => ?_)
      · have hf := zt h_3 hf
        refine lv_iconst (v := (0 : Int32)) hx hb dX4_router_45 (by decide) ?_
        exact zri hf hQ hP hD hS dX4_router_46
      · have hf := zf h_3 hf
        refine lv_iconst (v := (1 : Int32)) hx hb dX4_router_41 (by decide) ?_
        refine lv_goto (tgt := 46) hx hb dX4_router_42 (by decide) ?_
        exact zri hf hQ hP hD hS dX4_router_46
  · have hf := zt h_1 hf
    refine lv_bipush (v := (-101 : Int32)) hx hb dX4_router_18 (by decide) ?_
    exact zri hf hQ hP hD hS dX4_router_20
theorem tX4_router {S : zS} {x1 : Int32} {x2 : Int32} {r : Int32 × zS} (hf : fX4_router S x1 x2 = some r) : zMi l yX4_router wsX4_router rmX4_router D (zT cI cZ) A (wX a cI) [.ref (a 0), .int x1, .int x2] S r :=
  zMi_of (by decide) rfl rfl (Nat.le_of_ble_eq_true rfl) (fun hC0 hQ hP hD hS _ hl => kX4_router hC0 hQ hf hP hD hS hl)
end KX5
