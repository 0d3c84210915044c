section KX2
variable {p : Program} {l : Launch} {e : Env} {s : State} {m : MethodId} {args : Array Value} {below : List Frame} {meth : Method} {c : Code} {Q : State → Prop} {D : va_G} {a : Nat → Nat} {cI cZ : ClassId} {A : Nat → Prop}
abbrev rmX0_letterGoesOut : Room := { frames := 1, cells := 0, slots := 0, locals := 26 }
theorem iwX0_letterGoesOut_0 : ∀ w ∈ wsX00, w ∈ wsX0_letterGoesOut := fun _ h => List.mem_cons_of_mem _ (List.mem_append_left _ (List.mem_append_right _ h))
theorem iwX0_letterGoesOut_2 : ∀ w ∈ wsX20, w ∈ wsX0_letterGoesOut := fun _ h => List.mem_cons_of_mem _ (List.mem_append_right _ h)
set_option maxHeartbeats 4000000 in
set_option maxRecDepth 100000 in
theorem kX0_letterGoesOut {r : zS} (hC0 : zC p m c cX0_letterGoesOut 4 s args wsX0_letterGoesOut RX0 D cI cZ) (hQ : zRv p l e rmX0_letterGoesOut s m args below meth c cX0_letterGoesOut D A (wX a cI) Q r) {S : zS} {x1 : Int32} {x2 : Int32} {x3 : Int32} (hf : fX0_letterGoesOut S x1 x2 x3 = some r) {H : Heap} {locs : List Loc} (hP : va_P D vwCl (wX a cI S) H) (hD : va_D A (wX a cI S)) (hS : va_S A s.heap H locs) {ls : Array Slot} (hl : lv_has ls 4 [(0, .ref (a 6)), (1, .int x1), (2, .int x2), (3, .int x3)]) : W p l e rmX0_letterGoesOut s m args below meth c H locs 0 0 Q (F0 m 0 ls []) := by
  obtain ⟨hC, hK, hN⟩ := id hC0
  obtain ⟨hx, hb, hml, hown, hts⟩ := id hC
  have iw0 := iwX0_letterGoesOut_0
  have iw2 := iwX0_letterGoesOut_2
  unfold fX0_letterGoesOut at hf
  refine lv_aload_n hx hb dX0_letterGoesOut_0 rfl (lv_at hl 0 rfl) ?_
  refine gX0_outbox hx hb hts iw0 hown hK hP (List.mem_of_getElem? (i := 1) rfl) dX0_letterGoesOut_1 ?_
  refine lv_iconst (v := (0 : Int32)) hx hb dX0_letterGoesOut_4 (by decide) ?_
  refine lv_iload_n hx hb dX0_letterGoesOut_5 rfl (lv_at hl 1 rfl) ?_
  refine lv_aload_n hx hb dX0_letterGoesOut_6 rfl (lv_at hl 0 rfl) ?_
  refine gX0_marks hx hb hts iw0 hown hK hP (List.mem_of_getElem? (i := 2) rfl) dX0_letterGoesOut_7 ?_
  refine lv_iload_n hx hb dX0_letterGoesOut_10 rfl (lv_at hl 1 rfl) ?_
  refine lX0_marks hf hx hb hK hP dX0_letterGoesOut_11 (fun hf => ?_)
  refine lv_iload_n hx hb dX0_letterGoesOut_12 rfl (lv_at hl 2 rfl) ?_
  refine lv_iload_n hx hb dX0_letterGoesOut_13 rfl (lv_at hl 3 rfl) ?_
  obtain ⟨S_1, hg_1, hf⟩ := obnv_some hf
  refine zcv (va_runVN (As := [.int (0 : Int32), .int x1, .int (S.2.1 4 (x1).toNatClampNeg), .int x2, .int x3]) (rest := []) hC (tX2_add hg_1) ⟨va_cnB 5 hts gX0_letterGoesOut_X2_add_n95 rfl rfl rfl (hN _ zN6) (hts _ (List.mem_of_getElem? (i := 4) rfl)) (by decide +kernel) ⟨Nat.le_of_ble_eq_true rfl, Nat.le_of_ble_eq_true rfl⟩, hts _ (List.mem_of_getElem? (i := 3) rfl), hts _ (List.mem_of_getElem? (i := 5) rfl)⟩ (zpV hP hK hD hN (rX_1 hK hP)) rfl rfl hl.1 rfl (lv_room (Nat.le_of_ble_eq_true rfl)) dX0_letterGoesOut_14 ⟨Nat.zero_le _, Nat.zero_le _⟩) hS (fun H locs hP hD hS => ?_)
  exact zrv hf hQ hP hD hS dX0_letterGoesOut_17
theorem tX0_letterGoesOut {S : zS} {x1 : Int32} {x2 : Int32} {x3 : Int32} {r : zS} (hf : fX0_letterGoesOut S x1 x2 x3 = some r) : zMv l yX0_letterGoesOut wsX0_letterGoesOut rmX0_letterGoesOut D (zT cI cZ) A (wX a cI) [.ref (a 6), .int x1, .int x2, .int x3] S r :=
  zMv_of (by decide) rfl rfl (Nat.le_of_ble_eq_true rfl) (fun hC0 hQ hP hD hS _ hl => kX0_letterGoesOut hC0 hQ hf hP hD hS hl)
abbrev rmX0_takeLetter : Room := { frames := 4, cells := 0, slots := 0, locals := 89 }
theorem iwX0_takeLetter_0 : ∀ w ∈ wsX00, w ∈ wsX0_takeLetter := fun _ h => List.mem_cons_of_mem _ (List.mem_append_left _ (List.mem_append_left _ (List.mem_append_right _ h)))
theorem iwX0_takeLetter_1 : ∀ w ∈ wsX10, w ∈ wsX0_takeLetter := fun _ h => List.mem_cons_of_mem _ (List.mem_append_left _ (List.mem_append_right _ h))
theorem iwX0_takeLetter_2 : ∀ w ∈ wsX20, w ∈ wsX0_takeLetter := fun _ h => List.mem_cons_of_mem _ (List.mem_append_right _ h)
set_option maxHeartbeats 4000000 in
set_option maxRecDepth 100000 in
theorem kX0_takeLetter_32 {r : Int32 × zS} (hC0 : zC p m c cX0_takeLetter 4 s args wsX0_takeLetter RX0 D cI cZ) (hQ : zRi p l e rmX0_takeLetter s m args below meth c cX0_takeLetter D A (wX a cI) Q r) {S : zS} {x1 : Int32} {x2 : Int32} {x3 : Int32} (hf : fX0_takeLetter_32 S x1 x2 x3 = some r) {H : Heap} {locs : List Loc} (hP : va_P D vwCl (wX a cI S) H) (hD : va_D A (wX a cI S)) (hS : va_S A s.heap H locs) {ls : Array Slot} (hl : lv_has ls 4 [(0, .ref (a 6)), (1, .int x1), (2, .int x2), (3, .int x3)]) : W p l e rmX0_takeLetter s m args below meth c H locs 0 0 Q (F0 m 32 ls []) := by
  obtain ⟨hC, hK, hN⟩ := id hC0
  obtain ⟨hx, hb, hml, hown, hts⟩ := id hC
  have iw0 := iwX0_takeLetter_0
  have iw1 := iwX0_takeLetter_1
  have iw2 := iwX0_takeLetter_2
  unfold fX0_takeLetter_32 at hf
  refine lv_aload_n hx hb dX0_takeLetter_32 rfl (lv_at hl 0 rfl) ?_
  refine gX0_used hx hb hts iw0 hown hK hP (List.mem_of_getElem? (i := 1) rfl) dX0_takeLetter_33 ?_
  refine lv_iload_n hx hb dX0_takeLetter_36 rfl (lv_at hl 1 rfl) ?_
  refine lv_iload_n hx hb dX0_takeLetter_37 rfl (lv_at hl 3 rfl) ?_
  refine sX0_used hf hx hb hK hP hD hS dX0_takeLetter_38 (fun S_1 H locs hf hP hD hS => ?_)
  refine lv_aload_n hx hb dX0_takeLetter_39 rfl (lv_at hl 0 rfl) ?_
  refine gX0_states hx hb hts iw0 hown hK hP (List.mem_of_getElem? (i := 2) rfl) dX0_takeLetter_40 ?_
  refine lv_iload_n hx hb dX0_takeLetter_43 rfl (lv_at hl 1 rfl) ?_
  refine lX0_states hf hx hb hK hP dX0_takeLetter_44 (fun hf => ?_)
  refine lv_if_ne (tgt := 55) hx hb dX0_takeLetter_45 (by decide) (fun h_1 => ?_) (fun h_1 => ?_)
  · have hf := zf h_1 hf
    refine lv_aload_n hx hb dX0_takeLetter_55 rfl (lv_at hl 0 rfl) ?_
    refine lv_iload_n hx hb dX0_takeLetter_56 rfl (lv_at hl 1 rfl) ?_
    refine lv_iload_n hx hb dX0_takeLetter_57 rfl (lv_at hl 2 rfl) ?_
    refine lv_iload_n hx hb dX0_takeLetter_58 rfl (lv_at hl 3 rfl) ?_
    obtain ⟨S_2, hg_1, hf⟩ := obnv_some hf
    refine zcv (va_runV (As := [.int x1, .int x2, .int x3]) (rest := []) hC (tX0_letterGoesOut hg_1) (cwV 3 hts gX0_takeLetter_X0_letterGoesOut rfl rfl rfl (by decide +kernel) ⟨Nat.le_of_ble_eq_true rfl, Nat.le_of_ble_eq_true rfl⟩) (zpV hP hK hD hN (rX_6 hK hP)) rfl rfl hl.1 rfl (lv_room (Nat.le_of_ble_eq_true rfl)) dX0_takeLetter_59 ⟨Nat.zero_le _, Nat.zero_le _⟩) hS (fun H locs hP hD hS => ?_)
    refine lv_aload_n hx hb dX0_takeLetter_62 rfl (lv_at hl 0 rfl) ?_
    refine gX0_states hx hb hts iw0 hown hK hP (List.mem_of_getElem? (i := 2) rfl) dX0_takeLetter_63 ?_
    refine lv_iload_n hx hb dX0_takeLetter_66 rfl (lv_at hl 1 rfl) ?_
    refine lX0_states hf hx hb hK hP dX0_takeLetter_67 (fun hf => ?_)
    refine lv_iconst (v := (2 : Int32)) hx hb dX0_takeLetter_68 (by decide) ?_
    refine lv_icmp_ne (tgt := 81) hx hb dX0_takeLetter_69 (by decide) (fun h_2 => ?_) (fun h_2 => ?_)
    · have hf := zf h_2 hf
      refine lv_iconst (v := (0 : Int32)) hx hb dX0_takeLetter_81 (by decide) ?_
      exact zri hf hQ hP hD hS dX0_takeLetter_82
    · have hf := zt h_2 hf
      refine lv_aload_n hx hb dX0_takeLetter_72 rfl (lv_at hl 0 rfl) ?_
      refine lv_iload_n hx hb dX0_takeLetter_73 rfl (lv_at hl 1 rfl) ?_
      refine lv_iconst (v := (3 : Int32)) hx hb dX0_takeLetter_74 (by decide) ?_
      refine lv_iload_n hx hb dX0_takeLetter_75 rfl (lv_at hl 3 rfl) ?_
      refine lv_iconst (v := (5 : Int32)) hx hb dX0_takeLetter_76 (by decide) ?_
      refine lv_iadd hx hb dX0_takeLetter_77 ?_
      obtain ⟨S_3, hg_2, hf⟩ := obnv_some hf
      refine zcv (va_runV (As := [.int x1, .int (3 : Int32), .int (x3 + (5 : Int32))]) (rest := []) hC (tX0_become hg_2) (cwV 3 hts gX0_takeLetter_X0_become rfl rfl rfl (by decide +kernel) ⟨Nat.le_of_ble_eq_true rfl, Nat.le_of_ble_eq_true rfl⟩) (zpV hP hK hD hN (rX_6 hK hP)) rfl rfl hl.1 rfl (lv_room (Nat.le_of_ble_eq_true rfl)) dX0_takeLetter_78 ⟨Nat.zero_le _, Nat.zero_le _⟩) hS (fun H locs hP hD hS => ?_)
      refine lv_iconst (v := (0 : Int32)) hx hb dX0_takeLetter_81 (by decide) ?_
      exact zri hf hQ hP hD hS dX0_takeLetter_82
  · have hf := zt h_1 hf
    refine lv_aload_n hx hb dX0_takeLetter_48 rfl (lv_at hl 0 rfl) ?_
    refine lv_iload_n hx hb dX0_takeLetter_49 rfl (lv_at hl 1 rfl) ?_
    refine lv_iload_n hx hb dX0_takeLetter_50 rfl (lv_at hl 2 rfl) ?_
    obtain ⟨y_1, S_4, hg_3, hf⟩ := obnd_some hf
    refine zci (va_runV (As := [.int x1, .int x2]) (rest := []) hC (tX0_hold hg_3) (cwV 2 hts gX0_takeLetter_X0_hold rfl rfl rfl (by decide +kernel) ⟨Nat.le_of_ble_eq_true rfl, Nat.le_of_ble_eq_true rfl⟩) (zpV hP hK hD hN (rX_6 hK hP)) rfl rfl hl.1 rfl (lv_room (Nat.le_of_ble_eq_true rfl)) dX0_takeLetter_51 ⟨Nat.zero_le _, Nat.zero_le _⟩) hS (fun H locs hP hD hS => ?_)
    exact zri hf hQ hP hD hS dX0_takeLetter_54
set_option maxHeartbeats 4000000 in
set_option maxRecDepth 100000 in
theorem kX0_takeLetter {r : Int32 × zS} (hC0 : zC p m c cX0_takeLetter 4 s args wsX0_takeLetter RX0 D cI cZ) (hQ : zRi p l e rmX0_takeLetter s m args below meth c cX0_takeLetter D A (wX a cI) Q r) {S : zS} {x1 : Int32} {x2 : Int32} {x3 : Int32} (hf : fX0_takeLetter S x1 x2 x3 = some r) {H : Heap} {locs : List Loc} (hP : va_P D vwCl (wX a cI S) H) (hD : va_D A (wX a cI S)) (hS : va_S A s.heap H locs) {ls : Array Slot} (hl : lv_has ls 4 [(0, .ref (a 6)), (1, .int x1), (2, .int x2), (3, .int x3)]) : W p l e rmX0_takeLetter s m args below meth c H locs 0 0 Q (F0 m 0 ls []) := by
  obtain ⟨hC, hK, hN⟩ := id hC0
  obtain ⟨hx, hb, hml, hown, hts⟩ := id hC
  have iw0 := iwX0_takeLetter_0
  have iw1 := iwX0_takeLetter_1
  have iw2 := iwX0_takeLetter_2
  unfold fX0_takeLetter at hf
  refine lv_aload_n hx hb dX0_takeLetter_0 rfl (lv_at hl 0 rfl) ?_
  refine lv_iload_n hx hb dX0_takeLetter_1 rfl (lv_at hl 1 rfl) ?_
  obtain ⟨y_1, S_1, hg_1, hf⟩ := obnd_some hf
  refine zci (va_runV (As := [.int x1]) (rest := []) hC (tX0_has hg_1) (cwV 1 hts gX0_takeLetter_X0_has rfl rfl rfl (by decide +kernel) ⟨Nat.le_of_ble_eq_true rfl, Nat.le_of_ble_eq_true rfl⟩) (zpV hP hK hD hN (rX_6 hK hP)) rfl rfl hl.1 rfl (lv_room (Nat.le_of_ble_eq_true rfl)) dX0_takeLetter_2 ⟨Nat.zero_le _, Nat.zero_le _⟩) hS (fun H locs hP hD hS => ?_)
  refine lv_if_ne (tgt := 32) hx hb dX0_takeLetter_5 (by decide) (fun h_1 => ?_) (fun h_1 => ?_)
  · have hf := zf h_1 hf
    exact kX0_takeLetter_32 hC0 hQ hf hP hD hS (lv_sub hl [0, 1, 2, 3] rfl)
  · have hf := zt h_1 hf
    refine lv_aload_n hx hb dX0_takeLetter_8 rfl (lv_at hl 0 rfl) ?_
    obtain ⟨y_2, S_2, hg_2, hf⟩ := obnd_some hf
    refine zci (va_runV (As := []) (rest := []) hC (tX0_hasRoom hg_2) (cwV 0 hts gX0_takeLetter_X0_hasRoom rfl rfl rfl (by decide +kernel) ⟨Nat.le_of_ble_eq_true rfl, Nat.le_of_ble_eq_true rfl⟩) (zpV hP hK hD hN (rX_6 hK hP)) rfl rfl hl.1 rfl (lv_room (Nat.le_of_ble_eq_true rfl)) dX0_takeLetter_9 ⟨Nat.zero_le _, Nat.zero_le _⟩) hS (fun H locs hP hD hS => ?_)
    refine lv_if_ne (tgt := 18) hx hb dX0_takeLetter_12 (by decide) (fun h_2 => ?_) (fun h_2 => ?_)
    · have hf := zf h_2 hf
      refine lv_aload_n hx hb dX0_takeLetter_18 rfl (lv_at hl 0 rfl) ?_
      refine lv_iload_n hx hb dX0_takeLetter_19 rfl (lv_at hl 1 rfl) ?_
      refine lv_iconst (v := (0 : Int32)) hx hb dX0_takeLetter_20 (by decide) ?_
      refine lv_iconst (v := (0 : Int32)) hx hb dX0_takeLetter_21 (by decide) ?_
      refine lv_iload_n hx hb dX0_takeLetter_22 rfl (lv_at hl 3 rfl) ?_
      obtain ⟨S_3, hg_3, hf⟩ := obnv_some hf
      refine zcv (va_runV (As := [.int x1, .int (0 : Int32), .int (0 : Int32), .int x3]) (rest := []) hC (tX0_come hg_3) (cwV 4 hts gX0_takeLetter_X0_come rfl rfl rfl (by decide +kernel) ⟨Nat.le_of_ble_eq_true rfl, Nat.le_of_ble_eq_true rfl⟩) (zpV hP hK hD hN (rX_6 hK hP)) rfl rfl hl.1 rfl (lv_room (Nat.le_of_ble_eq_true rfl)) dX0_takeLetter_23 ⟨Nat.zero_le _, Nat.zero_le _⟩) hS (fun H locs hP hD hS => ?_)
      refine lv_aload_n hx hb dX0_takeLetter_26 rfl (lv_at hl 0 rfl) ?_
      refine lv_iload_n hx hb dX0_takeLetter_27 rfl (lv_at hl 1 rfl) ?_
      refine lv_iload_n hx hb dX0_takeLetter_28 rfl (lv_at hl 3 rfl) ?_
      obtain ⟨S_4, hg_4, hf⟩ := obnv_some hf
      refine zcv (va_runV (As := [.int x1, .int x3]) (rest := []) hC (tX0_ask hg_4) (cwV 2 hts gX0_takeLetter_X0_ask rfl rfl rfl (by decide +kernel) ⟨Nat.le_of_ble_eq_true rfl, Nat.le_of_ble_eq_true rfl⟩) (zpV hP hK hD hN (rX_6 hK hP)) rfl rfl hl.1 rfl (lv_room (Nat.le_of_ble_eq_true rfl)) dX0_takeLetter_29 ⟨Nat.zero_le _, Nat.zero_le _⟩) hS (fun H locs hP hD hS => ?_)
      exact kX0_takeLetter_32 hC0 hQ hf hP hD hS (lv_sub hl [0, 1, 2, 3] rfl)
    · have hf := zt h_2 hf
      refine lv_bipush (v := (-104 : Int32)) hx hb dX0_takeLetter_15 (by decide) ?_
      exact zri hf hQ hP hD hS dX0_takeLetter_17
theorem tX0_takeLetter {S : zS} {x1 : Int32} {x2 : Int32} {x3 : Int32} {r : Int32 × zS} (hf : fX0_takeLetter S x1 x2 x3 = some r) : zMi l yX0_takeLetter wsX0_takeLetter rmX0_takeLetter D (zT cI cZ) A (wX a cI) [.ref (a 6), .int x1, .int x2, .int x3] S r :=
  zMi_of (by decide) rfl rfl (Nat.le_of_ble_eq_true rfl) (fun hC0 hQ hP hD hS _ hl => kX0_takeLetter hC0 hQ hf hP hD hS hl)
abbrev rmX0_heldGoOut : Room := { frames := 2, cells := 0, slots := 0, locals := 49 }
theorem iwX0_heldGoOut_0 : ∀ w ∈ wsX00, w ∈ wsX0_heldGoOut := fun _ h => List.mem_cons_of_mem _ (List.mem_append_left _ (List.mem_append_right _ h))
theorem iwX0_heldGoOut_2 : ∀ w ∈ wsX20, w ∈ wsX0_heldGoOut := fun _ h => List.mem_cons_of_mem _ (List.mem_append_right _ h)
set_option maxHeartbeats 4000000 in
set_option maxRecDepth 100000 in
theorem kX0_heldGoOut_7b {r : zS} (hC0 : zC p m c cX0_heldGoOut 5 s args wsX0_heldGoOut RX0 D cI cZ) (hQ : zRv p l e rmX0_heldGoOut s m args below meth c cX0_heldGoOut D A (wX a cI) Q r) {F7 : zS → Int32 → Int32 → Int32 → Int32 → Option (zS)} (hF7 : ∀ (S : zS) (x1 : Int32) (x2 : Int32) (x3 : Int32) (x4 : Int32), F7 S x1 x2 x3 x4 = some r → ∀ {H : Heap} {locs : List Loc}, va_P D vwCl (wX a cI S) H → va_D A (wX a cI S) → va_S A s.heap H locs → ∀ {ls : Array Slot}, lv_has ls 5 [(0, .ref (a 6)), (1, .int x1), (2, .int x2), (3, .int x3), (4, .int x4)] → W p l e rmX0_heldGoOut s m args below meth c H locs 0 0 Q (F0 m 7 ls [])) {S : zS} {x1 : Int32} {x2 : Int32} {x3 : Int32} {x4 : Int32} (hf : bX0_heldGoOut_7 F7 S x1 x2 x3 x4 = some r) {H : Heap} {locs : List Loc} (hP : va_P D vwCl (wX a cI S) H) (hD : va_D A (wX a cI S)) (hS : va_S A s.heap H locs) {ls : Array Slot} (hl : lv_has ls 5 [(0, .ref (a 6)), (1, .int x1), (2, .int x2), (3, .int x3), (4, .int x4)]) : W p l e rmX0_heldGoOut s m args below meth c H locs 0 0 Q (F0 m 7 ls []) := by
  obtain ⟨hC, hK, hN⟩ := id hC0
  obtain ⟨hx, hb, hml, hown, hts⟩ := id hC
  have iw0 := iwX0_heldGoOut_0
  have iw2 := iwX0_heldGoOut_2
  unfold bX0_heldGoOut_7 at hf
  refine lv_iload hx hb dX0_heldGoOut_7 (lv_at hl 4 rfl) ?_
  refine lv_aload_n hx hb dX0_heldGoOut_9 rfl (lv_at hl 0 rfl) ?_
  refine gX0_waiting hx hb hts iw0 hown hK hP (List.mem_of_getElem? (i := 1) rfl) dX0_heldGoOut_10 ?_
  refine lv_iload_n hx hb dX0_heldGoOut_13 rfl (lv_at hl 1 rfl) ?_
  refine lX0_waiting hf hx hb hK hP dX0_heldGoOut_14 (fun hf => ?_)
  refine lv_icmp_ge (tgt := 39) hx hb dX0_heldGoOut_15 (by decide) (fun h_1 => ?_) (fun h_1 => ?_)
  · have hf := zt h_1 hf
    refine lv_aload_n hx hb dX0_heldGoOut_39 rfl (lv_at hl 0 rfl) ?_
    refine gX0_waiting hx hb hts iw0 hown hK hP (List.mem_of_getElem? (i := 1) rfl) dX0_heldGoOut_40 ?_
    refine lv_iload_n hx hb dX0_heldGoOut_43 rfl (lv_at hl 1 rfl) ?_
    refine lv_iconst (v := (0 : Int32)) hx hb dX0_heldGoOut_44 (by decide) ?_
    refine sX0_waiting hf hx hb hK hP hD hS dX0_heldGoOut_45 (fun S_1 H locs hf hP hD hS => ?_)
    exact zrv hf hQ hP hD hS dX0_heldGoOut_46
  · have hf := zf h_1 hf
    refine lv_aload_n hx hb dX0_heldGoOut_18 rfl (lv_at hl 0 rfl) ?_
    refine lv_iload_n hx hb dX0_heldGoOut_19 rfl (lv_at hl 1 rfl) ?_
    refine lv_aload_n hx hb dX0_heldGoOut_20 rfl (lv_at hl 0 rfl) ?_
    refine gX0_letters hx hb hts iw0 hown hK hP (List.mem_of_getElem? (i := 2) rfl) dX0_heldGoOut_21 ?_
    refine lv_iload_n hx hb dX0_heldGoOut_24 rfl (lv_at hl 3 rfl) ?_
    refine lv_iload hx hb dX0_heldGoOut_25 (lv_at hl 4 rfl) ?_
    refine lv_iadd hx hb dX0_heldGoOut_27 ?_
    refine lX0_letters hf hx hb hK hP dX0_heldGoOut_28 (fun hf => ?_)
    refine lv_iload_n hx hb dX0_heldGoOut_29 rfl (lv_at hl 2 rfl) ?_
    obtain ⟨S_2, hg_1, hf⟩ := obnv_some hf
    refine zcv (va_runV (As := [.int x1, .int (S.2.1 9 ((x3 + x4)).toNatClampNeg), .int x2]) (rest := []) hC (tX0_letterGoesOut hg_1) (cwV 3 hts gX0_heldGoOut_X0_letterGoesOut rfl rfl rfl (by decide +kernel) ⟨Nat.le_of_ble_eq_true rfl, Nat.le_of_ble_eq_true rfl⟩) (zpV hP hK hD hN (rX_6 hK hP)) rfl rfl hl.1 rfl (lv_room (Nat.le_of_ble_eq_true rfl)) dX0_heldGoOut_30 ⟨Nat.zero_le _, Nat.zero_le _⟩) hS (fun H locs hP hD hS => ?_)
    refine z_iinc hf hx hb 4 (fun y => [(4, .int y), (0, .ref (a 6)), (1, .int x1), (2, .int x2), (3, .int x3)]) dX0_heldGoOut_33 hl rfl (by decide) (by decide) (fun _ => rfl) (fun y_1 ls hf hl => ?_)
    refine lv_goto (tgt := 7) hx hb dX0_heldGoOut_36 (by decide) ?_
    exact hF7 _ _ _ _ _ hf hP hD hS (lv_sub hl [1, 2, 3, 4, 0] rfl)
theorem kX0_heldGoOut_7 {r : zS} (hC0 : zC p m c cX0_heldGoOut 5 s args wsX0_heldGoOut RX0 D cI cZ) (hQ : zRv p l e rmX0_heldGoOut s m args below meth c cX0_heldGoOut D A (wX a cI) Q r) (n : Nat) : ∀ (S : zS) (x1 : Int32) (x2 : Int32) (x3 : Int32) (x4 : Int32), fX0_heldGoOut_7 n S x1 x2 x3 x4 = some r → ∀ {H : Heap} {locs : List Loc}, va_P D vwCl (wX a cI S) H → va_D A (wX a cI S) → va_S A s.heap H locs → ∀ {ls : Array Slot}, lv_has ls 5 [(0, .ref (a 6)), (1, .int x1), (2, .int x2), (3, .int x3), (4, .int x4)] → W p l e rmX0_heldGoOut s m args below meth c H locs 0 0 Q (F0 m 7 ls []) := by
  induction n with
  | zero => intro S x1 x2 x3 x4 hf; cases hf
  | succ n ih => intro S x1 x2 x3 x4 hf; exact kX0_heldGoOut_7b hC0 hQ ih hf
set_option maxHeartbeats 4000000 in
set_option maxRecDepth 100000 in
theorem kX0_heldGoOut {r : zS} (hC0 : zC p m c cX0_heldGoOut 5 s args wsX0_heldGoOut RX0 D cI cZ) (hQ : zRv p l e rmX0_heldGoOut s m args below meth c cX0_heldGoOut D A (wX a cI) Q r) {S : zS} {x1 : Int32} {x2 : Int32} (hf : fX0_heldGoOut S x1 x2 = some r) {H : Heap} {locs : List Loc} (hP : va_P D vwCl (wX a cI S) H) (hD : va_D A (wX a cI S)) (hS : va_S A s.heap H locs) {ls : Array Slot} (hl : lv_has ls 5 [(0, .ref (a 6)), (1, .int x1), (2, .int x2)]) : W p l e rmX0_heldGoOut s m args below meth c H locs 0 0 Q (F0 m 0 ls []) := by
  obtain ⟨hC, hK, hN⟩ := id hC0
  obtain ⟨hx, hb, hml, hown, hts⟩ := id hC
  have iw0 := iwX0_heldGoOut_0
  have iw2 := iwX0_heldGoOut_2
  unfold fX0_heldGoOut at hf
  refine lv_iload_n hx hb dX0_heldGoOut_0 rfl (lv_at hl 1 rfl) ?_
  refine lv_iconst (v := (3 : Int32)) hx hb dX0_heldGoOut_1 (by decide) ?_
  refine lv_imul hx hb dX0_heldGoOut_2 ?_
  refine z_istore_n hf hx hb (fun y => [(3, .int y), (0, .ref (a 6)), (1, .int x1), (2, .int x2)]) dX0_heldGoOut_3 rfl hl (by decide) (fun _ => rfl) (fun y_1 ls hf hl => ?_)
  refine lv_iconst (v := (0 : Int32)) hx hb dX0_heldGoOut_4 (by decide) ?_
  refine z_istore hf hx hb (fun y => [(4, .int y), (3, .int y_1), (0, .ref (a 6)), (1, .int x1), (2, .int x2)]) dX0_heldGoOut_5 hl (by decide) (fun _ => rfl) (fun y_2 ls hf hl => ?_)
  exact kX0_heldGoOut_7 hC0 hQ 64 _ _ _ _ _ hf hP hD hS (lv_sub hl [2, 3, 4, 1, 0] rfl)
theorem tX0_heldGoOut {S : zS} {x1 : Int32} {x2 : Int32} {r : zS} (hf : fX0_heldGoOut S x1 x2 = some r) : zMv l yX0_heldGoOut wsX0_heldGoOut rmX0_heldGoOut D (zT cI cZ) A (wX a cI) [.ref (a 6), .int x1, .int x2] S r :=
  zMv_of (by decide) rfl rfl (Nat.le_of_ble_eq_true rfl) (fun hC0 hQ hP hD hS _ hl => kX0_heldGoOut hC0 hQ hf hP hD hS hl)
abbrev rmX0_confirm : Room := { frames := 2, cells := 0, slots := 0, locals := 45 }
theorem iwX0_confirm_0 : ∀ w ∈ wsX00, w ∈ wsX0_confirm := fun _ h => List.mem_cons_of_mem _ (List.mem_append_right _ h)
set_option maxHeartbeats 4000000 in
set_option maxRecDepth 100000 in
theorem kX0_confirm_14 {r : Int32 × zS} (hC0 : zC p m c cX0_confirm 3 s args wsX0_confirm RX0 D cI cZ) (hQ : zRi p l e rmX0_confirm s m args below meth c cX0_confirm D A (wX a cI) Q r) {S : zS} {x1 : Int32} (hf : fX0_confirm_14 S x1 = some r) {H : Heap} {locs : List Loc} (hP : va_P D vwCl (wX a cI S) H) (hD : va_D A (wX a cI S)) (hS : va_S A s.heap H locs) {ls : Array Slot} (hl : lv_has ls 3 [(0, .ref (a 6)), (1, .int x1)]) : W p l e rmX0_confirm s m args below meth c H locs 0 0 Q (F0 m 14 ls []) := by
  obtain ⟨hC, hK, hN⟩ := id hC0
  obtain ⟨hx, hb, hml, hown, hts⟩ := id hC
  have iw0 := iwX0_confirm_0
  unfold fX0_confirm_14 at hf
  refine lv_aload_n hx hb dX0_confirm_14 rfl (lv_at hl 0 rfl) ?_
  refine lv_iload_n hx hb dX0_confirm_15 rfl (lv_at hl 1 rfl) ?_
  obtain ⟨y_1, S_1, hg_1, hf⟩ := obnd_some hf
  refine zci (va_runV (As := [.int x1]) (rest := []) hC (tX0_stateOf hg_1) (cwV 1 hts gX0_confirm_X0_stateOf rfl rfl rfl (by decide +kernel) ⟨Nat.le_of_ble_eq_true rfl, Nat.le_of_ble_eq_true rfl⟩) (zpV hP hK hD hN (rX_6 hK hP)) rfl rfl hl.1 rfl (lv_room (Nat.le_of_ble_eq_true rfl)) dX0_confirm_16 ⟨Nat.zero_le _, Nat.zero_le _⟩) hS (fun H locs hP hD hS => ?_)
  exact zri hf hQ hP hD hS dX0_confirm_19
set_option maxHeartbeats 4000000 in
set_option maxRecDepth 100000 in
theorem kX0_confirm {r : Int32 × zS} (hC0 : zC p m c cX0_confirm 3 s args wsX0_confirm RX0 D cI cZ) (hQ : zRi p l e rmX0_confirm s m args below meth c cX0_confirm D A (wX a cI) Q r) {S : zS} {x1 : Int32} {x2 : Int32} (hf : fX0_confirm S x1 x2 = some r) {H : Heap} {locs : List Loc} (hP : va_P D vwCl (wX a cI S) H) (hD : va_D A (wX a cI S)) (hS : va_S A s.heap H locs) {ls : Array Slot} (hl : lv_has ls 3 [(0, .ref (a 6)), (1, .int x1), (2, .int x2)]) : W p l e rmX0_confirm s m args below meth c H locs 0 0 Q (F0 m 0 ls []) := by
  obtain ⟨hC, hK, hN⟩ := id hC0
  obtain ⟨hx, hb, hml, hown, hts⟩ := id hC
  have iw0 := iwX0_confirm_0
  unfold fX0_confirm at hf
  refine lv_aload_n hx hb dX0_confirm_0 rfl (lv_at hl 0 rfl) ?_
  refine lv_iload_n hx hb dX0_confirm_1 rfl (lv_at hl 1 rfl) ?_
  obtain ⟨y_1, S_1, hg_1, hf⟩ := obnd_some hf
  refine zci (va_runV (As := [.int x1]) (rest := []) hC (tX0_hasMark hg_1) (cwV 1 hts gX0_confirm_X0_hasMark rfl rfl rfl (by decide +kernel) ⟨Nat.le_of_ble_eq_true rfl, Nat.le_of_ble_eq_true rfl⟩) (zpV hP hK hD hN (rX_6 hK hP)) rfl rfl hl.1 rfl (lv_room (Nat.le_of_ble_eq_true rfl)) dX0_confirm_2 ⟨Nat.zero_le _, Nat.zero_le _⟩) hS (fun H locs hP hD hS => ?_)
  refine lv_if_eq (tgt := 14) hx hb dX0_confirm_5 (by decide) (fun h_1 => ?_) (fun h_1 => ?_)
  · have hf := zt h_1 hf
    exact kX0_confirm_14 hC0 hQ hf hP hD hS (lv_sub hl [0, 1] rfl)
  · have hf := zf h_1 hf
    refine lv_aload_n hx hb dX0_confirm_8 rfl (lv_at hl 0 rfl) ?_
    refine lv_iload_n hx hb dX0_confirm_9 rfl (lv_at hl 1 rfl) ?_
    refine lv_iload_n hx hb dX0_confirm_10 rfl (lv_at hl 2 rfl) ?_
    obtain ⟨S_2, hg_2, hf⟩ := obnv_some hf
    refine zcv (va_runV (As := [.int x1, .int x2]) (rest := []) hC (tX0_becomeFresh hg_2) (cwV 2 hts gX0_confirm_X0_becomeFresh rfl rfl rfl (by decide +kernel) ⟨Nat.le_of_ble_eq_true rfl, Nat.le_of_ble_eq_true rfl⟩) (zpV hP hK hD hN (rX_6 hK hP)) rfl rfl hl.1 rfl (lv_room (Nat.le_of_ble_eq_true rfl)) dX0_confirm_11 ⟨Nat.zero_le _, Nat.zero_le _⟩) hS (fun H locs hP hD hS => ?_)
    exact kX0_confirm_14 hC0 hQ hf hP hD hS (lv_sub hl [0, 1] rfl)
theorem tX0_confirm {S : zS} {x1 : Int32} {x2 : Int32} {r : Int32 × zS} (hf : fX0_confirm S x1 x2 = some r) : zMi l yX0_confirm wsX0_confirm rmX0_confirm D (zT cI cZ) A (wX a cI) [.ref (a 6), .int x1, .int x2] S r :=
  zMi_of (by decide) rfl rfl (Nat.le_of_ble_eq_true rfl) (fun hC0 hQ hP hD hS _ hl => kX0_confirm hC0 hQ hf hP hD hS hl)
abbrev rmX0_endAsking : Room := { frames := 3, cells := 0, slots := 0, locals := 73 }
theorem iwX0_endAsking_0 : ∀ w ∈ wsX00, w ∈ wsX0_endAsking := fun _ h => List.mem_cons_of_mem _ (List.mem_append_left _ (List.mem_append_right _ h))
theorem iwX0_endAsking_2 : ∀ w ∈ wsX20, w ∈ wsX0_endAsking := fun _ h => List.mem_cons_of_mem _ (List.mem_append_right _ h)
set_option maxHeartbeats 4000000 in
set_option maxRecDepth 100000 in
theorem kX0_endAsking_26 {r : zS} (hC0 : zC p m c cX0_endAsking 5 s args wsX0_endAsking RX0 D cI cZ) (hQ : zRv p l e rmX0_endAsking s m args below meth c cX0_endAsking D A (wX a cI) Q r) {S : zS} {x1 : Int32} {x4 : Int32} (hf : fX0_endAsking_26 S x1 x4 = some r) {H : Heap} {locs : List Loc} (hP : va_P D vwCl (wX a cI S) H) (hD : va_D A (wX a cI S)) (hS : va_S A s.heap H locs) {ls : Array Slot} (hl : lv_has ls 5 [(0, .ref (a 6)), (1, .int x1), (4, .int x4)]) : W p l e rmX0_endAsking s m args below meth c H locs 0 0 Q (F0 m 26 ls []) := by
  obtain ⟨hC, hK, hN⟩ := id hC0
  obtain ⟨hx, hb, hml, hown, hts⟩ := id hC
  have iw0 := iwX0_endAsking_0
  have iw2 := iwX0_endAsking_2
  unfold fX0_endAsking_26 at hf
  refine lv_aload_n hx hb dX0_endAsking_26 rfl (lv_at hl 0 rfl) ?_
  refine lv_iload_n hx hb dX0_endAsking_27 rfl (lv_at hl 1 rfl) ?_
  refine lv_iload hx hb dX0_endAsking_28 (lv_at hl 2 rfl) ?_
  obtain ⟨S_1, hg_1, hf⟩ := obnv_some hf
  refine zcv (va_runV (As := [.int x1, .int x4]) (rest := []) hC (tX0_heldGoOut hg_1) (cwV 2 hts gX0_endAsking_X0_heldGoOut rfl rfl rfl (by decide +kernel) ⟨Nat.le_of_ble_eq_true rfl, Nat.le_of_ble_eq_true rfl⟩) (zpV hP hK hD hN (rX_6 hK hP)) rfl rfl hl.1 rfl (lv_room (Nat.le_of_ble_eq_true rfl)) dX0_endAsking_30 ⟨Nat.zero_le _, Nat.zero_le _⟩) hS (fun H locs hP hD hS => ?_)
  exact zrv hf hQ hP hD hS dX0_endAsking_33
set_option maxHeartbeats 4000000 in
set_option maxRecDepth 100000 in
theorem kX0_endAsking {r : zS} (hC0 : zC p m c cX0_endAsking 5 s args wsX0_endAsking RX0 D cI cZ) (hQ : zRv p l e rmX0_endAsking s m args below meth c cX0_endAsking D A (wX a cI) Q r) {S : zS} {x1 : Int32} {x2 : Int32} {x3 : Int32} {x4 : Int32} (hf : fX0_endAsking S x1 x2 x3 x4 = some r) {H : Heap} {locs : List Loc} (hP : va_P D vwCl (wX a cI S) H) (hD : va_D A (wX a cI S)) (hS : va_S A s.heap H locs) {ls : Array Slot} (hl : lv_has ls 5 [(0, .ref (a 6)), (1, .int x1), (2, .int x2), (3, .int x3), (4, .int x4)]) : W p l e rmX0_endAsking s m args below meth c H locs 0 0 Q (F0 m 0 ls []) := by
  obtain ⟨hC, hK, hN⟩ := id hC0
  obtain ⟨hx, hb, hml, hown, hts⟩ := id hC
  have iw0 := iwX0_endAsking_0
  have iw2 := iwX0_endAsking_2
  unfold fX0_endAsking at hf
  refine lv_aload_n hx hb dX0_endAsking_0 rfl (lv_at hl 0 rfl) ?_
  refine gX0_marks hx hb hts iw0 hown hK hP (List.mem_of_getElem? (i := 1) rfl) dX0_endAsking_1 ?_
  refine lv_iload_n hx hb dX0_endAsking_4 rfl (lv_at hl 1 rfl) ?_
  refine lv_iload_n hx hb dX0_endAsking_5 rfl (lv_at hl 2 rfl) ?_
  refine sX0_marks hf hx hb hK hP hD hS dX0_endAsking_6 (fun S_1 H locs hf hP hD hS => ?_)
  refine lv_iload_n hx hb dX0_endAsking_7 rfl (lv_at hl 3 rfl) ?_
  refine lv_if_eq (tgt := 21) hx hb dX0_endAsking_8 (by decide) (fun h_1 => ?_) (fun h_1 => ?_)
  · have hf := zt h_1 hf
    refine lv_aload_n hx hb dX0_endAsking_21 rfl (lv_at hl 0 rfl) ?_
    refine lv_iload_n hx hb dX0_endAsking_22 rfl (lv_at hl 1 rfl) ?_
    obtain ⟨S_2, hg_1, hf⟩ := obnv_some hf
    refine zcv (va_runV (As := [.int x1]) (rest := []) hC (tX0_becomeStale hg_1) (cwV 1 hts gX0_endAsking_X0_becomeStale rfl rfl rfl (by decide +kernel) ⟨Nat.le_of_ble_eq_true rfl, Nat.le_of_ble_eq_true rfl⟩) (zpV hP hK hD hN (rX_6 hK hP)) rfl rfl hl.1 rfl (lv_room (Nat.le_of_ble_eq_true rfl)) dX0_endAsking_23 ⟨Nat.zero_le _, Nat.zero_le _⟩) hS (fun H locs hP hD hS => ?_)
    exact kX0_endAsking_26 hC0 hQ hf hP hD hS (lv_sub hl [0, 1, 4] rfl)
  · have hf := zf h_1 hf
    refine lv_aload_n hx hb dX0_endAsking_11 rfl (lv_at hl 0 rfl) ?_
    refine lv_iload_n hx hb dX0_endAsking_12 rfl (lv_at hl 1 rfl) ?_
    refine lv_iload hx hb dX0_endAsking_13 (lv_at hl 4 rfl) ?_
    obtain ⟨S_3, hg_2, hf⟩ := obnv_some hf
    refine zcv (va_runV (As := [.int x1, .int x4]) (rest := []) hC (tX0_becomeFresh hg_2) (cwV 2 hts gX0_endAsking_X0_becomeFresh rfl rfl rfl (by decide +kernel) ⟨Nat.le_of_ble_eq_true rfl, Nat.le_of_ble_eq_true rfl⟩) (zpV hP hK hD hN (rX_6 hK hP)) rfl rfl hl.1 rfl (lv_room (Nat.le_of_ble_eq_true rfl)) dX0_endAsking_15 ⟨Nat.zero_le _, Nat.zero_le _⟩) hS (fun H locs hP hD hS => ?_)
    refine lv_goto (tgt := 26) hx hb dX0_endAsking_18 (by decide) ?_
    exact kX0_endAsking_26 hC0 hQ hf hP hD hS (lv_sub hl [0, 1, 4] rfl)
theorem tX0_endAsking {S : zS} {x1 : Int32} {x2 : Int32} {x3 : Int32} {x4 : Int32} {r : zS} (hf : fX0_endAsking S x1 x2 x3 x4 = some r) : zMv l yX0_endAsking wsX0_endAsking rmX0_endAsking D (zT cI cZ) A (wX a cI) [.ref (a 6), .int x1, .int x2, .int x3, .int x4] S r :=
  zMv_of (by decide) rfl rfl (Nat.le_of_ble_eq_true rfl) (fun hC0 hQ hP hD hS _ hl => kX0_endAsking hC0 hQ hf hP hD hS hl)
abbrev rmX0_correctMark : Room := { frames := 2, cells := 0, slots := 0, locals := 44 }
theorem iwX0_correctMark_0 : ∀ w ∈ wsX00, w ∈ wsX0_correctMark := fun _ h => List.mem_cons_of_mem _ (List.mem_append_right _ h)
set_option maxHeartbeats 4000000 in
set_option maxRecDepth 100000 in
theorem kX0_correctMark {r : zS} (hC0 : zC p m c cX0_correctMark 3 s args wsX0_correctMark RX0 D cI cZ) (hQ : zRv p l e rmX0_correctMark s m args below meth c cX0_correctMark D A (wX a cI) Q r) {S : zS} {x1 : Int32} {x2 : Int32} (hf : fX0_correctMark S x1 x2 = some r) {H : Heap} {locs : List Loc} (hP : va_P D vwCl (wX a cI S) H) (hD : va_D A (wX a cI S)) (hS : va_S A s.heap H locs) {ls : Array Slot} (hl : lv_has ls 3 [(0, .ref (a 6)), (1, .int x1), (2, .int x2)]) : W p l e rmX0_correctMark s m args below meth c H locs 0 0 Q (F0 m 0 ls []) := by
  obtain ⟨hC, hK, hN⟩ := id hC0
  obtain ⟨hx, hb, hml, hown, hts⟩ := id hC
  have iw0 := iwX0_correctMark_0
  unfold fX0_correctMark at hf
  refine lv_aload_n hx hb dX0_correctMark_0 rfl (lv_at hl 0 rfl) ?_
  refine gX0_marks hx hb hts iw0 hown hK hP (List.mem_of_getElem? (i := 1) rfl) dX0_correctMark_1 ?_
  refine lv_iload_n hx hb dX0_correctMark_4 rfl (lv_at hl 1 rfl) ?_
  refine lv_iload_n hx hb dX0_correctMark_5 rfl (lv_at hl 2 rfl) ?_
  refine sX0_marks hf hx hb hK hP hD hS dX0_correctMark_6 (fun S_1 H locs hf hP hD hS => ?_)
  refine lv_aload_n hx hb dX0_correctMark_7 rfl (lv_at hl 0 rfl) ?_
  refine lv_iload_n hx hb dX0_correctMark_8 rfl (lv_at hl 1 rfl) ?_
  obtain ⟨S_2, hg_1, hf⟩ := obnv_some hf
  refine zcv (va_runV (As := [.int x1]) (rest := []) hC (tX0_becomeStale hg_1) (cwV 1 hts gX0_correctMark_X0_becomeStale rfl rfl rfl (by decide +kernel) ⟨Nat.le_of_ble_eq_true rfl, Nat.le_of_ble_eq_true rfl⟩) (zpV hP hK hD hN (rX_6 hK hP)) rfl rfl hl.1 rfl (lv_room (Nat.le_of_ble_eq_true rfl)) dX0_correctMark_9 ⟨Nat.zero_le _, Nat.zero_le _⟩) hS (fun H locs hP hD hS => ?_)
  exact zrv hf hQ hP hD hS dX0_correctMark_12
theorem tX0_correctMark {S : zS} {x1 : Int32} {x2 : Int32} {r : zS} (hf : fX0_correctMark S x1 x2 = some r) : zMv l yX0_correctMark wsX0_correctMark rmX0_correctMark D (zT cI cZ) A (wX a cI) [.ref (a 6), .int x1, .int x2] S r :=
  zMv_of (by decide) rfl rfl (Nat.le_of_ble_eq_true rfl) (fun hC0 hQ hP hD hS _ hl => kX0_correctMark hC0 hQ hf hP hD hS hl)
abbrev rmX0_hear : Room := { frames := 4, cells := 0, slots := 0, locals := 97 }
theorem iwX0_hear_0 : ∀ w ∈ wsX00, w ∈ wsX0_hear := fun _ h => List.mem_cons_of_mem _ (List.mem_append_left _ (List.mem_append_left _ (List.mem_append_right _ h)))
theorem iwX0_hear_1 : ∀ w ∈ wsX10, w ∈ wsX0_hear := fun _ h => List.mem_cons_of_mem _ (List.mem_append_left _ (List.mem_append_right _ h))
theorem iwX0_hear_2 : ∀ w ∈ wsX20, w ∈ wsX0_hear := fun _ h => List.mem_cons_of_mem _ (List.mem_append_right _ h)
set_option maxHeartbeats 4000000 in
set_option maxRecDepth 100000 in
theorem kX0_hear {r : zS} (hC0 : zC p m c cX0_hear 4 s args wsX0_hear RX0 D cI cZ) (hQ : zRv p l e rmX0_hear s m args below meth c cX0_hear D A (wX a cI) Q r) {S : zS} {x1 : Int32} {x2 : Int32} {x3 : Int32} (hf : fX0_hear S x1 x2 x3 = some r) {H : Heap} {locs : List Loc} (hP : va_P D vwCl (wX a cI S) H) (hD : va_D A (wX a cI S)) (hS : va_S A s.heap H locs) {ls : Array Slot} (hl : lv_has ls 4 [(0, .ref (a 6)), (1, .int x1), (2, .int x2), (3, .int x3)]) : W p l e rmX0_hear s m args below meth c H locs 0 0 Q (F0 m 0 ls []) := by
  obtain ⟨hC, hK, hN⟩ := id hC0
  obtain ⟨hx, hb, hml, hown, hts⟩ := id hC
  have iw0 := iwX0_hear_0
  have iw1 := iwX0_hear_1
  have iw2 := iwX0_hear_2
  unfold fX0_hear at hf
  refine lv_aload_n hx hb dX0_hear_0 rfl (lv_at hl 0 rfl) ?_
  refine lv_iload_n hx hb dX0_hear_1 rfl (lv_at hl 1 rfl) ?_
  obtain ⟨y_1, S_1, hg_1, hf⟩ := obnd_some hf
  refine zci (va_runV (As := [.int x1]) (rest := []) hC (tX0_has hg_1) (cwV 1 hts gX0_hear_X0_has rfl rfl rfl (by decide +kernel) ⟨Nat.le_of_ble_eq_true rfl, Nat.le_of_ble_eq_true rfl⟩) (zpV hP hK hD hN (rX_6 hK hP)) rfl rfl hl.1 rfl (lv_room (Nat.le_of_ble_eq_true rfl)) dX0_hear_2 ⟨Nat.zero_le _, Nat.zero_le _⟩) hS (fun H locs hP hD hS => ?_)
  refine lv_if_ne (tgt := 26) hx hb dX0_hear_5 (by decide) (fun h_1 => ?_) (fun h_1 => ?_)
  · have hf := zf h_1 hf
    refine lv_aload_n hx hb dX0_hear_26 rfl (lv_at hl 0 rfl) ?_
    refine gX0_states hx hb hts iw0 hown hK hP (List.mem_of_getElem? (i := 1) rfl) dX0_hear_27 ?_
    refine lv_iload_n hx hb dX0_hear_30 rfl (lv_at hl 1 rfl) ?_
    refine lX0_states hf hx hb hK hP dX0_hear_31 (fun hf => ?_)
    refine lv_if_ne (tgt := 46) hx hb dX0_hear_32 (by decide) (fun h_2 => ?_) (fun h_2 => ?_)
    · have hf := zf h_2 hf
      refine lv_aload_n hx hb dX0_hear_46 rfl (lv_at hl 0 rfl) ?_
      refine gX0_marks hx hb hts iw0 hown hK hP (List.mem_of_getElem? (i := 2) rfl) dX0_hear_47 ?_
      refine lv_iload_n hx hb dX0_hear_50 rfl (lv_at hl 1 rfl) ?_
      refine lX0_marks hf hx hb hK hP dX0_hear_51 (fun hf => ?_)
      refine lv_iload_n hx hb dX0_hear_52 rfl (lv_at hl 2 rfl) ?_
      refine lv_icmp_eq (tgt := 62) hx hb dX0_hear_53 (by decide) (fun h_3 => ?_) (fun h_3 => ?_)
      · have hf := zt h_3 hf
        exact zrv hf hQ hP hD hS dX0_hear_62
      · have hf := zf h_3 hf
        refine lv_aload_n hx hb dX0_hear_56 rfl (lv_at hl 0 rfl) ?_
        refine lv_iload_n hx hb dX0_hear_57 rfl (lv_at hl 1 rfl) ?_
        refine lv_iload_n hx hb dX0_hear_58 rfl (lv_at hl 2 rfl) ?_
        obtain ⟨S_2, hg_2, hf⟩ := obnv_some hf
        refine zcv (va_runV (As := [.int x1, .int x2]) (rest := []) hC (tX0_correctMark hg_2) (cwV 2 hts gX0_hear_X0_correctMark rfl rfl rfl (by decide +kernel) ⟨Nat.le_of_ble_eq_true rfl, Nat.le_of_ble_eq_true rfl⟩) (zpV hP hK hD hN (rX_6 hK hP)) rfl rfl hl.1 rfl (lv_room (Nat.le_of_ble_eq_true rfl)) dX0_hear_59 ⟨Nat.zero_le _, Nat.zero_le _⟩) hS (fun H locs hP hD hS => ?_)
        exact zrv hf hQ hP hD hS dX0_hear_62
    · have hf := zt h_2 hf
      refine lv_aload_n hx hb dX0_hear_35 rfl (lv_at hl 0 rfl) ?_
      refine lv_iload_n hx hb dX0_hear_36 rfl (lv_at hl 1 rfl) ?_
      refine lv_iload_n hx hb dX0_hear_37 rfl (lv_at hl 2 rfl) ?_
      refine lv_iconst (v := (0 : Int32)) hx hb dX0_hear_38 (by decide) ?_
      refine lv_iload_n hx hb dX0_hear_39 rfl (lv_at hl 3 rfl) ?_
      obtain ⟨S_3, hg_3, hf⟩ := obnv_some hf
      refine zcv (va_runV (As := [.int x1, .int x2, .int (0 : Int32), .int x3]) (rest := []) hC (tX0_endAsking hg_3) (cwV 4 hts gX0_hear_X0_endAsking rfl rfl rfl (by decide +kernel) ⟨Nat.le_of_ble_eq_true rfl, Nat.le_of_ble_eq_true rfl⟩) (zpV hP hK hD hN (rX_6 hK hP)) rfl rfl hl.1 rfl (lv_room (Nat.le_of_ble_eq_true rfl)) dX0_hear_40 ⟨Nat.zero_le _, Nat.zero_le _⟩) hS (fun H locs hP hD hS => ?_)
      refine lv_goto (tgt := 62) hx hb dX0_hear_43 (by decide) ?_
      exact zrv hf hQ hP hD hS dX0_hear_62
  · have hf := zt h_1 hf
    refine lv_aload_n hx hb dX0_hear_8 rfl (lv_at hl 0 rfl) ?_
    obtain ⟨y_2, S_4, hg_4, hf⟩ := obnd_some hf
    refine zci (va_runV (As := []) (rest := []) hC (tX0_hasRoom hg_4) (cwV 0 hts gX0_hear_X0_hasRoom rfl rfl rfl (by decide +kernel) ⟨Nat.le_of_ble_eq_true rfl, Nat.le_of_ble_eq_true rfl⟩) (zpV hP hK hD hN (rX_6 hK hP)) rfl rfl hl.1 rfl (lv_room (Nat.le_of_ble_eq_true rfl)) dX0_hear_9 ⟨Nat.zero_le _, Nat.zero_le _⟩) hS (fun H locs hP hD hS => ?_)
    refine lv_if_eq (tgt := 62) hx hb dX0_hear_12 (by decide) (fun h_4 => ?_) (fun h_4 => ?_)
    · have hf := zt h_4 hf
      exact zrv hf hQ hP hD hS dX0_hear_62
    · have hf := zf h_4 hf
      refine lv_aload_n hx hb dX0_hear_15 rfl (lv_at hl 0 rfl) ?_
      refine lv_iload_n hx hb dX0_hear_16 rfl (lv_at hl 1 rfl) ?_
      refine lv_iconst (v := (2 : Int32)) hx hb dX0_hear_17 (by decide) ?_
      refine lv_iload_n hx hb dX0_hear_18 rfl (lv_at hl 2 rfl) ?_
      refine lv_iload_n hx hb dX0_hear_19 rfl (lv_at hl 3 rfl) ?_
      obtain ⟨S_5, hg_5, hf⟩ := obnv_some hf
      refine zcv (va_runV (As := [.int x1, .int (2 : Int32), .int x2, .int x3]) (rest := []) hC (tX0_come hg_5) (cwV 4 hts gX0_hear_X0_come rfl rfl rfl (by decide +kernel) ⟨Nat.le_of_ble_eq_true rfl, Nat.le_of_ble_eq_true rfl⟩) (zpV hP hK hD hN (rX_6 hK hP)) rfl rfl hl.1 rfl (lv_room (Nat.le_of_ble_eq_true rfl)) dX0_hear_20 ⟨Nat.zero_le _, Nat.zero_le _⟩) hS (fun H locs hP hD hS => ?_)
      refine lv_goto (tgt := 62) hx hb dX0_hear_23 (by decide) ?_
      exact zrv hf hQ hP hD hS dX0_hear_62
theorem tX0_hear {S : zS} {x1 : Int32} {x2 : Int32} {x3 : Int32} {r : zS} (hf : fX0_hear S x1 x2 x3 = some r) : zMv l yX0_hear wsX0_hear rmX0_hear D (zT cI cZ) A (wX a cI) [.ref (a 6), .int x1, .int x2, .int x3] S r :=
  zMv_of (by decide) rfl rfl (Nat.le_of_ble_eq_true rfl) (fun hC0 hQ hP hD hS _ hl => kX0_hear hC0 hQ hf hP hD hS hl)
abbrev rmX0_doubt : Room := { frames := 2, cells := 0, slots := 0, locals := 44 }
theorem iwX0_doubt_0 : ∀ w ∈ wsX00, w ∈ wsX0_doubt := fun _ h => List.mem_cons_of_mem _ (List.mem_append_right _ h)
set_option maxHeartbeats 4000000 in
set_option maxRecDepth 100000 in
theorem kX0_doubt {r : zS} (hC0 : zC p m c cX0_doubt 2 s args wsX0_doubt RX0 D cI cZ) (hQ : zRv p l e rmX0_doubt s m args below meth c cX0_doubt D A (wX a cI) Q r) {S : zS} {x1 : Int32} (hf : fX0_doubt S x1 = some r) {H : Heap} {locs : List Loc} (hP : va_P D vwCl (wX a cI S) H) (hD : va_D A (wX a cI S)) (hS : va_S A s.heap H locs) {ls : Array Slot} (hl : lv_has ls 2 [(0, .ref (a 6)), (1, .int x1)]) : W p l e rmX0_doubt s m args below meth c H locs 0 0 Q (F0 m 0 ls []) := by
  obtain ⟨hC, hK, hN⟩ := id hC0
  obtain ⟨hx, hb, hml, hown, hts⟩ := id hC
  have iw0 := iwX0_doubt_0
  unfold fX0_doubt at hf
  refine lv_aload_n hx hb dX0_doubt_0 rfl (lv_at hl 0 rfl) ?_
  refine gX0_states hx hb hts iw0 hown hK hP (List.mem_of_getElem? (i := 1) rfl) dX0_doubt_1 ?_
  refine lv_iload_n hx hb dX0_doubt_4 rfl (lv_at hl 1 rfl) ?_
  refine lX0_states hf hx hb hK hP dX0_doubt_5 (fun hf => ?_)
  refine lv_iconst (v := (1 : Int32)) hx hb dX0_doubt_6 (by decide) ?_
  refine lv_icmp_ne (tgt := 15) hx hb dX0_doubt_7 (by decide) (fun h_1 => ?_) (fun h_1 => ?_)
  · have hf := zf h_1 hf
    exact zrv hf hQ hP hD hS dX0_doubt_15
  · have hf := zt h_1 hf
    refine lv_aload_n hx hb dX0_doubt_10 rfl (lv_at hl 0 rfl) ?_
    refine lv_iload_n hx hb dX0_doubt_11 rfl (lv_at hl 1 rfl) ?_
    obtain ⟨S_1, hg_1, hf⟩ := obnv_some hf
    refine zcv (va_runV (As := [.int x1]) (rest := []) hC (tX0_becomeStale hg_1) (cwV 1 hts gX0_doubt_X0_becomeStale rfl rfl rfl (by decide +kernel) ⟨Nat.le_of_ble_eq_true rfl, Nat.le_of_ble_eq_true rfl⟩) (zpV hP hK hD hN (rX_6 hK hP)) rfl rfl hl.1 rfl (lv_room (Nat.le_of_ble_eq_true rfl)) dX0_doubt_12 ⟨Nat.zero_le _, Nat.zero_le _⟩) hS (fun H locs hP hD hS => ?_)
    exact zrv hf hQ hP hD hS dX0_doubt_15
theorem tX0_doubt {S : zS} {x1 : Int32} {r : zS} (hf : fX0_doubt S x1 = some r) : zMv l yX0_doubt wsX0_doubt rmX0_doubt D (zT cI cZ) A (wX a cI) [.ref (a 6), .int x1] S r :=
  zMv_of (by decide) rfl rfl (Nat.le_of_ble_eq_true rfl) (fun hC0 hQ hP hD hS _ hl => kX0_doubt hC0 hQ hf hP hD hS hl)
abbrev rmX0_takeAnswer : Room := { frames := 4, cells := 0, slots := 0, locals := 97 }
theorem iwX0_takeAnswer_0 : ∀ w ∈ wsX00, w ∈ wsX0_takeAnswer := fun _ h => List.mem_cons_of_mem _ (List.mem_append_left _ (List.mem_append_right _ h))
theorem iwX0_takeAnswer_2 : ∀ w ∈ wsX20, w ∈ wsX0_takeAnswer := fun _ h => List.mem_cons_of_mem _ (List.mem_append_right _ h)
set_option maxHeartbeats 4000000 in
set_option maxRecDepth 100000 in
theorem kX0_takeAnswer_56 {r : zS} (hC0 : zC p m c cX0_takeAnswer 7 s args wsX0_takeAnswer RX0 D cI cZ) (hQ : zRv p l e rmX0_takeAnswer s m args below meth c cX0_takeAnswer D A (wX a cI) Q r) {S : zS} {x1 : Int32} {x2 : Int32} {x3 : Int32} {x5 : Int32} {x6 : Int32} (hf : fX0_takeAnswer_56 S x1 x2 x3 x5 x6 = some r) {H : Heap} {locs : List Loc} (hP : va_P D vwCl (wX a cI S) H) (hD : va_D A (wX a cI S)) (hS : va_S A s.heap H locs) {ls : Array Slot} (hl : lv_has ls 7 [(0, .ref (a 6)), (1, .int x1), (2, .int x2), (3, .int x3), (5, .int x5), (6, .int x6)]) : W p l e rmX0_takeAnswer s m args below meth c H locs 0 0 Q (F0 m 56 ls []) := by
  obtain ⟨hC, hK, hN⟩ := id hC0
  obtain ⟨hx, hb, hml, hown, hts⟩ := id hC
  have iw0 := iwX0_takeAnswer_0
  have iw2 := iwX0_takeAnswer_2
  unfold fX0_takeAnswer_56 at hf
  refine lv_iload_n hx hb dX0_takeAnswer_56 rfl (lv_at hl 3 rfl) ?_
  refine lv_if_eq (tgt := 77) hx hb dX0_takeAnswer_57 (by decide) (fun h_1 => ?_) (fun h_1 => ?_)
  · have hf := zt h_1 hf
    refine lv_iload hx hb dX0_takeAnswer_77 (lv_at hl 5 rfl) ?_
    refine lv_if_eq (tgt := 88) hx hb dX0_takeAnswer_79 (by decide) (fun h_2 => ?_) (fun h_2 => ?_)
    · have hf := zt h_2 hf
      exact zrv hf hQ hP hD hS dX0_takeAnswer_88
    · have hf := zf h_2 hf
      refine lv_aload_n hx hb dX0_takeAnswer_82 rfl (lv_at hl 0 rfl) ?_
      refine lv_iload_n hx hb dX0_takeAnswer_83 rfl (lv_at hl 1 rfl) ?_
      refine lv_iload_n hx hb dX0_takeAnswer_84 rfl (lv_at hl 2 rfl) ?_
      obtain ⟨S_1, hg_1, hf⟩ := obnv_some hf
      refine zcv (va_runV (As := [.int x1, .int x2]) (rest := []) hC (tX0_correctMark hg_1) (cwV 2 hts gX0_takeAnswer_X0_correctMark rfl rfl rfl (by decide +kernel) ⟨Nat.le_of_ble_eq_true rfl, Nat.le_of_ble_eq_true rfl⟩) (zpV hP hK hD hN (rX_6 hK hP)) rfl rfl hl.1 rfl (lv_room (Nat.le_of_ble_eq_true rfl)) dX0_takeAnswer_85 ⟨Nat.zero_le _, Nat.zero_le _⟩) hS (fun H locs hP hD hS => ?_)
      exact zrv hf hQ hP hD hS dX0_takeAnswer_88
  · have hf := zf h_1 hf
    refine lv_aload_n hx hb dX0_takeAnswer_60 rfl (lv_at hl 0 rfl) ?_
    refine gX0_marks hx hb hts iw0 hown hK hP (List.mem_of_getElem? (i := 1) rfl) dX0_takeAnswer_61 ?_
    refine lv_iload_n hx hb dX0_takeAnswer_64 rfl (lv_at hl 1 rfl) ?_
    refine lv_iload_n hx hb dX0_takeAnswer_65 rfl (lv_at hl 2 rfl) ?_
    refine sX0_marks hf hx hb hK hP hD hS dX0_takeAnswer_66 (fun S_2 H locs hf hP hD hS => ?_)
    refine lv_aload_n hx hb dX0_takeAnswer_67 rfl (lv_at hl 0 rfl) ?_
    refine lv_iload_n hx hb dX0_takeAnswer_68 rfl (lv_at hl 1 rfl) ?_
    refine lv_iload hx hb dX0_takeAnswer_69 (lv_at hl 4 rfl) ?_
    obtain ⟨S_3, hg_2, hf⟩ := obnv_some hf
    refine zcv (va_runV (As := [.int x1, .int x5]) (rest := []) hC (tX0_becomeFresh hg_2) (cwV 2 hts gX0_takeAnswer_X0_becomeFresh rfl rfl rfl (by decide +kernel) ⟨Nat.le_of_ble_eq_true rfl, Nat.le_of_ble_eq_true rfl⟩) (zpV hP hK hD hN (rX_6 hK hP)) rfl rfl hl.1 rfl (lv_room (Nat.le_of_ble_eq_true rfl)) dX0_takeAnswer_71 ⟨Nat.zero_le _, Nat.zero_le _⟩) hS (fun H locs hP hD hS => ?_)
    refine lv_goto (tgt := 88) hx hb dX0_takeAnswer_74 (by decide) ?_
    exact zrv hf hQ hP hD hS dX0_takeAnswer_88
set_option maxHeartbeats 4000000 in
set_option maxRecDepth 100000 in
theorem kX0_takeAnswer_15 {r : zS} (hC0 : zC p m c cX0_takeAnswer 7 s args wsX0_takeAnswer RX0 D cI cZ) (hQ : zRv p l e rmX0_takeAnswer s m args below meth c cX0_takeAnswer D A (wX a cI) Q r) {S : zS} {x1 : Int32} {x2 : Int32} {x3 : Int32} {x4 : Int32} {x5 : Int32} {t0 : Int32} (hf : fX0_takeAnswer_15 S x1 x2 x3 x4 x5 t0 = some r) {H : Heap} {locs : List Loc} (hP : va_P D vwCl (wX a cI S) H) (hD : va_D A (wX a cI S)) (hS : va_S A s.heap H locs) {ls : Array Slot} (hl : lv_has ls 7 [(0, .ref (a 6)), (1, .int x1), (2, .int x2), (3, .int x3), (4, .int x4), (5, .int x5)]) : W p l e rmX0_takeAnswer s m args below meth c H locs 0 0 Q (F0 m 15 ls [.int t0]) := by
  obtain ⟨hC, hK, hN⟩ := id hC0
  obtain ⟨hx, hb, hml, hown, hts⟩ := id hC
  have iw0 := iwX0_takeAnswer_0
  have iw2 := iwX0_takeAnswer_2
  unfold fX0_takeAnswer_15 at hf
  refine z_istore hf hx hb (fun y => [(6, .int y), (0, .ref (a 6)), (1, .int x1), (2, .int x2), (3, .int x3), (4, .int x4), (5, .int x5)]) dX0_takeAnswer_15 hl (by decide) (fun _ => rfl) (fun y_1 ls hf hl => ?_)
  refine lv_aload_n hx hb dX0_takeAnswer_17 rfl (lv_at hl 1 rfl) ?_
  refine gX0_states hx hb hts iw0 hown hK hP (List.mem_of_getElem? (i := 2) rfl) dX0_takeAnswer_18 ?_
  refine lv_iload_n hx hb dX0_takeAnswer_21 rfl (lv_at hl 2 rfl) ?_
  refine lX0_states hf hx hb hK hP dX0_takeAnswer_22 (fun hf => ?_)
  refine lv_if_ne (tgt := 38) hx hb dX0_takeAnswer_23 (by decide) (fun h_1 => ?_) (fun h_1 => ?_)
  · have hf := zf h_1 hf
    refine lv_iload hx hb dX0_takeAnswer_38 (lv_at hl 0 rfl) ?_
    refine lv_if_eq (tgt := 56) hx hb dX0_takeAnswer_40 (by decide) (fun h_2 => ?_) (fun h_2 => ?_)
    · have hf := zt h_2 hf
      exact kX0_takeAnswer_56 hC0 hQ hf hP hD hS (lv_sub hl [1, 2, 3, 4, 6, 0] rfl)
    · have hf := zf h_2 hf
      refine lv_iload hx hb dX0_takeAnswer_43 (lv_at hl 5 rfl) ?_
      refine lv_if_ne (tgt := 56) hx hb dX0_takeAnswer_45 (by decide) (fun h_3 => ?_) (fun h_3 => ?_)
      · have hf := zf h_3 hf
        exact kX0_takeAnswer_56 hC0 hQ hf hP hD hS (lv_sub hl [1, 2, 3, 4, 6, 0] rfl)
      · have hf := zt h_3 hf
        refine lv_aload_n hx hb dX0_takeAnswer_48 rfl (lv_at hl 1 rfl) ?_
        refine lv_iload_n hx hb dX0_takeAnswer_49 rfl (lv_at hl 2 rfl) ?_
        obtain ⟨S_1, hg_1, hf⟩ := obnv_some hf
        refine zcv (va_runV (As := [.int x1]) (rest := []) hC (tX0_doubt hg_1) (cwV 1 hts gX0_takeAnswer_X0_doubt rfl rfl rfl (by decide +kernel) ⟨Nat.le_of_ble_eq_true rfl, Nat.le_of_ble_eq_true rfl⟩) (zpV hP hK hD hN (rX_6 hK hP)) rfl rfl hl.1 rfl (lv_room (Nat.le_of_ble_eq_true rfl)) dX0_takeAnswer_50 ⟨Nat.zero_le _, Nat.zero_le _⟩) hS (fun H locs hP hD hS => ?_)
        refine lv_goto (tgt := 88) hx hb dX0_takeAnswer_53 (by decide) ?_
        exact zrv hf hQ hP hD hS dX0_takeAnswer_88
  · have hf := zt h_1 hf
    refine lv_aload_n hx hb dX0_takeAnswer_26 rfl (lv_at hl 1 rfl) ?_
    refine lv_iload_n hx hb dX0_takeAnswer_27 rfl (lv_at hl 2 rfl) ?_
    refine lv_iload_n hx hb dX0_takeAnswer_28 rfl (lv_at hl 3 rfl) ?_
    refine lv_iload_n hx hb dX0_takeAnswer_29 rfl (lv_at hl 4 rfl) ?_
    refine lv_iload hx hb dX0_takeAnswer_30 (lv_at hl 6 rfl) ?_
    obtain ⟨S_2, hg_2, hf⟩ := obnv_some hf
    refine zcv (va_runV (As := [.int x1, .int x2, .int x3, .int x5]) (rest := []) hC (tX0_endAsking hg_2) (cwV 4 hts gX0_takeAnswer_X0_endAsking rfl rfl rfl (by decide +kernel) ⟨Nat.le_of_ble_eq_true rfl, Nat.le_of_ble_eq_true rfl⟩) (zpV hP hK hD hN (rX_6 hK hP)) rfl rfl hl.1 rfl (lv_room (Nat.le_of_ble_eq_true rfl)) dX0_takeAnswer_32 ⟨Nat.zero_le _, Nat.zero_le _⟩) hS (fun H locs hP hD hS => ?_)
    refine lv_goto (tgt := 88) hx hb dX0_takeAnswer_35 (by decide) ?_
    exact zrv hf hQ hP hD hS dX0_takeAnswer_88
set_option maxHeartbeats 4000000 in
set_option maxRecDepth 100000 in
theorem kX0_takeAnswer {r : zS} (hC0 : zC p m c cX0_takeAnswer 7 s args wsX0_takeAnswer RX0 D cI cZ) (hQ : zRv p l e rmX0_takeAnswer s m args below meth c cX0_takeAnswer D A (wX a cI) Q r) {S : zS} {x1 : Int32} {x2 : Int32} {x3 : Int32} {x4 : Int32} {x5 : Int32} (hf : fX0_takeAnswer S x1 x2 x3 x4 x5 = some r) {H : Heap} {locs : List Loc} (hP : va_P D vwCl (wX a cI S) H) (hD : va_D A (wX a cI S)) (hS : va_S A s.heap H locs) {ls : Array Slot} (hl : lv_has ls 7 [(0, .ref (a 6)), (1, .int x1), (2, .int x2), (3, .int x3), (4, .int x4), (5, .int x5)]) : W p l e rmX0_takeAnswer s m args below meth c H locs 0 0 Q (F0 m 0 ls []) := by
  obtain ⟨hC, hK, hN⟩ := id hC0
  obtain ⟨hx, hb, hml, hown, hts⟩ := id hC
  have iw0 := iwX0_takeAnswer_0
  have iw2 := iwX0_takeAnswer_2
  unfold fX0_takeAnswer at hf
  refine lv_aload_n hx hb dX0_takeAnswer_0 rfl (lv_at hl 0 rfl) ?_
  refine gX0_marks hx hb hts iw0 hown hK hP (List.mem_of_getElem? (i := 1) rfl) dX0_takeAnswer_1 ?_
  refine lv_iload_n hx hb dX0_takeAnswer_4 rfl (lv_at hl 1 rfl) ?_
  refine lX0_marks hf hx hb hK hP dX0_takeAnswer_5 (fun hf => ?_)
  refine lv_iload_n hx hb dX0_takeAnswer_6 rfl (lv_at hl 2 rfl) ?_
  refine lv_icmp_eq (tgt := 14) hx hb dX0_takeAnswer_7 (by decide) (fun h_1 => ?_) (fun h_1 => ?_)
  · have hf := zt h_1 hf
    refine lv_iconst (v := (0 : Int32)) hx hb dX0_takeAnswer_14 (by decide) ?_
    exact kX0_takeAnswer_15 hC0 hQ hf hP hD hS (lv_sub hl [0, 1, 2, 3, 4, 5] rfl)
  · have hf := zf h_1 hf
    refine lv_iconst (v := (1 : Int32)) hx hb dX0_takeAnswer_10 (by decide) ?_
    refine lv_goto (tgt := 15) hx hb dX0_takeAnswer_11 (by decide) ?_
    exact kX0_takeAnswer_15 hC0 hQ hf hP hD hS (lv_sub hl [0, 1, 2, 3, 4, 5] rfl)
theorem tX0_takeAnswer {S : zS} {x1 : Int32} {x2 : Int32} {x3 : Int32} {x4 : Int32} {x5 : Int32} {r : zS} (hf : fX0_takeAnswer S x1 x2 x3 x4 x5 = some r) : zMv l yX0_takeAnswer wsX0_takeAnswer rmX0_takeAnswer D (zT cI cZ) A (wX a cI) [.ref (a 6), .int x1, .int x2, .int x3, .int x4, .int x5] S r :=
  zMv_of (by decide) rfl rfl (Nat.le_of_ble_eq_true rfl) (fun hC0 hQ hP hD hS _ hl => kX0_takeAnswer hC0 hQ hf hP hD hS hl)
abbrev rmX0_probe : Room := { frames := 1, cells := 0, slots := 0, locals := 26 }
theorem iwX0_probe_0 : ∀ w ∈ wsX00, w ∈ wsX0_probe := fun _ h => List.mem_cons_of_mem _ (List.mem_append_left _ (List.mem_append_right _ h))
theorem iwX0_probe_2 : ∀ w ∈ wsX20, w ∈ wsX0_probe := fun _ h => List.mem_cons_of_mem _ (List.mem_append_right _ h)
set_option maxHeartbeats 4000000 in
set_option maxRecDepth 100000 in
theorem kX0_probe {r : zS} (hC0 : zC p m c cX0_probe 3 s args wsX0_probe RX0 D cI cZ) (hQ : zRv p l e rmX0_probe s m args below meth c cX0_probe D A (wX a cI) Q r) {S : zS} {x1 : Int32} {x2 : Int32} (hf : fX0_probe S x1 x2 = some r) {H : Heap} {locs : List Loc} (hP : va_P D vwCl (wX a cI S) H) (hD : va_D A (wX a cI S)) (hS : va_S A s.heap H locs) {ls : Array Slot} (hl : lv_has ls 3 [(0, .ref (a 6)), (1, .int x1), (2, .int x2)]) : W p l e rmX0_probe s m args below meth c H locs 0 0 Q (F0 m 0 ls []) := by
  obtain ⟨hC, hK, hN⟩ := id hC0
  obtain ⟨hx, hb, hml, hown, hts⟩ := id hC
  have iw0 := iwX0_probe_0
  have iw2 := iwX0_probe_2
  unfold fX0_probe at hf
  refine lv_aload_n hx hb dX0_probe_0 rfl (lv_at hl 0 rfl) ?_
  refine gX0_outbox hx hb hts iw0 hown hK hP (List.mem_of_getElem? (i := 1) rfl) dX0_probe_1 ?_
  refine lv_iconst (v := (2 : Int32)) hx hb dX0_probe_4 (by decide) ?_
  refine lv_iload_n hx hb dX0_probe_5 rfl (lv_at hl 1 rfl) ?_
  refine lv_aload_n hx hb dX0_probe_6 rfl (lv_at hl 0 rfl) ?_
  refine gX0_marks hx hb hts iw0 hown hK hP (List.mem_of_getElem? (i := 2) rfl) dX0_probe_7 ?_
  refine lv_iload_n hx hb dX0_probe_10 rfl (lv_at hl 1 rfl) ?_
  refine lX0_marks hf hx hb hK hP dX0_probe_11 (fun hf => ?_)
  refine lv_iconst (v := (0 : Int32)) hx hb dX0_probe_12 (by decide) ?_
  refine lv_iload_n hx hb dX0_probe_13 rfl (lv_at hl 2 rfl) ?_
  obtain ⟨S_1, hg_1, hf⟩ := obnv_some hf
  refine zcv (va_runVN (As := [.int (2 : Int32), .int x1, .int (S.2.1 4 (x1).toNatClampNeg), .int (0 : Int32), .int x2]) (rest := []) hC (tX2_add hg_1) ⟨va_cnB 5 hts gX0_probe_X2_add_n95 rfl rfl rfl (hN _ zN6) (hts _ (List.mem_of_getElem? (i := 6) rfl)) (by decide +kernel) ⟨Nat.le_of_ble_eq_true rfl, Nat.le_of_ble_eq_true rfl⟩, hts _ (List.mem_of_getElem? (i := 5) rfl), hts _ (List.mem_of_getElem? (i := 7) rfl)⟩ (zpV hP hK hD hN (rX_1 hK hP)) rfl rfl hl.1 rfl (lv_room (Nat.le_of_ble_eq_true rfl)) dX0_probe_14 ⟨Nat.zero_le _, Nat.zero_le _⟩) hS (fun H locs hP hD hS => ?_)
  refine lv_aload_n hx hb dX0_probe_17 rfl (lv_at hl 0 rfl) ?_
  refine gX0_tries hx hb hts iw0 hown hK hP (List.mem_of_getElem? (i := 3) rfl) dX0_probe_18 ?_
  refine lv_iload_n hx hb dX0_probe_21 rfl (lv_at hl 1 rfl) ?_
  refine lv_dup2_11 hx hb dX0_probe_22 rfl rfl ?_
  refine lX0_tries hf hx hb hK hP dX0_probe_23 (fun hf => ?_)
  refine lv_iconst (v := (1 : Int32)) hx hb dX0_probe_24 (by decide) ?_
  refine lv_iadd hx hb dX0_probe_25 ?_
  refine sX0_tries hf hx hb hK hP hD hS dX0_probe_26 (fun S_2 H locs hf hP hD hS => ?_)
  refine lv_aload_n hx hb dX0_probe_27 rfl (lv_at hl 0 rfl) ?_
  refine gX0_ends hx hb hts iw0 hown hK hP (List.mem_of_getElem? (i := 4) rfl) dX0_probe_28 ?_
  refine lv_iload_n hx hb dX0_probe_31 rfl (lv_at hl 1 rfl) ?_
  refine lv_iload_n hx hb dX0_probe_32 rfl (lv_at hl 2 rfl) ?_
  refine lv_iconst (v := (4 : Int32)) hx hb dX0_probe_33 (by decide) ?_
  refine lv_iadd hx hb dX0_probe_34 ?_
  refine sX0_ends hf hx hb hK hP hD hS dX0_probe_35 (fun S_3 H locs hf hP hD hS => ?_)
  exact zrv hf hQ hP hD hS dX0_probe_36
theorem tX0_probe {S : zS} {x1 : Int32} {x2 : Int32} {r : zS} (hf : fX0_probe S x1 x2 = some r) : zMv l yX0_probe wsX0_probe rmX0_probe D (zT cI cZ) A (wX a cI) [.ref (a 6), .int x1, .int x2] S r :=
  zMv_of (by decide) rfl rfl (Nat.le_of_ble_eq_true rfl) (fun hC0 hQ hP hD hS _ hl => kX0_probe hC0 hQ hf hP hD hS hl)
abbrev rmX0_endState : Room := { frames := 3, cells := 0, slots := 0, locals := 65 }
theorem iwX0_endState_0 : ∀ w ∈ wsX00, w ∈ wsX0_endState := fun _ h => List.mem_cons_of_mem _ (List.mem_append_left _ (List.mem_append_left _ (List.mem_append_right _ h)))
theorem iwX0_endState_2 : ∀ w ∈ wsX20, w ∈ wsX0_endState := fun _ h => List.mem_cons_of_mem _ (List.mem_append_left _ (List.mem_append_right _ h))
theorem iwX0_endState_1 : ∀ w ∈ wsX10, w ∈ wsX0_endState := fun _ h => List.mem_cons_of_mem _ (List.mem_append_right _ h)
set_option maxHeartbeats 4000000 in
set_option maxRecDepth 100000 in
theorem kX0_endState {r : zS} (hC0 : zC p m c cX0_endState 3 s args wsX0_endState RX0 D cI cZ) (hQ : zRv p l e rmX0_endState s m args below meth c cX0_endState D A (wX a cI) Q r) {S : zS} {x1 : Int32} {x2 : Int32} (hf : fX0_endState S x1 x2 = some r) {H : Heap} {locs : List Loc} (hP : va_P D vwCl (wX a cI S) H) (hD : va_D A (wX a cI S)) (hS : va_S A s.heap H locs) {ls : Array Slot} (hl : lv_has ls 3 [(0, .ref (a 6)), (1, .int x1), (2, .int x2)]) : W p l e rmX0_endState s m args below meth c H locs 0 0 Q (F0 m 0 ls []) := by
  obtain ⟨hC, hK, hN⟩ := id hC0
  obtain ⟨hx, hb, hml, hown, hts⟩ := id hC
  have iw0 := iwX0_endState_0
  have iw2 := iwX0_endState_2
  have iw1 := iwX0_endState_1
  unfold fX0_endState at hf
  refine lv_aload_n hx hb dX0_endState_0 rfl (lv_at hl 0 rfl) ?_
  refine gX0_states hx hb hts iw0 hown hK hP (List.mem_of_getElem? (i := 1) rfl) dX0_endState_1 ?_
  refine lv_iload_n hx hb dX0_endState_4 rfl (lv_at hl 1 rfl) ?_
  refine lX0_states hf hx hb hK hP dX0_endState_5 (fun hf => ?_)
  refine lv_iconst (v := (1 : Int32)) hx hb dX0_endState_6 (by decide) ?_
  refine lv_icmp_ne (tgt := 18) hx hb dX0_endState_7 (by decide) (fun h_1 => ?_) (fun h_1 => ?_)
  · have hf := zf h_1 hf
    refine lv_aload_n hx hb dX0_endState_18 rfl (lv_at hl 0 rfl) ?_
    refine gX0_states hx hb hts iw0 hown hK hP (List.mem_of_getElem? (i := 1) rfl) dX0_endState_19 ?_
    refine lv_iload_n hx hb dX0_endState_22 rfl (lv_at hl 1 rfl) ?_
    refine lX0_states hf hx hb hK hP dX0_endState_23 (fun hf => ?_)
    refine lv_iconst (v := (3 : Int32)) hx hb dX0_endState_24 (by decide) ?_
    refine lv_icmp_ne (tgt := 44) hx hb dX0_endState_25 (by decide) (fun h_2 => ?_) (fun h_2 => ?_)
    · have hf := zf h_2 hf
      refine lv_aload_n hx hb dX0_endState_44 rfl (lv_at hl 0 rfl) ?_
      refine gX0_tries hx hb hts iw0 hown hK hP (List.mem_of_getElem? (i := 2) rfl) dX0_endState_45 ?_
      refine lv_iload_n hx hb dX0_endState_48 rfl (lv_at hl 1 rfl) ?_
      refine lX0_tries hf hx hb hK hP dX0_endState_49 (fun hf => ?_)
      refine lv_iconst (v := (3 : Int32)) hx hb dX0_endState_50 (by decide) ?_
      refine lv_icmp_lt (tgt := 62) hx hb dX0_endState_51 (by decide) (fun h_3 => ?_) (fun h_3 => ?_)
      · have hf := zt h_3 hf
        refine lv_aload_n hx hb dX0_endState_62 rfl (lv_at hl 0 rfl) ?_
        refine gX0_states hx hb hts iw0 hown hK hP (List.mem_of_getElem? (i := 1) rfl) dX0_endState_63 ?_
        refine lv_iload_n hx hb dX0_endState_66 rfl (lv_at hl 1 rfl) ?_
        refine lX0_states hf hx hb hK hP dX0_endState_67 (fun hf => ?_)
        refine lv_iconst (v := (4 : Int32)) hx hb dX0_endState_68 (by decide) ?_
        refine lv_icmp_ne (tgt := 81) hx hb dX0_endState_69 (by decide) (fun h_4 => ?_) (fun h_4 => ?_)
        · have hf := zf h_4 hf
          refine lv_aload_n hx hb dX0_endState_81 rfl (lv_at hl 0 rfl) ?_
          refine lv_iload_n hx hb dX0_endState_82 rfl (lv_at hl 1 rfl) ?_
          refine lv_iload_n hx hb dX0_endState_83 rfl (lv_at hl 2 rfl) ?_
          obtain ⟨S_1, hg_1, hf⟩ := obnv_some hf
          refine zcv (va_runV (As := [.int x1, .int x2]) (rest := []) hC (tX0_ask hg_1) (cwV 2 hts gX0_endState_X0_ask rfl rfl rfl (by decide +kernel) ⟨Nat.le_of_ble_eq_true rfl, Nat.le_of_ble_eq_true rfl⟩) (zpV hP hK hD hN (rX_6 hK hP)) rfl rfl hl.1 rfl (lv_room (Nat.le_of_ble_eq_true rfl)) dX0_endState_84 ⟨Nat.zero_le _, Nat.zero_le _⟩) hS (fun H locs hP hD hS => ?_)
          exact zrv hf hQ hP hD hS dX0_endState_87
        · have hf := zt h_4 hf
          refine lv_aload_n hx hb dX0_endState_72 rfl (lv_at hl 0 rfl) ?_
          refine lv_iload_n hx hb dX0_endState_73 rfl (lv_at hl 1 rfl) ?_
          refine lv_iload_n hx hb dX0_endState_74 rfl (lv_at hl 2 rfl) ?_
          obtain ⟨S_2, hg_2, hf⟩ := obnv_some hf
          refine zcv (va_runV (As := [.int x1, .int x2]) (rest := []) hC (tX0_probe hg_2) (cwV 2 hts gX0_endState_X0_probe rfl rfl rfl (by decide +kernel) ⟨Nat.le_of_ble_eq_true rfl, Nat.le_of_ble_eq_true rfl⟩) (zpV hP hK hD hN (rX_6 hK hP)) rfl rfl hl.1 rfl (lv_room (Nat.le_of_ble_eq_true rfl)) dX0_endState_75 ⟨Nat.zero_le _, Nat.zero_le _⟩) hS (fun H locs hP hD hS => ?_)
          refine lv_goto (tgt := 87) hx hb dX0_endState_78 (by decide) ?_
          exact zrv hf hQ hP hD hS dX0_endState_87
      · have hf := zf h_3 hf
        refine lv_aload_n hx hb dX0_endState_54 rfl (lv_at hl 0 rfl) ?_
        refine lv_iload_n hx hb dX0_endState_55 rfl (lv_at hl 1 rfl) ?_
        obtain ⟨S_3, hg_3, hf⟩ := obnv_some hf
        refine zcv (va_runV (As := [.int x1]) (rest := []) hC (tX0_remove hg_3) (cwV 1 hts gX0_endState_X0_remove rfl rfl rfl (by decide +kernel) ⟨Nat.le_of_ble_eq_true rfl, Nat.le_of_ble_eq_true rfl⟩) (zpV hP hK hD hN (rX_6 hK hP)) rfl rfl hl.1 rfl (lv_room (Nat.le_of_ble_eq_true rfl)) dX0_endState_56 ⟨Nat.zero_le _, Nat.zero_le _⟩) hS (fun H locs hP hD hS => ?_)
        refine lv_goto (tgt := 87) hx hb dX0_endState_59 (by decide) ?_
        exact zrv hf hQ hP hD hS dX0_endState_87
    · have hf := zt h_2 hf
      refine lv_aload_n hx hb dX0_endState_28 rfl (lv_at hl 0 rfl) ?_
      refine lv_iload_n hx hb dX0_endState_29 rfl (lv_at hl 1 rfl) ?_
      refine lv_iconst (v := (4 : Int32)) hx hb dX0_endState_30 (by decide) ?_
      refine lv_iconst (v := (-1 : Int32)) hx hb dX0_endState_31 (by decide) ?_
      obtain ⟨S_4, hg_4, hf⟩ := obnv_some hf
      refine zcv (va_runV (As := [.int x1, .int (4 : Int32), .int (-1 : Int32)]) (rest := []) hC (tX0_become hg_4) (cwV 3 hts gX0_endState_X0_become rfl rfl rfl (by decide +kernel) ⟨Nat.le_of_ble_eq_true rfl, Nat.le_of_ble_eq_true rfl⟩) (zpV hP hK hD hN (rX_6 hK hP)) rfl rfl hl.1 rfl (lv_room (Nat.le_of_ble_eq_true rfl)) dX0_endState_32 ⟨Nat.zero_le _, Nat.zero_le _⟩) hS (fun H locs hP hD hS => ?_)
      refine lv_aload_n hx hb dX0_endState_35 rfl (lv_at hl 0 rfl) ?_
      refine lv_iload_n hx hb dX0_endState_36 rfl (lv_at hl 1 rfl) ?_
      refine lv_iload_n hx hb dX0_endState_37 rfl (lv_at hl 2 rfl) ?_
      obtain ⟨S_5, hg_5, hf⟩ := obnv_some hf
      refine zcv (va_runV (As := [.int x1, .int x2]) (rest := []) hC (tX0_probe hg_5) (cwV 2 hts gX0_endState_X0_probe rfl rfl rfl (by decide +kernel) ⟨Nat.le_of_ble_eq_true rfl, Nat.le_of_ble_eq_true rfl⟩) (zpV hP hK hD hN (rX_6 hK hP)) rfl rfl hl.1 rfl (lv_room (Nat.le_of_ble_eq_true rfl)) dX0_endState_38 ⟨Nat.zero_le _, Nat.zero_le _⟩) hS (fun H locs hP hD hS => ?_)
      refine lv_goto (tgt := 87) hx hb dX0_endState_41 (by decide) ?_
      exact zrv hf hQ hP hD hS dX0_endState_87
  · have hf := zt h_1 hf
    refine lv_aload_n hx hb dX0_endState_10 rfl (lv_at hl 0 rfl) ?_
    refine lv_iload_n hx hb dX0_endState_11 rfl (lv_at hl 1 rfl) ?_
    obtain ⟨S_6, hg_6, hf⟩ := obnv_some hf
    refine zcv (va_runV (As := [.int x1]) (rest := []) hC (tX0_becomeStale hg_6) (cwV 1 hts gX0_endState_X0_becomeStale rfl rfl rfl (by decide +kernel) ⟨Nat.le_of_ble_eq_true rfl, Nat.le_of_ble_eq_true rfl⟩) (zpV hP hK hD hN (rX_6 hK hP)) rfl rfl hl.1 rfl (lv_room (Nat.le_of_ble_eq_true rfl)) dX0_endState_12 ⟨Nat.zero_le _, Nat.zero_le _⟩) hS (fun H locs hP hD hS => ?_)
    refine lv_goto (tgt := 87) hx hb dX0_endState_15 (by decide) ?_
    exact zrv hf hQ hP hD hS dX0_endState_87
theorem tX0_endState {S : zS} {x1 : Int32} {x2 : Int32} {r : zS} (hf : fX0_endState S x1 x2 = some r) : zMv l yX0_endState wsX0_endState rmX0_endState D (zT cI cZ) A (wX a cI) [.ref (a 6), .int x1, .int x2] S r :=
  zMv_of (by decide) rfl rfl (Nat.le_of_ble_eq_true rfl) (fun hC0 hQ hP hD hS _ hl => kX0_endState hC0 hQ hf hP hD hS hl)
abbrev rmX0_endThoseOf : Room := { frames := 4, cells := 0, slots := 0, locals := 87 }
theorem iwX0_endThoseOf_0 : ∀ w ∈ wsX00, w ∈ wsX0_endThoseOf := fun _ h => List.mem_cons_of_mem _ (List.mem_append_left _ (List.mem_append_left _ (List.mem_append_right _ h)))
theorem iwX0_endThoseOf_2 : ∀ w ∈ wsX20, w ∈ wsX0_endThoseOf := fun _ h => List.mem_cons_of_mem _ (List.mem_append_left _ (List.mem_append_right _ h))
theorem iwX0_endThoseOf_1 : ∀ w ∈ wsX10, w ∈ wsX0_endThoseOf := fun _ h => List.mem_cons_of_mem _ (List.mem_append_right _ h)
set_option maxHeartbeats 4000000 in
set_option maxRecDepth 100000 in
theorem kX0_endThoseOf_42 {r : zS} (hC0 : zC p m c cX0_endThoseOf 3 s args wsX0_endThoseOf RX0 D cI cZ) (hQ : zRv p l e rmX0_endThoseOf s m args below meth c cX0_endThoseOf D A (wX a cI) Q r) {F2 : zS → Int32 → Int32 → Option (zS)} (hF2 : ∀ (S : zS) (x1 : Int32) (x2 : Int32), F2 S x1 x2 = some r → ∀ {H : Heap} {locs : List Loc}, va_P D vwCl (wX a cI S) H → va_D A (wX a cI S) → va_S A s.heap H locs → ∀ {ls : Array Slot}, lv_has ls 3 [(0, .ref (a 6)), (1, .int x1), (2, .int x2)] → W p l e rmX0_endThoseOf s m args below meth c H locs 0 0 Q (F0 m 2 ls [])) {S : zS} {x1 : Int32} {x2 : Int32} (hf : fX0_endThoseOf_42 F2 S x1 x2 = some r) {H : Heap} {locs : List Loc} (hP : va_P D vwCl (wX a cI S) H) (hD : va_D A (wX a cI S)) (hS : va_S A s.heap H locs) {ls : Array Slot} (hl : lv_has ls 3 [(0, .ref (a 6)), (1, .int x1), (2, .int x2)]) : W p l e rmX0_endThoseOf s m args below meth c H locs 0 0 Q (F0 m 42 ls []) := by
  obtain ⟨hC, hK, hN⟩ := id hC0
  obtain ⟨hx, hb, hml, hown, hts⟩ := id hC
  have iw0 := iwX0_endThoseOf_0
  have iw2 := iwX0_endThoseOf_2
  have iw1 := iwX0_endThoseOf_1
  unfold fX0_endThoseOf_42 at hf
  refine z_iinc hf hx hb 2 (fun y => [(2, .int y), (0, .ref (a 6)), (1, .int x1)]) dX0_endThoseOf_42 hl rfl (by decide) (by decide) (fun _ => rfl) (fun y_1 ls hf hl => ?_)
  refine lv_goto (tgt := 2) hx hb dX0_endThoseOf_45 (by decide) ?_
  exact hF2 _ _ _ hf hP hD hS (lv_sub hl [1, 2, 0] rfl)
set_option maxHeartbeats 4000000 in
set_option maxRecDepth 100000 in
theorem kX0_endThoseOf_2b {r : zS} (hC0 : zC p m c cX0_endThoseOf 3 s args wsX0_endThoseOf RX0 D cI cZ) (hQ : zRv p l e rmX0_endThoseOf s m args below meth c cX0_endThoseOf D A (wX a cI) Q r) {F2 : zS → Int32 → Int32 → Option (zS)} (hF2 : ∀ (S : zS) (x1 : Int32) (x2 : Int32), F2 S x1 x2 = some r → ∀ {H : Heap} {locs : List Loc}, va_P D vwCl (wX a cI S) H → va_D A (wX a cI S) → va_S A s.heap H locs → ∀ {ls : Array Slot}, lv_has ls 3 [(0, .ref (a 6)), (1, .int x1), (2, .int x2)] → W p l e rmX0_endThoseOf s m args below meth c H locs 0 0 Q (F0 m 2 ls [])) {S : zS} {x1 : Int32} {x2 : Int32} (hf : bX0_endThoseOf_2 F2 S x1 x2 = some r) {H : Heap} {locs : List Loc} (hP : va_P D vwCl (wX a cI S) H) (hD : va_D A (wX a cI S)) (hS : va_S A s.heap H locs) {ls : Array Slot} (hl : lv_has ls 3 [(0, .ref (a 6)), (1, .int x1), (2, .int x2)]) : W p l e rmX0_endThoseOf s m args below meth c H locs 0 0 Q (F0 m 2 ls []) := by
  obtain ⟨hC, hK, hN⟩ := id hC0
  obtain ⟨hx, hb, hml, hown, hts⟩ := id hC
  have iw0 := iwX0_endThoseOf_0
  have iw2 := iwX0_endThoseOf_2
  have iw1 := iwX0_endThoseOf_1
  unfold bX0_endThoseOf_2 at hf
  refine lv_iload_n hx hb dX0_endThoseOf_2 rfl (lv_at hl 2 rfl) ?_
  refine lv_bipush (v := (16 : Int32)) hx hb dX0_endThoseOf_3 (by decide) ?_
  refine lv_icmp_ge (tgt := 48) hx hb dX0_endThoseOf_5 (by decide) (fun h_1 => ?_) (fun h_1 => ?_)
  · have hf := zt h_1 hf
    exact zrv hf hQ hP hD hS dX0_endThoseOf_48
  · have hf := zf h_1 hf
    refine lv_aload_n hx hb dX0_endThoseOf_8 rfl (lv_at hl 0 rfl) ?_
    refine lv_iload_n hx hb dX0_endThoseOf_9 rfl (lv_at hl 2 rfl) ?_
    obtain ⟨y_1, S_1, hg_1, hf⟩ := obnd_some hf
    refine zci (va_runV (As := [.int x2]) (rest := []) hC (tX0_has hg_1) (cwV 1 hts gX0_endThoseOf_X0_has rfl rfl rfl (by decide +kernel) ⟨Nat.le_of_ble_eq_true rfl, Nat.le_of_ble_eq_true rfl⟩) (zpV hP hK hD hN (rX_6 hK hP)) rfl rfl hl.1 rfl (lv_room (Nat.le_of_ble_eq_true rfl)) dX0_endThoseOf_10 ⟨Nat.zero_le _, Nat.zero_le _⟩) hS (fun H locs hP hD hS => ?_)
    refine lv_if_eq (tgt := 42) hx hb dX0_endThoseOf_13 (by decide) (fun h_2 => ?_) (fun h_2 => ?_)
    · have hf := zt h_2 hf
      exact kX0_endThoseOf_42 hC0 hQ hF2 hf hP hD hS (lv_sub hl [0, 1, 2] rfl)
    · have hf := zf h_2 hf
      refine lv_aload_n hx hb dX0_endThoseOf_16 rfl (lv_at hl 0 rfl) ?_
      refine gX0_states hx hb hts iw0 hown hK hP (List.mem_of_getElem? (i := 1) rfl) dX0_endThoseOf_17 ?_
      refine lv_iload_n hx hb dX0_endThoseOf_20 rfl (lv_at hl 2 rfl) ?_
      refine lX0_states hf hx hb hK hP dX0_endThoseOf_21 (fun hf => ?_)
      refine lv_iconst (v := (2 : Int32)) hx hb dX0_endThoseOf_22 (by decide) ?_
      refine lv_icmp_eq (tgt := 42) hx hb dX0_endThoseOf_23 (by decide) (fun h_3 => ?_) (fun h_3 => ?_)
      · have hf := zt h_3 hf
        exact kX0_endThoseOf_42 hC0 hQ hF2 hf hP hD hS (lv_sub hl [0, 1, 2] rfl)
      · have hf := zf h_3 hf
        refine lv_aload_n hx hb dX0_endThoseOf_26 rfl (lv_at hl 0 rfl) ?_
        refine gX0_ends hx hb hts iw0 hown hK hP (List.mem_of_getElem? (i := 2) rfl) dX0_endThoseOf_27 ?_
        refine lv_iload_n hx hb dX0_endThoseOf_30 rfl (lv_at hl 2 rfl) ?_
        refine lX0_ends hf hx hb hK hP dX0_endThoseOf_31 (fun hf => ?_)
        refine lv_iload_n hx hb dX0_endThoseOf_32 rfl (lv_at hl 1 rfl) ?_
        refine lv_icmp_ne (tgt := 42) hx hb dX0_endThoseOf_33 (by decide) (fun h_4 => ?_) (fun h_4 => ?_)
        · have hf := zf h_4 hf
          exact kX0_endThoseOf_42 hC0 hQ hF2 hf hP hD hS (lv_sub hl [0, 1, 2] rfl)
        · have hf := zt h_4 hf
          refine lv_aload_n hx hb dX0_endThoseOf_36 rfl (lv_at hl 0 rfl) ?_
          refine lv_iload_n hx hb dX0_endThoseOf_37 rfl (lv_at hl 2 rfl) ?_
          refine lv_iload_n hx hb dX0_endThoseOf_38 rfl (lv_at hl 1 rfl) ?_
          obtain ⟨S_2, hg_2, hf⟩ := obnv_some hf
          refine zcv (va_runV (As := [.int x2, .int x1]) (rest := []) hC (tX0_endState hg_2) (cwV 2 hts gX0_endThoseOf_X0_endState rfl rfl rfl (by decide +kernel) ⟨Nat.le_of_ble_eq_true rfl, Nat.le_of_ble_eq_true rfl⟩) (zpV hP hK hD hN (rX_6 hK hP)) rfl rfl hl.1 rfl (lv_room (Nat.le_of_ble_eq_true rfl)) dX0_endThoseOf_39 ⟨Nat.zero_le _, Nat.zero_le _⟩) hS (fun H locs hP hD hS => ?_)
          exact kX0_endThoseOf_42 hC0 hQ hF2 hf hP hD hS (lv_sub hl [0, 1, 2] rfl)
theorem kX0_endThoseOf_2 {r : zS} (hC0 : zC p m c cX0_endThoseOf 3 s args wsX0_endThoseOf RX0 D cI cZ) (hQ : zRv p l e rmX0_endThoseOf s m args below meth c cX0_endThoseOf D A (wX a cI) Q r) (n : Nat) : ∀ (S : zS) (x1 : Int32) (x2 : Int32), fX0_endThoseOf_2 n S x1 x2 = some r → ∀ {H : Heap} {locs : List Loc}, va_P D vwCl (wX a cI S) H → va_D A (wX a cI S) → va_S A s.heap H locs → ∀ {ls : Array Slot}, lv_has ls 3 [(0, .ref (a 6)), (1, .int x1), (2, .int x2)] → W p l e rmX0_endThoseOf s m args below meth c H locs 0 0 Q (F0 m 2 ls []) := by
  induction n with
  | zero => intro S x1 x2 hf; cases hf
  | succ n ih => intro S x1 x2 hf; exact kX0_endThoseOf_2b hC0 hQ ih hf
set_option maxHeartbeats 4000000 in
set_option maxRecDepth 100000 in
theorem kX0_endThoseOf {r : zS} (hC0 : zC p m c cX0_endThoseOf 3 s args wsX0_endThoseOf RX0 D cI cZ) (hQ : zRv p l e rmX0_endThoseOf s m args below meth c cX0_endThoseOf D A (wX a cI) Q r) {S : zS} {x1 : Int32} (hf : fX0_endThoseOf S x1 = some r) {H : Heap} {locs : List Loc} (hP : va_P D vwCl (wX a cI S) H) (hD : va_D A (wX a cI S)) (hS : va_S A s.heap H locs) {ls : Array Slot} (hl : lv_has ls 3 [(0, .ref (a 6)), (1, .int x1)]) : W p l e rmX0_endThoseOf s m args below meth c H locs 0 0 Q (F0 m 0 ls []) := by
  obtain ⟨hC, hK, hN⟩ := id hC0
  obtain ⟨hx, hb, hml, hown, hts⟩ := id hC
  have iw0 := iwX0_endThoseOf_0
  have iw2 := iwX0_endThoseOf_2
  have iw1 := iwX0_endThoseOf_1
  unfold fX0_endThoseOf at hf
  refine lv_iconst (v := (0 : Int32)) hx hb dX0_endThoseOf_0 (by decide) ?_
  refine z_istore_n hf hx hb (fun y => [(2, .int y), (0, .ref (a 6)), (1, .int x1)]) dX0_endThoseOf_1 rfl hl (by decide) (fun _ => rfl) (fun y_1 ls hf hl => ?_)
  exact kX0_endThoseOf_2 hC0 hQ 64 _ _ _ hf hP hD hS (lv_sub hl [1, 2, 0] rfl)
theorem tX0_endThoseOf {S : zS} {x1 : Int32} {r : zS} (hf : fX0_endThoseOf S x1 = some r) : zMv l yX0_endThoseOf wsX0_endThoseOf rmX0_endThoseOf D (zT cI cZ) A (wX a cI) [.ref (a 6), .int x1] S r :=
  zMv_of (by decide) rfl rfl (Nat.le_of_ble_eq_true rfl) (fun hC0 hQ hP hD hS _ hl => kX0_endThoseOf hC0 hQ hf hP hD hS hl)
abbrev rmX0_goneAt : Room := { frames := 0, cells := 0, slots := 0, locals := 0 }
theorem iwX0_goneAt_0 : ∀ w ∈ wsX00, w ∈ wsX0_goneAt := fun _ h => List.mem_cons_of_mem _ (List.mem_append_right _ h)
set_option maxHeartbeats 4000000 in
set_option maxRecDepth 100000 in
theorem kX0_goneAt {r : Int32 × zS} (hC0 : zC p m c cX0_goneAt 3 s args wsX0_goneAt RX0 D cI cZ) (hQ : zRi p l e rmX0_goneAt s m args below meth c cX0_goneAt D A (wX a cI) Q r) {S : zS} {x1 : Int32} (hf : fX0_goneAt S x1 = some r) {H : Heap} {locs : List Loc} (hP : va_P D vwCl (wX a cI S) H) (hD : va_D A (wX a cI S)) (hS : va_S A s.heap H locs) {ls : Array Slot} (hl : lv_has ls 3 [(0, .ref (a 6)), (1, .int x1)]) : W p l e rmX0_goneAt s m args below meth c H locs 0 0 Q (F0 m 0 ls []) := by
  obtain ⟨hC, hK, hN⟩ := id hC0
  obtain ⟨hx, hb, hml, hown, hts⟩ := id hC
  have iw0 := iwX0_goneAt_0
  unfold fX0_goneAt at hf
  refine lv_iconst (v := (3 : Int32)) hx hb dX0_goneAt_0 (by decide) ?_
  refine lv_aload_n hx hb dX0_goneAt_1 rfl (lv_at hl 0 rfl) ?_
  refine gX0_tries hx hb hts iw0 hown hK hP (List.mem_of_getElem? (i := 1) rfl) dX0_goneAt_2 ?_
  refine lv_iload_n hx hb dX0_goneAt_5 rfl (lv_at hl 1 rfl) ?_
  refine lX0_tries hf hx hb hK hP dX0_goneAt_6 (fun hf => ?_)
  refine lv_isub hx hb dX0_goneAt_7 ?_
  refine z_istore_n hf hx hb (fun y => [(2, .int y), (0, .ref (a 6)), (1, .int x1)]) dX0_goneAt_8 rfl hl (by decide) (fun _ => rfl) (fun y_1 ls hf hl => ?_)
  refine lv_aload_n hx hb dX0_goneAt_9 rfl (lv_at hl 1 rfl) ?_
  refine gX0_states hx hb hts iw0 hown hK hP (List.mem_of_getElem? (i := 2) rfl) dX0_goneAt_10 ?_
  refine lv_iload_n hx hb dX0_goneAt_13 rfl (lv_at hl 2 rfl) ?_
  refine lX0_states hf hx hb hK hP dX0_goneAt_14 (fun hf => ?_)
  by_cases h_1 : (S.2.1 3 (x1).toNatClampNeg) = (0 : Int32)
  · have hf := zt h_1 hf
    refine lv_tableIn (off := 33) (tgt := 48) hx hb dX0_goneAt_15 (by rw [h_1]; decide) (by rw [h_1]; decide) (by rw [h_1]; rfl) (by decide) ?_
    refine lv_aload_n hx hb dX0_goneAt_48 rfl (lv_at hl 1 rfl) ?_
    refine gX0_ends hx hb hts iw0 hown hK hP (List.mem_of_getElem? (i := 3) rfl) dX0_goneAt_49 ?_
    refine lv_iload_n hx hb dX0_goneAt_52 rfl (lv_at hl 2 rfl) ?_
    refine lX0_ends hf hx hb hK hP dX0_goneAt_53 (fun hf => ?_)
    refine lv_iload_n hx hb dX0_goneAt_54 rfl (lv_at hl 0 rfl) ?_
    refine lv_bipush (v := (6 : Int32)) hx hb dX0_goneAt_55 (by decide) ?_
    refine lv_imul hx hb dX0_goneAt_57 ?_
    refine lv_iadd hx hb dX0_goneAt_58 ?_
    exact zri hf hQ hP hD hS dX0_goneAt_59
  · have hf := zf h_1 hf
    by_cases h_2 : (S.2.1 3 (x1).toNatClampNeg) = (1 : Int32)
    · have hf := zt h_2 hf
      refine lv_tableIn (off := 56) (tgt := 71) hx hb dX0_goneAt_15 (by rw [h_2]; decide) (by rw [h_2]; decide) (by rw [h_2]; rfl) (by decide) ?_
      refine lv_iconst (v := (-1 : Int32)) hx hb dX0_goneAt_71 (by decide) ?_
      exact zri hf hQ hP hD hS dX0_goneAt_72
    · have hf := zf h_2 hf
      by_cases h_3 : (S.2.1 3 (x1).toNatClampNeg) = (2 : Int32)
      · have hf := zt h_3 hf
        refine lv_tableIn (off := 56) (tgt := 71) hx hb dX0_goneAt_15 (by rw [h_3]; decide) (by rw [h_3]; decide) (by rw [h_3]; rfl) (by decide) ?_
        refine lv_iconst (v := (-1 : Int32)) hx hb dX0_goneAt_71 (by decide) ?_
        exact zri hf hQ hP hD hS dX0_goneAt_72
      · have hf := zf h_3 hf
        by_cases h_4 : (S.2.1 3 (x1).toNatClampNeg) = (3 : Int32)
        · have hf := zt h_4 hf
          refine lv_tableIn (off := 45) (tgt := 60) hx hb dX0_goneAt_15 (by rw [h_4]; decide) (by rw [h_4]; decide) (by rw [h_4]; rfl) (by decide) ?_
          refine lv_aload_n hx hb dX0_goneAt_60 rfl (lv_at hl 1 rfl) ?_
          refine gX0_ends hx hb hts iw0 hown hK hP (List.mem_of_getElem? (i := 3) rfl) dX0_goneAt_61 ?_
          refine lv_iload_n hx hb dX0_goneAt_64 rfl (lv_at hl 2 rfl) ?_
          refine lX0_ends hf hx hb hK hP dX0_goneAt_65 (fun hf => ?_)
          refine lv_iload_n hx hb dX0_goneAt_66 rfl (lv_at hl 0 rfl) ?_
          refine lv_iconst (v := (4 : Int32)) hx hb dX0_goneAt_67 (by decide) ?_
          refine lv_imul hx hb dX0_goneAt_68 ?_
          refine lv_iadd hx hb dX0_goneAt_69 ?_
          exact zri hf hQ hP hD hS dX0_goneAt_70
        · have hf := zf h_4 hf
          by_cases h_5 : (S.2.1 3 (x1).toNatClampNeg) = (4 : Int32)
          · have hf := zt h_5 hf
            refine lv_tableIn (off := 45) (tgt := 60) hx hb dX0_goneAt_15 (by rw [h_5]; decide) (by rw [h_5]; decide) (by rw [h_5]; rfl) (by decide) ?_
            refine lv_aload_n hx hb dX0_goneAt_60 rfl (lv_at hl 1 rfl) ?_
            refine gX0_ends hx hb hts iw0 hown hK hP (List.mem_of_getElem? (i := 3) rfl) dX0_goneAt_61 ?_
            refine lv_iload_n hx hb dX0_goneAt_64 rfl (lv_at hl 2 rfl) ?_
            refine lX0_ends hf hx hb hK hP dX0_goneAt_65 (fun hf => ?_)
            refine lv_iload_n hx hb dX0_goneAt_66 rfl (lv_at hl 0 rfl) ?_
            refine lv_iconst (v := (4 : Int32)) hx hb dX0_goneAt_67 (by decide) ?_
            refine lv_imul hx hb dX0_goneAt_68 ?_
            refine lv_iadd hx hb dX0_goneAt_69 ?_
            exact zri hf hQ hP hD hS dX0_goneAt_70
          · have hf := zf h_5 hf
            refine lv_tableOut (tgt := 71) hx hb dX0_goneAt_15 (by have := zne h_1 (n := 0) (by decide); have := zne h_2 (n := 1) (by decide); have := zne h_3 (n := 2) (by decide); have := zne h_4 (n := 3) (by decide); have := zne h_5 (n := 4) (by decide); omega) (by decide) ?_
            refine lv_iconst (v := (-1 : Int32)) hx hb dX0_goneAt_71 (by decide) ?_
            exact zri hf hQ hP hD hS dX0_goneAt_72
theorem tX0_goneAt {S : zS} {x1 : Int32} {r : Int32 × zS} (hf : fX0_goneAt S x1 = some r) : zMi l yX0_goneAt wsX0_goneAt rmX0_goneAt D (zT cI cZ) A (wX a cI) [.ref (a 6), .int x1] S r :=
  zMi_of (by decide) rfl rfl (Nat.le_of_ble_eq_true rfl) (fun hC0 hQ hP hD hS _ hl => kX0_goneAt hC0 hQ hf hP hD hS hl)
abbrev rmX0_tell : Room := { frames := 1, cells := 0, slots := 0, locals := 22 }
theorem iwX0_tell_0 : ∀ w ∈ wsX00, w ∈ wsX0_tell := fun _ h => List.mem_cons_of_mem _ (List.mem_append_right _ h)
set_option maxHeartbeats 4000000 in
set_option maxRecDepth 100000 in
theorem kX0_tell {r : Int32 × zS} (hC0 : zC p m c cX0_tell 3 s args wsX0_tell RX0 D cI cZ) (hQ : zRi p l e rmX0_tell s m args below meth c cX0_tell D A (wX a cI) Q r) {S : zS} {x1 : Int32} {x2 : Int32} (hf : fX0_tell S x1 x2 = some r) {H : Heap} {locs : List Loc} (hP : va_P D vwCl (wX a cI S) H) (hD : va_D A (wX a cI S)) (hS : va_S A s.heap H locs) {ls : Array Slot} (hl : lv_has ls 3 [(0, .ref (a 6)), (1, .int x1), (2, .int x2)]) : W p l e rmX0_tell s m args below meth c H locs 0 0 Q (F0 m 0 ls []) := by
  obtain ⟨hC, hK, hN⟩ := id hC0
  obtain ⟨hx, hb, hml, hown, hts⟩ := id hC
  have iw0 := iwX0_tell_0
  unfold fX0_tell at hf
  refine lv_iload_n hx hb dX0_tell_0 rfl (lv_at hl 2 rfl) ?_
  by_cases h_1 : x2 = (0 : Int32)
  · have hf := zt h_1 hf
    refine lv_tableIn (off := 47) (tgt := 48) hx hb dX0_tell_1 (by rw [h_1]; decide) (by rw [h_1]; decide) (by rw [h_1]; rfl) (by decide) ?_
    refine lv_aload_n hx hb dX0_tell_48 rfl (lv_at hl 0 rfl) ?_
    refine gX0_states hx hb hts iw0 hown hK hP (List.mem_of_getElem? (i := 1) rfl) dX0_tell_49 ?_
    refine lv_iload_n hx hb dX0_tell_52 rfl (lv_at hl 1 rfl) ?_
    refine lX0_states hf hx hb hK hP dX0_tell_53 (fun hf => ?_)
    exact zri hf hQ hP hD hS dX0_tell_54
  · have hf := zf h_1 hf
    by_cases h_2 : x2 = (1 : Int32)
    · have hf := zt h_2 hf
      refine lv_tableIn (off := 54) (tgt := 55) hx hb dX0_tell_1 (by rw [h_2]; decide) (by rw [h_2]; decide) (by rw [h_2]; rfl) (by decide) ?_
      refine lv_aload_n hx hb dX0_tell_55 rfl (lv_at hl 0 rfl) ?_
      refine gX0_marks hx hb hts iw0 hown hK hP (List.mem_of_getElem? (i := 2) rfl) dX0_tell_56 ?_
      refine lv_iload_n hx hb dX0_tell_59 rfl (lv_at hl 1 rfl) ?_
      refine lX0_marks hf hx hb hK hP dX0_tell_60 (fun hf => ?_)
      exact zri hf hQ hP hD hS dX0_tell_61
    · have hf := zf h_2 hf
      by_cases h_3 : x2 = (2 : Int32)
      · have hf := zt h_3 hf
        refine lv_tableIn (off := 61) (tgt := 62) hx hb dX0_tell_1 (by rw [h_3]; decide) (by rw [h_3]; decide) (by rw [h_3]; rfl) (by decide) ?_
        refine lv_aload_n hx hb dX0_tell_62 rfl (lv_at hl 0 rfl) ?_
        refine gX0_ends hx hb hts iw0 hown hK hP (List.mem_of_getElem? (i := 3) rfl) dX0_tell_63 ?_
        refine lv_iload_n hx hb dX0_tell_66 rfl (lv_at hl 1 rfl) ?_
        refine lX0_ends hf hx hb hK hP dX0_tell_67 (fun hf => ?_)
        exact zri hf hQ hP hD hS dX0_tell_68
      · have hf := zf h_3 hf
        by_cases h_4 : x2 = (3 : Int32)
        · have hf := zt h_4 hf
          refine lv_tableIn (off := 68) (tgt := 69) hx hb dX0_tell_1 (by rw [h_4]; decide) (by rw [h_4]; decide) (by rw [h_4]; rfl) (by decide) ?_
          refine lv_aload_n hx hb dX0_tell_69 rfl (lv_at hl 0 rfl) ?_
          refine gX0_tries hx hb hts iw0 hown hK hP (List.mem_of_getElem? (i := 4) rfl) dX0_tell_70 ?_
          refine lv_iload_n hx hb dX0_tell_73 rfl (lv_at hl 1 rfl) ?_
          refine lX0_tries hf hx hb hK hP dX0_tell_74 (fun hf => ?_)
          exact zri hf hQ hP hD hS dX0_tell_75
        · have hf := zf h_4 hf
          by_cases h_5 : x2 = (4 : Int32)
          · have hf := zt h_5 hf
            refine lv_tableIn (off := 75) (tgt := 76) hx hb dX0_tell_1 (by rw [h_5]; decide) (by rw [h_5]; decide) (by rw [h_5]; rfl) (by decide) ?_
            refine lv_aload_n hx hb dX0_tell_76 rfl (lv_at hl 0 rfl) ?_
            refine gX0_waiting hx hb hts iw0 hown hK hP (List.mem_of_getElem? (i := 5) rfl) dX0_tell_77 ?_
            refine lv_iload_n hx hb dX0_tell_80 rfl (lv_at hl 1 rfl) ?_
            refine lX0_waiting hf hx hb hK hP dX0_tell_81 (fun hf => ?_)
            exact zri hf hQ hP hD hS dX0_tell_82
          · have hf := zf h_5 hf
            by_cases h_6 : x2 = (5 : Int32)
            · have hf := zt h_6 hf
              refine lv_tableIn (off := 95) (tgt := 96) hx hb dX0_tell_1 (by rw [h_6]; decide) (by rw [h_6]; decide) (by rw [h_6]; rfl) (by decide) ?_
              refine lv_bipush (v := (-102 : Int32)) hx hb dX0_tell_96 (by decide) ?_
              exact zri hf hQ hP hD hS dX0_tell_98
            · have hf := zf h_6 hf
              by_cases h_7 : x2 = (6 : Int32)
              · have hf := zt h_7 hf
                refine lv_tableIn (off := 82) (tgt := 83) hx hb dX0_tell_1 (by rw [h_7]; decide) (by rw [h_7]; decide) (by rw [h_7]; rfl) (by decide) ?_
                refine lv_aload_n hx hb dX0_tell_83 rfl (lv_at hl 0 rfl) ?_
                refine gX0_used hx hb hts iw0 hown hK hP (List.mem_of_getElem? (i := 6) rfl) dX0_tell_84 ?_
                refine lv_iload_n hx hb dX0_tell_87 rfl (lv_at hl 1 rfl) ?_
                refine lX0_used hf hx hb hK hP dX0_tell_88 (fun hf => ?_)
                exact zri hf hQ hP hD hS dX0_tell_89
              · have hf := zf h_7 hf
                by_cases h_8 : x2 = (7 : Int32)
                · have hf := zt h_8 hf
                  refine lv_tableIn (off := 89) (tgt := 90) hx hb dX0_tell_1 (by rw [h_8]; decide) (by rw [h_8]; decide) (by rw [h_8]; rfl) (by decide) ?_
                  refine lv_aload_n hx hb dX0_tell_90 rfl (lv_at hl 0 rfl) ?_
                  refine lv_iload_n hx hb dX0_tell_91 rfl (lv_at hl 1 rfl) ?_
                  obtain ⟨y_1, S_1, hg_1, hf⟩ := obnd_some hf
                  refine zci (va_runV (As := [.int x1]) (rest := []) hC (tX0_goneAt hg_1) (cwV 1 hts gX0_tell_X0_goneAt rfl rfl rfl (by decide +kernel) ⟨Nat.le_of_ble_eq_true rfl, Nat.le_of_ble_eq_true rfl⟩) (zpV hP hK hD hN (rX_6 hK hP)) rfl rfl hl.1 rfl (lv_room (Nat.le_of_ble_eq_true rfl)) dX0_tell_92 ⟨Nat.zero_le _, Nat.zero_le _⟩) hS (fun H locs hP hD hS => ?_)
                  exact zri hf hQ hP hD hS dX0_tell_95
                · have hf := zf h_8 hf
                  refine lv_tableOut (tgt := 96) hx hb dX0_tell_1 (by have := zne h_1 (n := 0) (by decide); have := zne h_2 (n := 1) (by decide); have := zne h_3 (n := 2) (by decide); have := zne h_4 (n := 3) (by decide); have := zne h_5 (n := 4) (by decide); have := zne h_6 (n := 5) (by decide); have := zne h_7 (n := 6) (by decide); have := zne h_8 (n := 7) (by decide); omega) (by decide) ?_
                  refine lv_bipush (v := (-102 : Int32)) hx hb dX0_tell_96 (by decide) ?_
                  exact zri hf hQ hP hD hS dX0_tell_98
theorem tX0_tell {S : zS} {x1 : Int32} {x2 : Int32} {r : Int32 × zS} (hf : fX0_tell S x1 x2 = some r) : zMi l yX0_tell wsX0_tell rmX0_tell D (zT cI cZ) A (wX a cI) [.ref (a 6), .int x1, .int x2] S r :=
  zMi_of (by decide) rfl rfl (Nat.le_of_ble_eq_true rfl) (fun hC0 hQ hP hD hS _ hl => kX0_tell hC0 hQ hf hP hD hS hl)
end KX2
