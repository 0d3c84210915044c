section KY4
variable {p : Program} {l : Launch} {e : Env} {s : State} {m : MethodId} {args : Array Value} {below : List Frame} {meth : Method} {c : Code} {Q : State → Prop} {D : va_G} {a : Nat → Nat} {cI cZ : ClassId} {A : Nat → Prop}
abbrev rmX5_route : Room := { frames := 6, cells := 0, slots := 0, locals := 131 }
theorem iwX5_route_5 : ∀ w ∈ wsX50, w ∈ wsX5_route := fun _ h => List.mem_cons_of_mem _ (List.mem_append_right _ h)
set_option maxHeartbeats 4000000 in
set_option maxRecDepth 100000 in
theorem kX5_route_67 {r : Int32 × zS} (hC0 : zC p m c cX5_route 4 s args wsX5_route RX5 D cI cZ) (hQ : zRi p l e rmX5_route s m args below meth c cX5_route D A (wM a cI cZ) Q r) {S : zS} {x2 : Int32} {x3 : Int32} {t1 : Int32} (hf : fX5_route_67 S x2 x3 t1 = some r) {H : Heap} {locs : List Loc} (hP : va_P D vwCl (wM a cI cZ S) H) (hD : va_D A (wM a cI cZ S)) (hS : va_S A s.heap H locs) {ls : Array Slot} (hl : lv_has ls 4 [(0, .ref (a 0)), (2, .int x2), (3, .int x3)]) : W p l e rmX5_route s m args below meth c H locs 0 0 Q (F0 m 67 ls [.int t1, .ref (a 0)]) := by
  obtain ⟨hC, hK, hN⟩ := id hC0
  obtain ⟨hx, hb, hml, hown, hts⟩ := id hC
  have iw5 := iwX5_route_5
  unfold fX5_route_67 at hf
  refine pM5_turn hf hx hb hts iw5 hown hK hP hD hS (List.mem_of_getElem? (i := 2) rfl) dX5_route_67 (fun S_1 H locs hf hP hD hS => ?_)
  refine lv_aload_n hx hb dX5_route_70 rfl (lv_at hl 0 rfl) ?_
  refine lv_iload_n hx hb dX5_route_71 rfl (lv_at hl 2 rfl) ?_
  refine lv_iload_n hx hb dX5_route_72 rfl (lv_at hl 1 rfl) ?_
  obtain ⟨y_1, S_2, hg_1, hf⟩ := obnd_some hf
  refine zci (va_runV (As := [.int x3, .int x2]) (rest := []) hC (tX5_sendNow hg_1) (cwV 2 hts gX5_route_X5_sendNow rfl rfl rfl (by decide +kernel) ⟨Nat.le_of_ble_eq_true rfl, Nat.le_of_ble_eq_true rfl⟩) (zpV hP hK hD hN (rM_0 hK hP)) rfl rfl hl.1 rfl (lv_room (Nat.le_of_ble_eq_true rfl)) dX5_route_73 ⟨Nat.zero_le _, Nat.zero_le _⟩) hS (fun H locs hP hD hS => ?_)
  exact zri hf hQ hP hD hS dX5_route_76
set_option maxHeartbeats 4000000 in
set_option maxRecDepth 100000 in
theorem kX5_route_50 {r : Int32 × zS} (hC0 : zC p m c cX5_route 4 s args wsX5_route RX5 D cI cZ) (hQ : zRi p l e rmX5_route s m args below meth c cX5_route D A (wM a cI cZ) Q r) {S : zS} {x1 : Int32} {x2 : Int32} {x3 : Int32} (hf : fX5_route_50 S x1 x2 x3 = some r) {H : Heap} {locs : List Loc} (hP : va_P D vwCl (wM a cI cZ S) H) (hD : va_D A (wM a cI cZ S)) (hS : va_S A s.heap H locs) {ls : Array Slot} (hl : lv_has ls 4 [(0, .ref (a 0)), (1, .int x1), (2, .int x2), (3, .int x3)]) : W p l e rmX5_route s m args below meth c H locs 0 0 Q (F0 m 50 ls []) := by
  obtain ⟨hC, hK, hN⟩ := id hC0
  obtain ⟨hx, hb, hml, hown, hts⟩ := id hC
  have iw5 := iwX5_route_5
  unfold fX5_route_50 at hf
  refine lv_aload_n hx hb dX5_route_50 rfl (lv_at hl 0 rfl) ?_
  refine lv_aload_n hx hb dX5_route_51 rfl (lv_at hl 0 rfl) ?_
  refine lv_iload_n hx hb dX5_route_52 rfl (lv_at hl 1 rfl) ?_
  obtain ⟨y_1, S_1, hg_1, hf⟩ := obnd_some hf
  refine zci (va_runV (As := [.int x1]) (rest := [.ref (a 0)]) hC (tX5_isByTurn hg_1) (cwV 1 hts gX5_route_X5_isByTurn rfl rfl rfl (by decide +kernel) ⟨Nat.le_of_ble_eq_true rfl, Nat.le_of_ble_eq_true rfl⟩) (zpV hP hK hD hN (rM_0 hK hP)) rfl rfl hl.1 rfl (lv_room (Nat.le_of_ble_eq_true rfl)) dX5_route_53 ⟨Nat.zero_le _, Nat.zero_le _⟩) hS (fun H locs hP hD hS => ?_)
  refine lv_if_eq (tgt := 63) hx hb dX5_route_56 (by decide) (fun h_1 => ?_) (fun h_1 => ?_)
  · have hf := zt h_1 hf
    refine lv_aload_n hx hb dX5_route_63 rfl (lv_at hl 0 rfl) ?_
    refine gM5_turn hx hb hts iw5 hown hK hP (List.mem_of_getElem? (i := 2) rfl) dX5_route_64 ?_
    exact kX5_route_67 hC0 hQ hf hP hD hS (lv_sub hl [0, 2, 3] rfl)
  · have hf := zf h_1 hf
    refine lv_iload_n hx hb dX5_route_59 rfl (lv_at hl 3 rfl) ?_
    refine lv_goto (tgt := 67) hx hb dX5_route_60 (by decide) ?_
    exact kX5_route_67 hC0 hQ hf hP hD hS (lv_sub hl [0, 2, 3] rfl)
set_option maxHeartbeats 4000000 in
set_option maxRecDepth 100000 in
theorem kX5_route {r : Int32 × zS} (hC0 : zC p m c cX5_route 4 s args wsX5_route RX5 D cI cZ) (hQ : zRi p l e rmX5_route s m args below meth c cX5_route D A (wM a cI cZ) Q r) {S : zS} {x1 : Int32} {x2 : Int32} (hf : fX5_route S x1 x2 = some r) {H : Heap} {locs : List Loc} (hP : va_P D vwCl (wM a cI cZ S) H) (hD : va_D A (wM a cI cZ S)) (hS : va_S A s.heap H locs) {ls : Array Slot} (hl : lv_has ls 4 [(0, .ref (a 0)), (1, .int x1), (2, .int x2)]) : W p l e rmX5_route s m args below meth c H locs 0 0 Q (F0 m 0 ls []) := by
  obtain ⟨hC, hK, hN⟩ := id hC0
  obtain ⟨hx, hb, hml, hown, hts⟩ := id hC
  have iw5 := iwX5_route_5
  unfold fX5_route at hf
  refine lv_iload_n hx hb dX5_route_0 rfl (lv_at hl 1 rfl) ?_
  obtain ⟨y_1, S_1, hg_1, hf⟩ := obnd_some hf
  refine zci (va_runS (As := [.int x1]) (rest := []) hC (tX5_isGoal hg_1) (va_cwS 1 hts gX5_route_X5_isGoal rfl rfl rfl (by decide +kernel) ⟨Nat.le_of_ble_eq_true rfl, Nat.le_of_ble_eq_true rfl⟩) (zpS hP hK hD hN) rfl rfl hl.1 rfl (lv_room (Nat.le_of_ble_eq_true rfl)) dX5_route_1 ⟨Nat.zero_le _, Nat.zero_le _⟩) hS (fun H locs hP hD hS => ?_)
  refine lv_if_eq (tgt := 14) hx hb dX5_route_4 (by decide) (fun h_1 => ?_) (fun h_1 => ?_)
  · have hf := zt h_1 hf
    refine lv_bipush (v := (-102 : Int32)) hx hb dX5_route_14 (by decide) ?_
    exact zri hf hQ hP hD hS dX5_route_16
  · have hf := zf h_1 hf
    refine lv_iload_n hx hb dX5_route_7 rfl (lv_at hl 2 rfl) ?_
    obtain ⟨y_2, S_2, hg_2, hf⟩ := obnd_some hf
    refine zci (va_runS (As := [.int x2]) (rest := []) hC (tX5_isLetter hg_2) (va_cwS 1 hts gX5_route_X5_isLetter rfl rfl rfl (by decide +kernel) ⟨Nat.le_of_ble_eq_true rfl, Nat.le_of_ble_eq_true rfl⟩) (zpS hP hK hD hN) rfl rfl hl.1 rfl (lv_room (Nat.le_of_ble_eq_true rfl)) dX5_route_8 ⟨Nat.zero_le _, Nat.zero_le _⟩) hS (fun H locs hP hD hS => ?_)
    refine lv_if_ne (tgt := 17) hx hb dX5_route_11 (by decide) (fun h_2 => ?_) (fun h_2 => ?_)
    · have hf := zf h_2 hf
      refine lv_aload_n hx hb dX5_route_17 rfl (lv_at hl 0 rfl) ?_
      refine lv_iload_n hx hb dX5_route_18 rfl (lv_at hl 1 rfl) ?_
      obtain ⟨y_3, S_3, hg_3, hf⟩ := obnd_some hf
      refine zci (va_runV (As := [.int x1]) (rest := []) hC (tX5_hopNow hg_3) (cwV 1 hts gX5_route_X5_hopNow rfl rfl rfl (by decide +kernel) ⟨Nat.le_of_ble_eq_true rfl, Nat.le_of_ble_eq_true rfl⟩) (zpV hP hK hD hN (rM_0 hK hP)) rfl rfl hl.1 rfl (lv_room (Nat.le_of_ble_eq_true rfl)) dX5_route_19 ⟨Nat.zero_le _, Nat.zero_le _⟩) hS (fun H locs hP hD hS => ?_)
      refine z_istore_n hf hx hb (fun y => [(3, .int y), (0, .ref (a 0)), (1, .int x1), (2, .int x2)]) dX5_route_22 rfl hl (by decide) (fun _ => rfl) (fun y_4 ls hf hl => ?_)
      refine lv_iload_n hx hb dX5_route_23 rfl (lv_at hl 0 rfl) ?_
      refine lv_iconst (v := (-1 : Int32)) hx hb dX5_route_24 (by decide) ?_
      refine lv_icmp_ne (tgt := 31) hx hb dX5_route_25 (by decide) (fun h_3 => ?_) (fun h_3 => ?_)
      · have hf := zf h_3 hf
        refine lv_aload_n hx hb dX5_route_31 rfl (lv_at hl 1 rfl) ?_
        refine gM5_isThere hx hb hts iw5 hown hK hP (List.mem_of_getElem? (i := 1) rfl) dX5_route_32 ?_
        refine lv_iload_n hx hb dX5_route_35 rfl (lv_at hl 0 rfl) ?_
        refine lM5_isThere hf hx hb hK hP dX5_route_36 (fun hf => ?_)
        refine lv_if_ne (tgt := 50) hx hb dX5_route_37 (by decide) (fun h_4 => ?_) (fun h_4 => ?_)
        · have hf := zf h_4 hf
          exact kX5_route_50 hC0 hQ hf hP hD hS (lv_sub hl [1, 2, 3, 0] rfl)
        · have hf := zt h_4 hf
          refine lv_aload_n hx hb dX5_route_40 rfl (lv_at hl 1 rfl) ?_
          obtain ⟨y_5, S_4, hg_4, hf⟩ := obnd_some hf
          refine zci (va_runV (As := []) (rest := []) hC (tX5_isRoom hg_4) (cwV 0 hts gX5_route_X5_isRoom rfl rfl rfl (by decide +kernel) ⟨Nat.le_of_ble_eq_true rfl, Nat.le_of_ble_eq_true rfl⟩) (zpV hP hK hD hN (rM_0 hK hP)) rfl rfl hl.1 rfl (lv_room (Nat.le_of_ble_eq_true rfl)) dX5_route_41 ⟨Nat.zero_le _, Nat.zero_le _⟩) hS (fun H locs hP hD hS => ?_)
          refine lv_if_ne (tgt := 50) hx hb dX5_route_44 (by decide) (fun h_5 => ?_) (fun h_5 => ?_)
          · have hf := zf h_5 hf
            exact kX5_route_50 hC0 hQ hf hP hD hS (lv_sub hl [1, 2, 3, 0] rfl)
          · have hf := zt h_5 hf
            refine lv_bipush (v := (-104 : Int32)) hx hb dX5_route_47 (by decide) ?_
            exact zri hf hQ hP hD hS dX5_route_49
      · have hf := zt h_3 hf
        refine lv_bipush (v := (-103 : Int32)) hx hb dX5_route_28 (by decide) ?_
        exact zri hf hQ hP hD hS dX5_route_30
    · have hf := zt h_2 hf
      refine lv_bipush (v := (-102 : Int32)) hx hb dX5_route_14 (by decide) ?_
      exact zri hf hQ hP hD hS dX5_route_16
theorem tX5_route {S : zS} {x1 : Int32} {x2 : Int32} {r : Int32 × zS} (hf : fX5_route S x1 x2 = some r) : zMi l yX5_route wsX5_route rmX5_route D (zT cI cZ) A (wM a cI cZ) [.ref (a 0), .int x1, .int x2] S r :=
  zMi_of (by decide) rfl rfl (Nat.le_of_ble_eq_true rfl) (fun hC0 hQ hP hD hS _ hl => kX5_route hC0 hQ hf hP hD hS hl)
abbrev rmX5_hint : Room := { frames := 2, cells := 0, slots := 0, locals := 42 }
theorem iwX5_hint_5 : ∀ w ∈ wsX50, w ∈ wsX5_hint := fun _ h => List.mem_cons_of_mem _ (List.mem_append_right _ h)
set_option maxHeartbeats 4000000 in
set_option maxRecDepth 100000 in
theorem kX5_hint_38 {r : Int32 × zS} (hC0 : zC p m c cX5_hint 2 s args wsX5_hint RX5 D cI cZ) (hQ : zRi p l e rmX5_hint s m args below meth c cX5_hint D A (wM a cI cZ) Q r) {S : zS} {x1 : Int32} (hf : fX5_hint_38 S x1 = some r) {H : Heap} {locs : List Loc} (hP : va_P D vwCl (wM a cI cZ S) H) (hD : va_D A (wM a cI cZ S)) (hS : va_S A s.heap H locs) {ls : Array Slot} (hl : lv_has ls 2 [(0, .ref (a 0)), (1, .int x1)]) : W p l e rmX5_hint s m args below meth c H locs 0 0 Q (F0 m 38 ls []) := by
  obtain ⟨hC, hK, hN⟩ := id hC0
  obtain ⟨hx, hb, hml, hown, hts⟩ := id hC
  have iw5 := iwX5_hint_5
  unfold fX5_hint_38 at hf
  refine lv_aload_n hx hb dX5_hint_38 rfl (lv_at hl 0 rfl) ?_
  refine gM5_state hx hb hts iw5 hown hK hP (List.mem_of_getElem? (i := 2) rfl) dX5_hint_39 ?_
  refine lv_iload_n hx hb dX5_hint_42 rfl (lv_at hl 1 rfl) ?_
  refine lM5_state hf hx hb hK hP dX5_hint_43 (fun hf => ?_)
  exact zri hf hQ hP hD hS dX5_hint_44
set_option maxHeartbeats 4000000 in
set_option maxRecDepth 100000 in
theorem kX5_hint {r : Int32 × zS} (hC0 : zC p m c cX5_hint 2 s args wsX5_hint RX5 D cI cZ) (hQ : zRi p l e rmX5_hint s m args below meth c cX5_hint D A (wM a cI cZ) Q r) {S : zS} {x1 : Int32} (hf : fX5_hint S x1 = some r) {H : Heap} {locs : List Loc} (hP : va_P D vwCl (wM a cI cZ S) H) (hD : va_D A (wM a cI cZ S)) (hS : va_S A s.heap H locs) {ls : Array Slot} (hl : lv_has ls 2 [(0, .ref (a 0)), (1, .int x1)]) : W p l e rmX5_hint s m args below meth c H locs 0 0 Q (F0 m 0 ls []) := by
  obtain ⟨hC, hK, hN⟩ := id hC0
  obtain ⟨hx, hb, hml, hown, hts⟩ := id hC
  have iw5 := iwX5_hint_5
  unfold fX5_hint at hf
  refine lv_iload_n hx hb dX5_hint_0 rfl (lv_at hl 1 rfl) ?_
  obtain ⟨y_1, S_1, hg_1, hf⟩ := obnd_some hf
  refine zci (va_runS (As := [.int x1]) (rest := []) hC (tX5_isAddress hg_1) (va_cwS 1 hts gX5_hint_X5_isAddress rfl rfl rfl (by decide +kernel) ⟨Nat.le_of_ble_eq_true rfl, Nat.le_of_ble_eq_true rfl⟩) (zpS hP hK hD hN) rfl rfl hl.1 rfl (lv_room (Nat.le_of_ble_eq_true rfl)) dX5_hint_1 ⟨Nat.zero_le _, Nat.zero_le _⟩) hS (fun H locs hP hD hS => ?_)
  refine lv_if_ne (tgt := 10) hx hb dX5_hint_4 (by decide) (fun h_1 => ?_) (fun h_1 => ?_)
  · have hf := zf h_1 hf
    refine lv_aload_n hx hb dX5_hint_10 rfl (lv_at hl 0 rfl) ?_
    refine gM5_isThere hx hb hts iw5 hown hK hP (List.mem_of_getElem? (i := 1) rfl) dX5_hint_11 ?_
    refine lv_iload_n hx hb dX5_hint_14 rfl (lv_at hl 1 rfl) ?_
    refine lM5_isThere hf hx hb hK hP dX5_hint_15 (fun hf => ?_)
    refine lv_if_ne (tgt := 21) hx hb dX5_hint_16 (by decide) (fun h_2 => ?_) (fun h_2 => ?_)
    · have hf := zf h_2 hf
      refine lv_aload_n hx hb dX5_hint_21 rfl (lv_at hl 0 rfl) ?_
      refine gM5_state hx hb hts iw5 hown hK hP (List.mem_of_getElem? (i := 2) rfl) dX5_hint_22 ?_
      refine lv_iload_n hx hb dX5_hint_25 rfl (lv_at hl 1 rfl) ?_
      refine lM5_state hf hx hb hK hP dX5_hint_26 (fun hf => ?_)
      refine lv_if_eq (tgt := 38) hx hb dX5_hint_27 (by decide) (fun h_3 => ?_) (fun h_3 => ?_)
      · have hf := zt h_3 hf
        exact kX5_hint_38 hC0 hQ hf hP hD hS (lv_sub hl [0, 1] rfl)
      · have hf := zf h_3 hf
        refine lv_aload_n hx hb dX5_hint_30 rfl (lv_at hl 0 rfl) ?_
        refine lv_iload_n hx hb dX5_hint_31 rfl (lv_at hl 1 rfl) ?_
        refine lv_iconst (v := (1 : Int32)) hx hb dX5_hint_32 (by decide) ?_
        refine lv_bipush (v := (30 : Int32)) hx hb dX5_hint_33 (by decide) ?_
        obtain ⟨S_2, hg_2, hf⟩ := obnv_some hf
        refine zcv (va_runV (As := [.int x1, .int (1 : Int32), .int (30 : Int32)]) (rest := []) hC (tX5_become hg_2) (cwV 3 hts gX5_hint_X5_become rfl rfl rfl (by decide +kernel) ⟨Nat.le_of_ble_eq_true rfl, Nat.le_of_ble_eq_true rfl⟩) (zpV hP hK hD hN (rM_0 hK hP)) rfl rfl hl.1 rfl (lv_room (Nat.le_of_ble_eq_true rfl)) dX5_hint_35 ⟨Nat.zero_le _, Nat.zero_le _⟩) hS (fun H locs hP hD hS => ?_)
        exact kX5_hint_38 hC0 hQ hf hP hD hS (lv_sub hl [0, 1] rfl)
    · have hf := zt h_2 hf
      refine lv_iconst (v := (-1 : Int32)) hx hb dX5_hint_19 (by decide) ?_
      exact zri hf hQ hP hD hS dX5_hint_20
  · have hf := zt h_1 hf
    refine lv_bipush (v := (-102 : Int32)) hx hb dX5_hint_7 (by decide) ?_
    exact zri hf hQ hP hD hS dX5_hint_9
theorem tX5_hint {S : zS} {x1 : Int32} {r : Int32 × zS} (hf : fX5_hint S x1 = some r) : zMi l yX5_hint wsX5_hint rmX5_hint D (zT cI cZ) A (wM a cI cZ) [.ref (a 0), .int x1] S r :=
  zMi_of (by decide) rfl rfl (Nat.le_of_ble_eq_true rfl) (fun hC0 hQ hP hD hS _ hl => kX5_hint hC0 hQ hf hP hD hS hl)
abbrev rmX5_freshen : Room := { frames := 1, cells := 0, slots := 0, locals := 23 }
theorem iwX5_freshen_5 : ∀ w ∈ wsX50, w ∈ wsX5_freshen := fun _ h => List.mem_cons_of_mem _ (List.mem_append_right _ h)
set_option maxHeartbeats 4000000 in
set_option maxRecDepth 100000 in
theorem kX5_freshen {r : zS} (hC0 : zC p m c cX5_freshen 3 s args wsX5_freshen RX5 D cI cZ) (hQ : zRv p l e rmX5_freshen s m args below meth c cX5_freshen D A (wM a cI cZ) Q r) {S : zS} {x1 : Int32} {x2 : Int32} (hf : fX5_freshen S x1 x2 = some r) {H : Heap} {locs : List Loc} (hP : va_P D vwCl (wM a cI cZ S) H) (hD : va_D A (wM a cI cZ S)) (hS : va_S A s.heap H locs) {ls : Array Slot} (hl : lv_has ls 3 [(0, .ref (a 0)), (1, .int x1), (2, .int x2)]) : W p l e rmX5_freshen s m args below meth c H locs 0 0 Q (F0 m 0 ls []) := by
  obtain ⟨hC, hK, hN⟩ := id hC0
  obtain ⟨hx, hb, hml, hown, hts⟩ := id hC
  have iw5 := iwX5_freshen_5
  unfold fX5_freshen at hf
  refine lv_aload_n hx hb dX5_freshen_0 rfl (lv_at hl 0 rfl) ?_
  refine gM5_mark hx hb hts iw5 hown hK hP (List.mem_of_getElem? (i := 1) rfl) dX5_freshen_1 ?_
  refine lv_iload_n hx hb dX5_freshen_4 rfl (lv_at hl 1 rfl) ?_
  refine lv_iload_n hx hb dX5_freshen_5 rfl (lv_at hl 2 rfl) ?_
  refine sM5_mark hf hx hb hK hP hD hS dX5_freshen_6 (fun S_1 H locs hf hP hD hS => ?_)
  refine lv_aload_n hx hb dX5_freshen_7 rfl (lv_at hl 0 rfl) ?_
  refine lv_iload_n hx hb dX5_freshen_8 rfl (lv_at hl 1 rfl) ?_
  refine lv_iconst (v := (1 : Int32)) hx hb dX5_freshen_9 (by decide) ?_
  refine lv_bipush (v := (30 : Int32)) hx hb dX5_freshen_10 (by decide) ?_
  obtain ⟨S_2, hg_1, hf⟩ := obnv_some hf
  refine zcv (va_runV (As := [.int x1, .int (1 : Int32), .int (30 : Int32)]) (rest := []) hC (tX5_become hg_1) (cwV 3 hts gX5_freshen_X5_become rfl rfl rfl (by decide +kernel) ⟨Nat.le_of_ble_eq_true rfl, Nat.le_of_ble_eq_true rfl⟩) (zpV hP hK hD hN (rM_0 hK hP)) rfl rfl hl.1 rfl (lv_room (Nat.le_of_ble_eq_true rfl)) dX5_freshen_12 ⟨Nat.zero_le _, Nat.zero_le _⟩) hS (fun H locs hP hD hS => ?_)
  exact zrv hf hQ hP hD hS dX5_freshen_15
theorem tX5_freshen {S : zS} {x1 : Int32} {x2 : Int32} {r : zS} (hf : fX5_freshen S x1 x2 = some r) : zMv l yX5_freshen wsX5_freshen rmX5_freshen D (zT cI cZ) A (wM a cI cZ) [.ref (a 0), .int x1, .int x2] S r :=
  zMv_of (by decide) rfl rfl (Nat.le_of_ble_eq_true rfl) (fun hC0 hQ hP hD hS _ hl => kX5_freshen hC0 hQ hf hP hD hS hl)
abbrev rmX5_answerAsking : Room := { frames := 2, cells := 0, slots := 0, locals := 48 }
theorem iwX5_answerAsking_5 : ∀ w ∈ wsX50, w ∈ wsX5_answerAsking := fun _ h => List.mem_cons_of_mem _ (List.mem_append_right _ h)
set_option maxHeartbeats 4000000 in
set_option maxRecDepth 100000 in
theorem kX5_answerAsking_29 {r : zS} (hC0 : zC p m c cX5_answerAsking 4 s args wsX5_answerAsking RX5 D cI cZ) (hQ : zRv p l e rmX5_answerAsking s m args below meth c cX5_answerAsking D A (wM a cI cZ) Q r) {S : zS} {x1 : Int32} (hf : fX5_answerAsking_29 S x1 = some r) {H : Heap} {locs : List Loc} (hP : va_P D vwCl (wM a cI cZ S) H) (hD : va_D A (wM a cI cZ S)) (hS : va_S A s.heap H locs) {ls : Array Slot} (hl : lv_has ls 4 [(0, .ref (a 0)), (1, .int x1)]) : W p l e rmX5_answerAsking s m args below meth c H locs 0 0 Q (F0 m 29 ls []) := by
  obtain ⟨hC, hK, hN⟩ := id hC0
  obtain ⟨hx, hb, hml, hown, hts⟩ := id hC
  have iw5 := iwX5_answerAsking_5
  unfold fX5_answerAsking_29 at hf
  refine lv_aload_n hx hb dX5_answerAsking_29 rfl (lv_at hl 0 rfl) ?_
  refine lv_iload_n hx hb dX5_answerAsking_30 rfl (lv_at hl 1 rfl) ?_
  obtain ⟨S_1, hg_1, hf⟩ := obnv_some hf
  refine zcv (va_runV (As := [.int x1]) (rest := []) hC (tX5_letGo hg_1) (cwV 1 hts gX5_answerAsking_X5_letGo rfl rfl rfl (by decide +kernel) ⟨Nat.le_of_ble_eq_true rfl, Nat.le_of_ble_eq_true rfl⟩) (zpV hP hK hD hN (rM_0 hK hP)) rfl rfl hl.1 rfl (lv_room (Nat.le_of_ble_eq_true rfl)) dX5_answerAsking_31 ⟨Nat.zero_le _, Nat.zero_le _⟩) hS (fun H locs hP hD hS => ?_)
  exact zrv hf hQ hP hD hS dX5_answerAsking_34
set_option maxHeartbeats 4000000 in
set_option maxRecDepth 100000 in
theorem kX5_answerAsking {r : zS} (hC0 : zC p m c cX5_answerAsking 4 s args wsX5_answerAsking RX5 D cI cZ) (hQ : zRv p l e rmX5_answerAsking s m args below meth c cX5_answerAsking D A (wM a cI cZ) Q r) {S : zS} {x1 : Int32} {x2 : Int32} {x3 : Int32} (hf : fX5_answerAsking S x1 x2 x3 = some r) {H : Heap} {locs : List Loc} (hP : va_P D vwCl (wM a cI cZ S) H) (hD : va_D A (wM a cI cZ S)) (hS : va_S A s.heap H locs) {ls : Array Slot} (hl : lv_has ls 4 [(0, .ref (a 0)), (1, .int x1), (2, .int x2), (3, .int x3)]) : W p l e rmX5_answerAsking s m args below meth c H locs 0 0 Q (F0 m 0 ls []) := by
  obtain ⟨hC, hK, hN⟩ := id hC0
  obtain ⟨hx, hb, hml, hown, hts⟩ := id hC
  have iw5 := iwX5_answerAsking_5
  unfold fX5_answerAsking at hf
  refine lv_aload_n hx hb dX5_answerAsking_0 rfl (lv_at hl 0 rfl) ?_
  refine gM5_mark hx hb hts iw5 hown hK hP (List.mem_of_getElem? (i := 1) rfl) dX5_answerAsking_1 ?_
  refine lv_iload_n hx hb dX5_answerAsking_4 rfl (lv_at hl 1 rfl) ?_
  refine lv_iload_n hx hb dX5_answerAsking_5 rfl (lv_at hl 2 rfl) ?_
  refine sM5_mark hf hx hb hK hP hD hS dX5_answerAsking_6 (fun S_1 H locs hf hP hD hS => ?_)
  refine lv_iload_n hx hb dX5_answerAsking_7 rfl (lv_at hl 3 rfl) ?_
  refine lv_if_eq (tgt := 22) hx hb dX5_answerAsking_8 (by decide) (fun h_1 => ?_) (fun h_1 => ?_)
  · have hf := zt h_1 hf
    refine lv_aload_n hx hb dX5_answerAsking_22 rfl (lv_at hl 0 rfl) ?_
    refine lv_iload_n hx hb dX5_answerAsking_23 rfl (lv_at hl 1 rfl) ?_
    refine lv_iconst (v := (2 : Int32)) hx hb dX5_answerAsking_24 (by decide) ?_
    refine lv_iconst (v := (0 : Int32)) hx hb dX5_answerAsking_25 (by decide) ?_
    obtain ⟨S_2, hg_1, hf⟩ := obnv_some hf
    refine zcv (va_runV (As := [.int x1, .int (2 : Int32), .int (0 : Int32)]) (rest := []) hC (tX5_become hg_1) (cwV 3 hts gX5_answerAsking_X5_become rfl rfl rfl (by decide +kernel) ⟨Nat.le_of_ble_eq_true rfl, Nat.le_of_ble_eq_true rfl⟩) (zpV hP hK hD hN (rM_0 hK hP)) rfl rfl hl.1 rfl (lv_room (Nat.le_of_ble_eq_true rfl)) dX5_answerAsking_26 ⟨Nat.zero_le _, Nat.zero_le _⟩) hS (fun H locs hP hD hS => ?_)
    exact kX5_answerAsking_29 hC0 hQ hf hP hD hS (lv_sub hl [0, 1] rfl)
  · have hf := zf h_1 hf
    refine lv_aload_n hx hb dX5_answerAsking_11 rfl (lv_at hl 0 rfl) ?_
    refine lv_iload_n hx hb dX5_answerAsking_12 rfl (lv_at hl 1 rfl) ?_
    refine lv_iconst (v := (1 : Int32)) hx hb dX5_answerAsking_13 (by decide) ?_
    refine lv_bipush (v := (30 : Int32)) hx hb dX5_answerAsking_14 (by decide) ?_
    obtain ⟨S_3, hg_2, hf⟩ := obnv_some hf
    refine zcv (va_runV (As := [.int x1, .int (1 : Int32), .int (30 : Int32)]) (rest := []) hC (tX5_become hg_2) (cwV 3 hts gX5_answerAsking_X5_become rfl rfl rfl (by decide +kernel) ⟨Nat.le_of_ble_eq_true rfl, Nat.le_of_ble_eq_true rfl⟩) (zpV hP hK hD hN (rM_0 hK hP)) rfl rfl hl.1 rfl (lv_room (Nat.le_of_ble_eq_true rfl)) dX5_answerAsking_16 ⟨Nat.zero_le _, Nat.zero_le _⟩) hS (fun H locs hP hD hS => ?_)
    refine lv_goto (tgt := 29) hx hb dX5_answerAsking_19 (by decide) ?_
    exact kX5_answerAsking_29 hC0 hQ hf hP hD hS (lv_sub hl [0, 1] rfl)
theorem tX5_answerAsking {S : zS} {x1 : Int32} {x2 : Int32} {x3 : Int32} {r : zS} (hf : fX5_answerAsking S x1 x2 x3 = some r) : zMv l yX5_answerAsking wsX5_answerAsking rmX5_answerAsking D (zT cI cZ) A (wM a cI cZ) [.ref (a 0), .int x1, .int x2, .int x3] S r :=
  zMv_of (by decide) rfl rfl (Nat.le_of_ble_eq_true rfl) (fun hC0 hQ hP hD hS _ hl => kX5_answerAsking hC0 hQ hf hP hD hS hl)
abbrev rmX5_answerKnown : Room := { frames := 2, cells := 0, slots := 0, locals := 45 }
theorem iwX5_answerKnown_5 : ∀ w ∈ wsX50, w ∈ wsX5_answerKnown := fun _ h => List.mem_cons_of_mem _ (List.mem_append_right _ h)
set_option maxHeartbeats 4000000 in
set_option maxRecDepth 100000 in
theorem kX5_answerKnown_45 {r : zS} (hC0 : zC p m c cX5_answerKnown 6 s args wsX5_answerKnown RX5 D cI cZ) (hQ : zRv p l e rmX5_answerKnown s m args below meth c cX5_answerKnown D A (wM a cI cZ) Q r) {S : zS} {x1 : Int32} {x2 : Int32} {x3 : Int32} {x5 : Int32} (hf : fX5_answerKnown_45 S x1 x2 x3 x5 = some r) {H : Heap} {locs : List Loc} (hP : va_P D vwCl (wM a cI cZ S) H) (hD : va_D A (wM a cI cZ S)) (hS : va_S A s.heap H locs) {ls : Array Slot} (hl : lv_has ls 6 [(0, .ref (a 0)), (1, .int x1), (2, .int x2), (3, .int x3), (5, .int x5)]) : W p l e rmX5_answerKnown s m args below meth c H locs 0 0 Q (F0 m 45 ls []) := by
  obtain ⟨hC, hK, hN⟩ := id hC0
  obtain ⟨hx, hb, hml, hown, hts⟩ := id hC
  have iw5 := iwX5_answerKnown_5
  unfold fX5_answerKnown_45 at hf
  refine lv_iload_n hx hb dX5_answerKnown_45 rfl (lv_at hl 3 rfl) ?_
  refine lv_if_eq (tgt := 58) hx hb dX5_answerKnown_46 (by decide) (fun h_1 => ?_) (fun h_1 => ?_)
  · have hf := zt h_1 hf
    refine lv_iload hx hb dX5_answerKnown_58 (lv_at hl 4 rfl) ?_
    refine lv_if_eq (tgt := 77) hx hb dX5_answerKnown_60 (by decide) (fun h_2 => ?_) (fun h_2 => ?_)
    · have hf := zt h_2 hf
      exact zrv hf hQ hP hD hS dX5_answerKnown_77
    · have hf := zf h_2 hf
      refine lv_aload_n hx hb dX5_answerKnown_63 rfl (lv_at hl 0 rfl) ?_
      refine gM5_mark hx hb hts iw5 hown hK hP (List.mem_of_getElem? (i := 1) rfl) dX5_answerKnown_64 ?_
      refine lv_iload_n hx hb dX5_answerKnown_67 rfl (lv_at hl 1 rfl) ?_
      refine lv_iload_n hx hb dX5_answerKnown_68 rfl (lv_at hl 2 rfl) ?_
      refine sM5_mark hf hx hb hK hP hD hS dX5_answerKnown_69 (fun S_1 H locs hf hP hD hS => ?_)
      refine lv_aload_n hx hb dX5_answerKnown_70 rfl (lv_at hl 0 rfl) ?_
      refine lv_iload_n hx hb dX5_answerKnown_71 rfl (lv_at hl 1 rfl) ?_
      refine lv_iconst (v := (2 : Int32)) hx hb dX5_answerKnown_72 (by decide) ?_
      refine lv_iconst (v := (0 : Int32)) hx hb dX5_answerKnown_73 (by decide) ?_
      obtain ⟨S_2, hg_1, hf⟩ := obnv_some hf
      refine zcv (va_runV (As := [.int x1, .int (2 : Int32), .int (0 : Int32)]) (rest := []) hC (tX5_become hg_1) (cwV 3 hts gX5_answerKnown_X5_become rfl rfl rfl (by decide +kernel) ⟨Nat.le_of_ble_eq_true rfl, Nat.le_of_ble_eq_true rfl⟩) (zpV hP hK hD hN (rM_0 hK hP)) rfl rfl hl.1 rfl (lv_room (Nat.le_of_ble_eq_true rfl)) dX5_answerKnown_74 ⟨Nat.zero_le _, Nat.zero_le _⟩) hS (fun H locs hP hD hS => ?_)
      exact zrv hf hQ hP hD hS dX5_answerKnown_77
  · have hf := zf h_1 hf
    refine lv_aload_n hx hb dX5_answerKnown_49 rfl (lv_at hl 0 rfl) ?_
    refine lv_iload_n hx hb dX5_answerKnown_50 rfl (lv_at hl 1 rfl) ?_
    refine lv_iload_n hx hb dX5_answerKnown_51 rfl (lv_at hl 2 rfl) ?_
    obtain ⟨S_3, hg_2, hf⟩ := obnv_some hf
    refine zcv (va_runV (As := [.int x1, .int x2]) (rest := []) hC (tX5_freshen hg_2) (cwV 2 hts gX5_answerKnown_X5_freshen rfl rfl rfl (by decide +kernel) ⟨Nat.le_of_ble_eq_true rfl, Nat.le_of_ble_eq_true rfl⟩) (zpV hP hK hD hN (rM_0 hK hP)) rfl rfl hl.1 rfl (lv_room (Nat.le_of_ble_eq_true rfl)) dX5_answerKnown_52 ⟨Nat.zero_le _, Nat.zero_le _⟩) hS (fun H locs hP hD hS => ?_)
    refine lv_goto (tgt := 77) hx hb dX5_answerKnown_55 (by decide) ?_
    exact zrv hf hQ hP hD hS dX5_answerKnown_77
set_option maxHeartbeats 4000000 in
set_option maxRecDepth 100000 in
theorem kX5_answerKnown_15 {r : zS} (hC0 : zC p m c cX5_answerKnown 6 s args wsX5_answerKnown RX5 D cI cZ) (hQ : zRv p l e rmX5_answerKnown s m args below meth c cX5_answerKnown D A (wM a cI cZ) Q r) {S : zS} {x1 : Int32} {x2 : Int32} {x3 : Int32} {x4 : Int32} {t0 : Int32} (hf : fX5_answerKnown_15 S x1 x2 x3 x4 t0 = some r) {H : Heap} {locs : List Loc} (hP : va_P D vwCl (wM a cI cZ S) H) (hD : va_D A (wM a cI cZ S)) (hS : va_S A s.heap H locs) {ls : Array Slot} (hl : lv_has ls 6 [(0, .ref (a 0)), (1, .int x1), (2, .int x2), (3, .int x3), (4, .int x4)]) : W p l e rmX5_answerKnown s m args below meth c H locs 0 0 Q (F0 m 15 ls [.int t0]) := by
  obtain ⟨hC, hK, hN⟩ := id hC0
  obtain ⟨hx, hb, hml, hown, hts⟩ := id hC
  have iw5 := iwX5_answerKnown_5
  unfold fX5_answerKnown_15 at hf
  refine z_istore hf hx hb (fun y => [(5, .int y), (0, .ref (a 0)), (1, .int x1), (2, .int x2), (3, .int x3), (4, .int x4)]) dX5_answerKnown_15 hl (by decide) (fun _ => rfl) (fun y_1 ls hf hl => ?_)
  refine lv_iload hx hb dX5_answerKnown_17 (lv_at hl 0 rfl) ?_
  refine lv_if_eq (tgt := 45) hx hb dX5_answerKnown_19 (by decide) (fun h_1 => ?_) (fun h_1 => ?_)
  · have hf := zt h_1 hf
    exact kX5_answerKnown_45 hC0 hQ hf hP hD hS (lv_sub hl [1, 2, 3, 4, 0] rfl)
  · have hf := zf h_1 hf
    refine lv_iload hx hb dX5_answerKnown_22 (lv_at hl 5 rfl) ?_
    refine lv_if_ne (tgt := 45) hx hb dX5_answerKnown_24 (by decide) (fun h_2 => ?_) (fun h_2 => ?_)
    · have hf := zf h_2 hf
      exact kX5_answerKnown_45 hC0 hQ hf hP hD hS (lv_sub hl [1, 2, 3, 4, 0] rfl)
    · have hf := zt h_2 hf
      refine lv_aload_n hx hb dX5_answerKnown_27 rfl (lv_at hl 1 rfl) ?_
      refine gM5_state hx hb hts iw5 hown hK hP (List.mem_of_getElem? (i := 2) rfl) dX5_answerKnown_28 ?_
      refine lv_iload_n hx hb dX5_answerKnown_31 rfl (lv_at hl 2 rfl) ?_
      refine lM5_state hf hx hb hK hP dX5_answerKnown_32 (fun hf => ?_)
      refine lv_iconst (v := (1 : Int32)) hx hb dX5_answerKnown_33 (by decide) ?_
      refine lv_icmp_ne (tgt := 44) hx hb dX5_answerKnown_34 (by decide) (fun h_3 => ?_) (fun h_3 => ?_)
      · have hf := zf h_3 hf
        exact zrv hf hQ hP hD hS dX5_answerKnown_44
      · have hf := zt h_3 hf
        refine lv_aload_n hx hb dX5_answerKnown_37 rfl (lv_at hl 1 rfl) ?_
        refine lv_iload_n hx hb dX5_answerKnown_38 rfl (lv_at hl 2 rfl) ?_
        refine lv_iconst (v := (2 : Int32)) hx hb dX5_answerKnown_39 (by decide) ?_
        refine lv_iconst (v := (0 : Int32)) hx hb dX5_answerKnown_40 (by decide) ?_
        obtain ⟨S_1, hg_1, hf⟩ := obnv_some hf
        refine zcv (va_runV (As := [.int x1, .int (2 : Int32), .int (0 : Int32)]) (rest := []) hC (tX5_become hg_1) (cwV 3 hts gX5_answerKnown_X5_become rfl rfl rfl (by decide +kernel) ⟨Nat.le_of_ble_eq_true rfl, Nat.le_of_ble_eq_true rfl⟩) (zpV hP hK hD hN (rM_0 hK hP)) rfl rfl hl.1 rfl (lv_room (Nat.le_of_ble_eq_true rfl)) dX5_answerKnown_41 ⟨Nat.zero_le _, Nat.zero_le _⟩) hS (fun H locs hP hD hS => ?_)
        exact zrv hf hQ hP hD hS dX5_answerKnown_44
set_option maxHeartbeats 4000000 in
set_option maxRecDepth 100000 in
theorem kX5_answerKnown {r : zS} (hC0 : zC p m c cX5_answerKnown 6 s args wsX5_answerKnown RX5 D cI cZ) (hQ : zRv p l e rmX5_answerKnown s m args below meth c cX5_answerKnown D A (wM a cI cZ) Q r) {S : zS} {x1 : Int32} {x2 : Int32} {x3 : Int32} {x4 : Int32} (hf : fX5_answerKnown S x1 x2 x3 x4 = some r) {H : Heap} {locs : List Loc} (hP : va_P D vwCl (wM a cI cZ S) H) (hD : va_D A (wM a cI cZ S)) (hS : va_S A s.heap H locs) {ls : Array Slot} (hl : lv_has ls 6 [(0, .ref (a 0)), (1, .int x1), (2, .int x2), (3, .int x3), (4, .int x4)]) : W p l e rmX5_answerKnown s m args below meth c H locs 0 0 Q (F0 m 0 ls []) := by
  obtain ⟨hC, hK, hN⟩ := id hC0
  obtain ⟨hx, hb, hml, hown, hts⟩ := id hC
  have iw5 := iwX5_answerKnown_5
  unfold fX5_answerKnown at hf
  refine lv_aload_n hx hb dX5_answerKnown_0 rfl (lv_at hl 0 rfl) ?_
  refine gM5_mark hx hb hts iw5 hown hK hP (List.mem_of_getElem? (i := 1) rfl) dX5_answerKnown_1 ?_
  refine lv_iload_n hx hb dX5_answerKnown_4 rfl (lv_at hl 1 rfl) ?_
  refine lM5_mark hf hx hb hK hP dX5_answerKnown_5 (fun hf => ?_)
  refine lv_iload_n hx hb dX5_answerKnown_6 rfl (lv_at hl 2 rfl) ?_
  refine lv_icmp_eq (tgt := 14) hx hb dX5_answerKnown_7 (by decide) (fun h_1 => ?_) (fun h_1 => ?_)
  · have hf := zt h_1 hf
    refine lv_iconst (v := (0 : Int32)) hx hb dX5_answerKnown_14 (by decide) ?_
    exact kX5_answerKnown_15 hC0 hQ hf hP hD hS (lv_sub hl [0, 1, 2, 3, 4] rfl)
  · have hf := zf h_1 hf
    refine lv_iconst (v := (1 : Int32)) hx hb dX5_answerKnown_10 (by decide) ?_
    refine lv_goto (tgt := 15) hx hb dX5_answerKnown_11 (by decide) ?_
    exact kX5_answerKnown_15 hC0 hQ hf hP hD hS (lv_sub hl [0, 1, 2, 3, 4] rfl)
theorem tX5_answerKnown {S : zS} {x1 : Int32} {x2 : Int32} {x3 : Int32} {x4 : Int32} {r : zS} (hf : fX5_answerKnown S x1 x2 x3 x4 = some r) : zMv l yX5_answerKnown wsX5_answerKnown rmX5_answerKnown D (zT cI cZ) A (wM a cI cZ) [.ref (a 0), .int x1, .int x2, .int x3, .int x4] S r :=
  zMv_of (by decide) rfl rfl (Nat.le_of_ble_eq_true rfl) (fun hC0 hQ hP hD hS _ hl => kX5_answerKnown hC0 hQ hf hP hD hS hl)
abbrev rmX5_answered : Room := { frames := 3, cells := 0, slots := 0, locals := 71 }
theorem iwX5_answered_5 : ∀ w ∈ wsX50, w ∈ wsX5_answered := fun _ h => List.mem_cons_of_mem _ (List.mem_append_right _ h)
set_option maxHeartbeats 4000000 in
set_option maxRecDepth 100000 in
theorem kX5_answered_105 {r : Int32 × zS} (hC0 : zC p m c cX5_answered 6 s args wsX5_answered RX5 D cI cZ) (hQ : zRi p l e rmX5_answered s m args below meth c cX5_answered D A (wM a cI cZ) Q r) {S : zS} {x1 : Int32} {t1 : Int32} {t2 : Int32} (hf : fX5_answered_105 S x1 t1 t2 = some r) {H : Heap} {locs : List Loc} (hP : va_P D vwCl (wM a cI cZ S) H) (hD : va_D A (wM a cI cZ S)) (hS : va_S A s.heap H locs) {ls : Array Slot} (hl : lv_has ls 6 [(0, .ref (a 0)), (1, .int x1)]) : W p l e rmX5_answered s m args below meth c H locs 0 0 Q (F0 m 105 ls [.int t2, .int t1, .ref (a 9)]) := by
  obtain ⟨hC, hK, hN⟩ := id hC0
  obtain ⟨hx, hb, hml, hown, hts⟩ := id hC
  have iw5 := iwX5_answered_5
  unfold fX5_answered_105 at hf
  refine sM5_isRouter hf hx hb hK hP hD hS dX5_answered_105 (fun S_1 H locs hf hP hD hS => ?_)
  refine lv_aload_n hx hb dX5_answered_106 rfl (lv_at hl 0 rfl) ?_
  refine gM5_state hx hb hts iw5 hown hK hP (List.mem_of_getElem? (i := 4) rfl) dX5_answered_107 ?_
  refine lv_iload_n hx hb dX5_answered_110 rfl (lv_at hl 1 rfl) ?_
  refine lM5_state hf hx hb hK hP dX5_answered_111 (fun hf => ?_)
  exact zri hf hQ hP hD hS dX5_answered_112
set_option maxHeartbeats 4000000 in
set_option maxRecDepth 100000 in
theorem kX5_answered_104 {r : Int32 × zS} (hC0 : zC p m c cX5_answered 6 s args wsX5_answered RX5 D cI cZ) (hQ : zRi p l e rmX5_answered s m args below meth c cX5_answered D A (wM a cI cZ) Q r) {S : zS} {x1 : Int32} {t1 : Int32} (hf : fX5_answered_104 S x1 t1 = some r) {H : Heap} {locs : List Loc} (hP : va_P D vwCl (wM a cI cZ S) H) (hD : va_D A (wM a cI cZ S)) (hS : va_S A s.heap H locs) {ls : Array Slot} (hl : lv_has ls 6 [(0, .ref (a 0)), (1, .int x1)]) : W p l e rmX5_answered s m args below meth c H locs 0 0 Q (F0 m 104 ls [.int t1, .ref (a 9)]) := by
  obtain ⟨hC, hK, hN⟩ := id hC0
  obtain ⟨hx, hb, hml, hown, hts⟩ := id hC
  have iw5 := iwX5_answered_5
  unfold fX5_answered_104 at hf
  refine lv_iconst (v := (0 : Int32)) hx hb dX5_answered_104 (by decide) ?_
  exact kX5_answered_105 hC0 hQ hf hP hD hS (lv_sub hl [0, 1] rfl)
set_option maxHeartbeats 4000000 in
set_option maxRecDepth 100000 in
theorem kX5_answered_81 {r : Int32 × zS} (hC0 : zC p m c cX5_answered 6 s args wsX5_answered RX5 D cI cZ) (hQ : zRi p l e rmX5_answered s m args below meth c cX5_answered D A (wM a cI cZ) Q r) {S : zS} {x1 : Int32} {x5 : Int32} (hf : fX5_answered_81 S x1 x5 = some r) {H : Heap} {locs : List Loc} (hP : va_P D vwCl (wM a cI cZ S) H) (hD : va_D A (wM a cI cZ S)) (hS : va_S A s.heap H locs) {ls : Array Slot} (hl : lv_has ls 6 [(0, .ref (a 0)), (1, .int x1), (5, .int x5)]) : W p l e rmX5_answered s m args below meth c H locs 0 0 Q (F0 m 81 ls []) := by
  obtain ⟨hC, hK, hN⟩ := id hC0
  obtain ⟨hx, hb, hml, hown, hts⟩ := id hC
  have iw5 := iwX5_answered_5
  unfold fX5_answered_81 at hf
  refine lv_aload_n hx hb dX5_answered_81 rfl (lv_at hl 0 rfl) ?_
  refine gM5_isRouter hx hb hts iw5 hown hK hP (List.mem_of_getElem? (i := 5) rfl) dX5_answered_82 ?_
  refine lv_iload_n hx hb dX5_answered_85 rfl (lv_at hl 1 rfl) ?_
  refine lv_aload_n hx hb dX5_answered_86 rfl (lv_at hl 0 rfl) ?_
  refine gM5_isRouter hx hb hts iw5 hown hK hP (List.mem_of_getElem? (i := 5) rfl) dX5_answered_87 ?_
  refine lv_iload_n hx hb dX5_answered_90 rfl (lv_at hl 1 rfl) ?_
  refine lM5_isRouter hf hx hb hK hP dX5_answered_91 (fun hf => ?_)
  refine lv_if_eq (tgt := 104) hx hb dX5_answered_92 (by decide) (fun h_1 => ?_) (fun h_1 => ?_)
  · have hf := zt h_1 hf
    exact kX5_answered_104 hC0 hQ hf hP hD hS (lv_sub hl [0, 1] rfl)
  · have hf := zf h_1 hf
    refine lv_iload hx hb dX5_answered_95 (lv_at hl 2 rfl) ?_
    refine lv_if_eq (tgt := 104) hx hb dX5_answered_97 (by decide) (fun h_2 => ?_) (fun h_2 => ?_)
    · have hf := zt h_2 hf
      exact kX5_answered_104 hC0 hQ hf hP hD hS (lv_sub hl [0, 1] rfl)
    · have hf := zf h_2 hf
      refine lv_iconst (v := (1 : Int32)) hx hb dX5_answered_100 (by decide) ?_
      refine lv_goto (tgt := 105) hx hb dX5_answered_101 (by decide) ?_
      exact kX5_answered_105 hC0 hQ hf hP hD hS (lv_sub hl [0, 1] rfl)
set_option maxHeartbeats 4000000 in
set_option maxRecDepth 100000 in
theorem kX5_answered_42 {r : Int32 × zS} (hC0 : zC p m c cX5_answered 6 s args wsX5_answered RX5 D cI cZ) (hQ : zRi p l e rmX5_answered s m args below meth c cX5_answered D A (wM a cI cZ) Q r) {S : zS} {x1 : Int32} {x2 : Int32} {x3 : Int32} {x4 : Int32} {x5 : Int32} (hf : fX5_answered_42 S x1 x2 x3 x4 x5 = some r) {H : Heap} {locs : List Loc} (hP : va_P D vwCl (wM a cI cZ S) H) (hD : va_D A (wM a cI cZ S)) (hS : va_S A s.heap H locs) {ls : Array Slot} (hl : lv_has ls 6 [(0, .ref (a 0)), (1, .int x1), (2, .int x2), (3, .int x3), (4, .int x4), (5, .int x5)]) : W p l e rmX5_answered s m args below meth c H locs 0 0 Q (F0 m 42 ls []) := by
  obtain ⟨hC, hK, hN⟩ := id hC0
  obtain ⟨hx, hb, hml, hown, hts⟩ := id hC
  have iw5 := iwX5_answered_5
  unfold fX5_answered_42 at hf
  refine lv_aload_n hx hb dX5_answered_42 rfl (lv_at hl 0 rfl) ?_
  refine gM5_isThere hx hb hts iw5 hown hK hP (List.mem_of_getElem? (i := 3) rfl) dX5_answered_43 ?_
  refine lv_iload_n hx hb dX5_answered_46 rfl (lv_at hl 1 rfl) ?_
  refine lM5_isThere hf hx hb hK hP dX5_answered_47 (fun hf => ?_)
  refine lv_if_ne (tgt := 53) hx hb dX5_answered_48 (by decide) (fun h_1 => ?_) (fun h_1 => ?_)
  · have hf := zf h_1 hf
    refine lv_aload_n hx hb dX5_answered_53 rfl (lv_at hl 0 rfl) ?_
    refine gM5_state hx hb hts iw5 hown hK hP (List.mem_of_getElem? (i := 4) rfl) dX5_answered_54 ?_
    refine lv_iload_n hx hb dX5_answered_57 rfl (lv_at hl 1 rfl) ?_
    refine lM5_state hf hx hb hK hP dX5_answered_58 (fun hf => ?_)
    refine lv_if_ne (tgt := 72) hx hb dX5_answered_59 (by decide) (fun h_2 => ?_) (fun h_2 => ?_)
    · have hf := zf h_2 hf
      refine lv_aload_n hx hb dX5_answered_72 rfl (lv_at hl 0 rfl) ?_
      refine lv_iload_n hx hb dX5_answered_73 rfl (lv_at hl 1 rfl) ?_
      refine lv_iload_n hx hb dX5_answered_74 rfl (lv_at hl 2 rfl) ?_
      refine lv_iload_n hx hb dX5_answered_75 rfl (lv_at hl 3 rfl) ?_
      refine lv_iload hx hb dX5_answered_76 (lv_at hl 4 rfl) ?_
      obtain ⟨S_1, hg_1, hf⟩ := obnv_some hf
      refine zcv (va_runV (As := [.int x1, .int x2, .int x3, .int x4]) (rest := []) hC (tX5_answerKnown hg_1) (cwV 4 hts gX5_answered_X5_answerKnown rfl rfl rfl (by decide +kernel) ⟨Nat.le_of_ble_eq_true rfl, Nat.le_of_ble_eq_true rfl⟩) (zpV hP hK hD hN (rM_0 hK hP)) rfl rfl hl.1 rfl (lv_room (Nat.le_of_ble_eq_true rfl)) dX5_answered_78 ⟨Nat.zero_le _, Nat.zero_le _⟩) hS (fun H locs hP hD hS => ?_)
      exact kX5_answered_81 hC0 hQ hf hP hD hS (lv_sub hl [0, 1, 5] rfl)
    · have hf := zt h_2 hf
      refine lv_aload_n hx hb dX5_answered_62 rfl (lv_at hl 0 rfl) ?_
      refine lv_iload_n hx hb dX5_answered_63 rfl (lv_at hl 1 rfl) ?_
      refine lv_iload_n hx hb dX5_answered_64 rfl (lv_at hl 2 rfl) ?_
      refine lv_iload_n hx hb dX5_answered_65 rfl (lv_at hl 3 rfl) ?_
      obtain ⟨S_2, hg_2, hf⟩ := obnv_some hf
      refine zcv (va_runV (As := [.int x1, .int x2, .int x3]) (rest := []) hC (tX5_answerAsking hg_2) (cwV 3 hts gX5_answered_X5_answerAsking rfl rfl rfl (by decide +kernel) ⟨Nat.le_of_ble_eq_true rfl, Nat.le_of_ble_eq_true rfl⟩) (zpV hP hK hD hN (rM_0 hK hP)) rfl rfl hl.1 rfl (lv_room (Nat.le_of_ble_eq_true rfl)) dX5_answered_66 ⟨Nat.zero_le _, Nat.zero_le _⟩) hS (fun H locs hP hD hS => ?_)
      refine lv_goto (tgt := 81) hx hb dX5_answered_69 (by decide) ?_
      exact kX5_answered_81 hC0 hQ hf hP hD hS (lv_sub hl [0, 1, 5] rfl)
  · have hf := zt h_1 hf
    refine lv_iconst (v := (-1 : Int32)) hx hb dX5_answered_51 (by decide) ?_
    exact zri hf hQ hP hD hS dX5_answered_52
set_option maxHeartbeats 4000000 in
set_option maxRecDepth 100000 in
theorem kX5_answered {r : Int32 × zS} (hC0 : zC p m c cX5_answered 6 s args wsX5_answered RX5 D cI cZ) (hQ : zRi p l e rmX5_answered s m args below meth c cX5_answered D A (wM a cI cZ) Q r) {S : zS} {x1 : Int32} {x2 : Int32} {x3 : Int32} {x4 : Int32} {x5 : Int32} (hf : fX5_answered S x1 x2 x3 x4 x5 = some r) {H : Heap} {locs : List Loc} (hP : va_P D vwCl (wM a cI cZ S) H) (hD : va_D A (wM a cI cZ S)) (hS : va_S A s.heap H locs) {ls : Array Slot} (hl : lv_has ls 6 [(0, .ref (a 0)), (1, .int x1), (2, .int x2), (3, .int x3), (4, .int x4), (5, .int x5)]) : W p l e rmX5_answered s m args below meth c H locs 0 0 Q (F0 m 0 ls []) := by
  obtain ⟨hC, hK, hN⟩ := id hC0
  obtain ⟨hx, hb, hml, hown, hts⟩ := id hC
  have iw5 := iwX5_answered_5
  unfold fX5_answered at hf
  refine lv_iload_n hx hb dX5_answered_0 rfl (lv_at hl 1 rfl) ?_
  obtain ⟨y_1, S_1, hg_1, hf⟩ := obnd_some hf
  refine zci (va_runS (As := [.int x1]) (rest := []) hC (tX5_isAddress hg_1) (va_cwS 1 hts gX5_answered_X5_isAddress rfl rfl rfl (by decide +kernel) ⟨Nat.le_of_ble_eq_true rfl, Nat.le_of_ble_eq_true rfl⟩) (zpS hP hK hD hN) rfl rfl hl.1 rfl (lv_room (Nat.le_of_ble_eq_true rfl)) dX5_answered_1 ⟨Nat.zero_le _, Nat.zero_le _⟩) hS (fun H locs hP hD hS => ?_)
  refine lv_if_eq (tgt := 14) hx hb dX5_answered_4 (by decide) (fun h_1 => ?_) (fun h_1 => ?_)
  · have hf := zt h_1 hf
    refine lv_bipush (v := (-102 : Int32)) hx hb dX5_answered_14 (by decide) ?_
    exact zri hf hQ hP hD hS dX5_answered_16
  · have hf := zf h_1 hf
    refine lv_iload_n hx hb dX5_answered_7 rfl (lv_at hl 2 rfl) ?_
    obtain ⟨y_2, S_2, hg_2, hf⟩ := obnd_some hf
    refine zci (va_runS (As := [.int x2]) (rest := []) hC (tX5_isMark hg_2) (va_cwS 1 hts gX5_answered_X5_isMark rfl rfl rfl (by decide +kernel) ⟨Nat.le_of_ble_eq_true rfl, Nat.le_of_ble_eq_true rfl⟩) (zpS hP hK hD hN) rfl rfl hl.1 rfl (lv_room (Nat.le_of_ble_eq_true rfl)) dX5_answered_8 ⟨Nat.zero_le _, Nat.zero_le _⟩) hS (fun H locs hP hD hS => ?_)
    refine lv_if_ne (tgt := 17) hx hb dX5_answered_11 (by decide) (fun h_2 => ?_) (fun h_2 => ?_)
    · have hf := zf h_2 hf
      refine lv_iload_n hx hb dX5_answered_17 rfl (lv_at hl 1 rfl) ?_
      refine lv_aload_n hx hb dX5_answered_18 rfl (lv_at hl 0 rfl) ?_
      refine gM5_trial hx hb hts iw5 hown hK hP (List.mem_of_getElem? (i := 1) rfl) dX5_answered_19 ?_
      refine lv_icmp_ne (tgt := 42) hx hb dX5_answered_22 (by decide) (fun h_3 => ?_) (fun h_3 => ?_)
      · have hf := zf h_3 hf
        exact kX5_answered_42 hC0 hQ hf hP hD hS (lv_sub hl [0, 1, 2, 3, 4, 5] rfl)
      · have hf := zt h_3 hf
        refine lv_aload_n hx hb dX5_answered_25 rfl (lv_at hl 0 rfl) ?_
        refine lv_dup hx hb dX5_answered_26 rfl ?_
        refine gM5_doubled hx hb hts iw5 hown hK hP (List.mem_of_getElem? (i := 2) rfl) dX5_answered_27 ?_
        refine lv_iconst (v := (1 : Int32)) hx hb dX5_answered_30 (by decide) ?_
        refine lv_iload_n hx hb dX5_answered_31 rfl (lv_at hl 1 rfl) ?_
        refine lv_ishl hx hb dX5_answered_32 ?_
        refine lv_ior hx hb dX5_answered_33 ?_
        refine pM5_doubled hf hx hb hts iw5 hown hK hP hD hS (List.mem_of_getElem? (i := 2) rfl) dX5_answered_34 (fun S_3 H locs hf hP hD hS => ?_)
        refine lv_aload_n hx hb dX5_answered_37 rfl (lv_at hl 0 rfl) ?_
        refine lv_iconst (v := (-1 : Int32)) hx hb dX5_answered_38 (by decide) ?_
        refine pM5_trial hf hx hb hts iw5 hown hK hP hD hS (List.mem_of_getElem? (i := 1) rfl) dX5_answered_39 (fun S_4 H locs hf hP hD hS => ?_)
        exact kX5_answered_42 hC0 hQ hf hP hD hS (lv_sub hl [0, 1, 2, 3, 4, 5] rfl)
    · have hf := zt h_2 hf
      refine lv_bipush (v := (-102 : Int32)) hx hb dX5_answered_14 (by decide) ?_
      exact zri hf hQ hP hD hS dX5_answered_16
theorem tX5_answered {S : zS} {x1 : Int32} {x2 : Int32} {x3 : Int32} {x4 : Int32} {x5 : Int32} {r : Int32 × zS} (hf : fX5_answered S x1 x2 x3 x4 x5 = some r) : zMi l yX5_answered wsX5_answered rmX5_answered D (zT cI cZ) A (wM a cI cZ) [.ref (a 0), .int x1, .int x2, .int x3, .int x4, .int x5] S r :=
  zMi_of (by decide) rfl rfl (Nat.le_of_ble_eq_true rfl) (fun hC0 hQ hP hD hS _ hl => kX5_answered hC0 hQ hf hP hD hS hl)
abbrev rmX5_asksOwn : Room := { frames := 4, cells := 0, slots := 0, locals := 89 }
theorem iwX5_asksOwn_5 : ∀ w ∈ wsX50, w ∈ wsX5_asksOwn := fun _ h => List.mem_cons_of_mem _ (List.mem_append_right _ h)
set_option maxHeartbeats 4000000 in
set_option maxRecDepth 100000 in
theorem kX5_asksOwn_24 {r : Int32 × zS} (hC0 : zC p m c cX5_asksOwn 3 s args wsX5_asksOwn RX5 D cI cZ) (hQ : zRi p l e rmX5_asksOwn s m args below meth c cX5_asksOwn D A (wM a cI cZ) Q r) {S : zS} {t1 : Int32} {t2 : Int32} {t3 : Int32} (hf : fX5_asksOwn_24 S t1 t2 t3 = some r) {H : Heap} {locs : List Loc} (hP : va_P D vwCl (wM a cI cZ S) H) (hD : va_D A (wM a cI cZ S)) (hS : va_S A s.heap H locs) {ls : Array Slot} (hl : lv_has ls 3 []) : W p l e rmX5_asksOwn s m args below meth c H locs 0 0 Q (F0 m 24 ls [.int t3, .int t2, .int t1, .ref (a 0)]) := by
  obtain ⟨hC, hK, hN⟩ := id hC0
  obtain ⟨hx, hb, hml, hown, hts⟩ := id hC
  have iw5 := iwX5_asksOwn_5
  unfold fX5_asksOwn_24 at hf
  refine lv_iconst (v := (0 : Int32)) hx hb dX5_asksOwn_24 (by decide) ?_
  obtain ⟨S_1, hg_1, hf⟩ := obnv_some hf
  refine zcv (va_runV (As := [.int t1, .int t2, .int t3, .int (0 : Int32)]) (rest := []) hC (tX5_goOut hg_1) (cwV 4 hts gX5_asksOwn_X5_goOut rfl rfl rfl (by decide +kernel) ⟨Nat.le_of_ble_eq_true rfl, Nat.le_of_ble_eq_true rfl⟩) (zpV hP hK hD hN (rM_0 hK hP)) rfl rfl hl.1 rfl (lv_room (Nat.le_of_ble_eq_true rfl)) dX5_asksOwn_25 ⟨Nat.zero_le _, Nat.zero_le _⟩) hS (fun H locs hP hD hS => ?_)
  refine lv_iconst (v := (1 : Int32)) hx hb dX5_asksOwn_28 (by decide) ?_
  exact zri hf hQ hP hD hS dX5_asksOwn_29
set_option maxHeartbeats 4000000 in
set_option maxRecDepth 100000 in
theorem kX5_asksOwn_11 {r : Int32 × zS} (hC0 : zC p m c cX5_asksOwn 3 s args wsX5_asksOwn RX5 D cI cZ) (hQ : zRi p l e rmX5_asksOwn s m args below meth c cX5_asksOwn D A (wM a cI cZ) Q r) {S : zS} {x1 : Int32} {x2 : Int32} (hf : fX5_asksOwn_11 S x1 x2 = some r) {H : Heap} {locs : List Loc} (hP : va_P D vwCl (wM a cI cZ S) H) (hD : va_D A (wM a cI cZ S)) (hS : va_S A s.heap H locs) {ls : Array Slot} (hl : lv_has ls 3 [(0, .ref (a 0)), (1, .int x1), (2, .int x2)]) : W p l e rmX5_asksOwn s m args below meth c H locs 0 0 Q (F0 m 11 ls []) := by
  obtain ⟨hC, hK, hN⟩ := id hC0
  obtain ⟨hx, hb, hml, hown, hts⟩ := id hC
  have iw5 := iwX5_asksOwn_5
  unfold fX5_asksOwn_11 at hf
  refine lv_aload_n hx hb dX5_asksOwn_11 rfl (lv_at hl 0 rfl) ?_
  refine lv_iconst (v := (3 : Int32)) hx hb dX5_asksOwn_12 (by decide) ?_
  refine lv_iload_n hx hb dX5_asksOwn_13 rfl (lv_at hl 1 rfl) ?_
  refine lv_iload_n hx hb dX5_asksOwn_14 rfl (lv_at hl 1 rfl) ?_
  refine lv_iconst (v := (-1 : Int32)) hx hb dX5_asksOwn_15 (by decide) ?_
  refine lv_icmp_ne (tgt := 23) hx hb dX5_asksOwn_16 (by decide) (fun h_1 => ?_) (fun h_1 => ?_)
  · have hf := zf h_1 hf
    refine lv_iload_n hx hb dX5_asksOwn_23 rfl (lv_at hl 2 rfl) ?_
    exact kX5_asksOwn_24 hC0 hQ hf hP hD hS (lv_sub hl [] rfl)
  · have hf := zt h_1 hf
    refine lv_iconst (v := (0 : Int32)) hx hb dX5_asksOwn_19 (by decide) ?_
    refine lv_goto (tgt := 24) hx hb dX5_asksOwn_20 (by decide) ?_
    exact kX5_asksOwn_24 hC0 hQ hf hP hD hS (lv_sub hl [] rfl)
set_option maxHeartbeats 4000000 in
set_option maxRecDepth 100000 in
theorem kX5_asksOwn {r : Int32 × zS} (hC0 : zC p m c cX5_asksOwn 3 s args wsX5_asksOwn RX5 D cI cZ) (hQ : zRi p l e rmX5_asksOwn s m args below meth c cX5_asksOwn D A (wM a cI cZ) Q r) {S : zS} {x1 : Int32} {x2 : Int32} (hf : fX5_asksOwn S x1 x2 = some r) {H : Heap} {locs : List Loc} (hP : va_P D vwCl (wM a cI cZ S) H) (hD : va_D A (wM a cI cZ S)) (hS : va_S A s.heap H locs) {ls : Array Slot} (hl : lv_has ls 3 [(0, .ref (a 0)), (1, .int x1), (2, .int x2)]) : W p l e rmX5_asksOwn s m args below meth c H locs 0 0 Q (F0 m 0 ls []) := by
  obtain ⟨hC, hK, hN⟩ := id hC0
  obtain ⟨hx, hb, hml, hown, hts⟩ := id hC
  have iw5 := iwX5_asksOwn_5
  unfold fX5_asksOwn at hf
  refine lv_iload_n hx hb dX5_asksOwn_0 rfl (lv_at hl 1 rfl) ?_
  refine lv_iconst (v := (-1 : Int32)) hx hb dX5_asksOwn_1 (by decide) ?_
  refine lv_icmp_eq (tgt := 11) hx hb dX5_asksOwn_2 (by decide) (fun h_1 => ?_) (fun h_1 => ?_)
  · have hf := zt h_1 hf
    exact kX5_asksOwn_11 hC0 hQ hf hP hD hS (lv_sub hl [0, 1, 2] rfl)
  · have hf := zf h_1 hf
    refine lv_aload_n hx hb dX5_asksOwn_5 rfl (lv_at hl 0 rfl) ?_
    refine lv_iload_n hx hb dX5_asksOwn_6 rfl (lv_at hl 1 rfl) ?_
    refine lv_iload_n hx hb dX5_asksOwn_7 rfl (lv_at hl 2 rfl) ?_
    obtain ⟨S_1, hg_1, hf⟩ := obnv_some hf
    refine zcv (va_runV (As := [.int x1, .int x2]) (rest := []) hC (tX5_hear hg_1) (cwV 2 hts gX5_asksOwn_X5_hear rfl rfl rfl (by decide +kernel) ⟨Nat.le_of_ble_eq_true rfl, Nat.le_of_ble_eq_true rfl⟩) (zpV hP hK hD hN (rM_0 hK hP)) rfl rfl hl.1 rfl (lv_room (Nat.le_of_ble_eq_true rfl)) dX5_asksOwn_8 ⟨Nat.zero_le _, Nat.zero_le _⟩) hS (fun H locs hP hD hS => ?_)
    exact kX5_asksOwn_11 hC0 hQ hf hP hD hS (lv_sub hl [0, 1, 2] rfl)
theorem tX5_asksOwn {S : zS} {x1 : Int32} {x2 : Int32} {r : Int32 × zS} (hf : fX5_asksOwn S x1 x2 = some r) : zMi l yX5_asksOwn wsX5_asksOwn rmX5_asksOwn D (zT cI cZ) A (wM a cI cZ) [.ref (a 0), .int x1, .int x2] S r :=
  zMi_of (by decide) rfl rfl (Nat.le_of_ble_eq_true rfl) (fun hC0 hQ hP hD hS _ hl => kX5_asksOwn hC0 hQ hf hP hD hS hl)
abbrev rmX5_asks : Room := { frames := 5, cells := 0, slots := 0, locals := 111 }
theorem iwX5_asks_5 : ∀ w ∈ wsX50, w ∈ wsX5_asks := fun _ h => List.mem_cons_of_mem _ (List.mem_append_right _ h)
set_option maxHeartbeats 4000000 in
set_option maxRecDepth 100000 in
theorem kX5_asks {r : Int32 × zS} (hC0 : zC p m c cX5_asks 4 s args wsX5_asks RX5 D cI cZ) (hQ : zRi p l e rmX5_asks s m args below meth c cX5_asks D A (wM a cI cZ) Q r) {S : zS} {x1 : Int32} {x2 : Int32} {x3 : Int32} (hf : fX5_asks S x1 x2 x3 = some r) {H : Heap} {locs : List Loc} (hP : va_P D vwCl (wM a cI cZ S) H) (hD : va_D A (wM a cI cZ S)) (hS : va_S A s.heap H locs) {ls : Array Slot} (hl : lv_has ls 4 [(0, .ref (a 0)), (1, .int x1), (2, .int x2), (3, .int x3)]) : W p l e rmX5_asks s m args below meth c H locs 0 0 Q (F0 m 0 ls []) := by
  obtain ⟨hC, hK, hN⟩ := id hC0
  obtain ⟨hx, hb, hml, hown, hts⟩ := id hC
  have iw5 := iwX5_asks_5
  unfold fX5_asks at hf
  refine lv_iload_n hx hb dX5_asks_0 rfl (lv_at hl 1 rfl) ?_
  refine lv_iconst (v := (-1 : Int32)) hx hb dX5_asks_1 (by decide) ?_
  refine lv_bipush (v := (15 : Int32)) hx hb dX5_asks_2 (by decide) ?_
  obtain ⟨y_1, S_1, hg_1, hf⟩ := obnd_some hf
  refine zci (va_runS (As := [.int x1, .int (-1 : Int32), .int (15 : Int32)]) (rest := []) hC (tX5_within hg_1) (va_cwS 3 hts gX5_asks_X5_within rfl rfl rfl (by decide +kernel) ⟨Nat.le_of_ble_eq_true rfl, Nat.le_of_ble_eq_true rfl⟩) (zpS hP hK hD hN) rfl rfl hl.1 rfl (lv_room (Nat.le_of_ble_eq_true rfl)) dX5_asks_4 ⟨Nat.zero_le _, Nat.zero_le _⟩) hS (fun H locs hP hD hS => ?_)
  refine lv_if_eq (tgt := 24) hx hb dX5_asks_7 (by decide) (fun h_1 => ?_) (fun h_1 => ?_)
  · have hf := zt h_1 hf
    refine lv_bipush (v := (-102 : Int32)) hx hb dX5_asks_24 (by decide) ?_
    exact zri hf hQ hP hD hS dX5_asks_26
  · have hf := zf h_1 hf
    refine lv_iload_n hx hb dX5_asks_10 rfl (lv_at hl 2 rfl) ?_
    obtain ⟨y_2, S_2, hg_2, hf⟩ := obnd_some hf
    refine zci (va_runS (As := [.int x2]) (rest := []) hC (tX5_isMark hg_2) (va_cwS 1 hts gX5_asks_X5_isMark rfl rfl rfl (by decide +kernel) ⟨Nat.le_of_ble_eq_true rfl, Nat.le_of_ble_eq_true rfl⟩) (zpS hP hK hD hN) rfl rfl hl.1 rfl (lv_room (Nat.le_of_ble_eq_true rfl)) dX5_asks_11 ⟨Nat.zero_le _, Nat.zero_le _⟩) hS (fun H locs hP hD hS => ?_)
    refine lv_if_eq (tgt := 24) hx hb dX5_asks_14 (by decide) (fun h_2 => ?_) (fun h_2 => ?_)
    · have hf := zt h_2 hf
      refine lv_bipush (v := (-102 : Int32)) hx hb dX5_asks_24 (by decide) ?_
      exact zri hf hQ hP hD hS dX5_asks_26
    · have hf := zf h_2 hf
      refine lv_iload_n hx hb dX5_asks_17 rfl (lv_at hl 3 rfl) ?_
      obtain ⟨y_3, S_3, hg_3, hf⟩ := obnd_some hf
      refine zci (va_runS (As := [.int x3]) (rest := []) hC (tX5_isAddress hg_3) (va_cwS 1 hts gX5_asks_X5_isAddress rfl rfl rfl (by decide +kernel) ⟨Nat.le_of_ble_eq_true rfl, Nat.le_of_ble_eq_true rfl⟩) (zpS hP hK hD hN) rfl rfl hl.1 rfl (lv_room (Nat.le_of_ble_eq_true rfl)) dX5_asks_18 ⟨Nat.zero_le _, Nat.zero_le _⟩) hS (fun H locs hP hD hS => ?_)
      refine lv_if_ne (tgt := 27) hx hb dX5_asks_21 (by decide) (fun h_3 => ?_) (fun h_3 => ?_)
      · have hf := zf h_3 hf
        refine lv_aload_n hx hb dX5_asks_27 rfl (lv_at hl 0 rfl) ?_
        refine lv_iload_n hx hb dX5_asks_28 rfl (lv_at hl 1 rfl) ?_
        obtain ⟨y_4, S_4, hg_4, hf⟩ := obnd_some hf
        refine zci (va_runV (As := [.int x1]) (rest := []) hC (tX5_isOurs hg_4) (cwV 1 hts gX5_asks_X5_isOurs rfl rfl rfl (by decide +kernel) ⟨Nat.le_of_ble_eq_true rfl, Nat.le_of_ble_eq_true rfl⟩) (zpV hP hK hD hN (rM_0 hK hP)) rfl rfl hl.1 rfl (lv_room (Nat.le_of_ble_eq_true rfl)) dX5_asks_29 ⟨Nat.zero_le _, Nat.zero_le _⟩) hS (fun H locs hP hD hS => ?_)
        refine lv_if_eq (tgt := 38) hx hb dX5_asks_32 (by decide) (fun h_4 => ?_) (fun h_4 => ?_)
        · have hf := zt h_4 hf
          refine lv_iload_n hx hb dX5_asks_38 rfl (lv_at hl 3 rfl) ?_
          refine lv_aload_n hx hb dX5_asks_39 rfl (lv_at hl 0 rfl) ?_
          refine gM5_own hx hb hts iw5 hown hK hP (List.mem_of_getElem? (i := 1) rfl) dX5_asks_40 ?_
          refine lv_icmp_ne (tgt := 53) hx hb dX5_asks_43 (by decide) (fun h_5 => ?_) (fun h_5 => ?_)
          · have hf := zf h_5 hf
            refine lv_iload_n hx hb dX5_asks_53 rfl (lv_at hl 3 rfl) ?_
            refine lv_aload_n hx hb dX5_asks_54 rfl (lv_at hl 0 rfl) ?_
            refine gM5_trial hx hb hts iw5 hown hK hP (List.mem_of_getElem? (i := 2) rfl) dX5_asks_55 ?_
            refine lv_icmp_ne (tgt := 85) hx hb dX5_asks_58 (by decide) (fun h_6 => ?_) (fun h_6 => ?_)
            · have hf := zf h_6 hf
              refine lv_iconst (v := (0 : Int32)) hx hb dX5_asks_85 (by decide) ?_
              exact zri hf hQ hP hD hS dX5_asks_86
            · have hf := zt h_6 hf
              refine lv_iload_n hx hb dX5_asks_61 rfl (lv_at hl 1 rfl) ?_
              refine lv_iconst (v := (-1 : Int32)) hx hb dX5_asks_62 (by decide) ?_
              refine lv_icmp_ne (tgt := 85) hx hb dX5_asks_63 (by decide) (fun h_7 => ?_) (fun h_7 => ?_)
              · have hf := zf h_7 hf
                refine lv_iconst (v := (0 : Int32)) hx hb dX5_asks_85 (by decide) ?_
                exact zri hf hQ hP hD hS dX5_asks_86
              · have hf := zt h_7 hf
                refine lv_aload_n hx hb dX5_asks_66 rfl (lv_at hl 0 rfl) ?_
                refine lv_dup hx hb dX5_asks_67 rfl ?_
                refine gM5_doubled hx hb hts iw5 hown hK hP (List.mem_of_getElem? (i := 3) rfl) dX5_asks_68 ?_
                refine lv_iconst (v := (1 : Int32)) hx hb dX5_asks_71 (by decide) ?_
                refine lv_iload_n hx hb dX5_asks_72 rfl (lv_at hl 3 rfl) ?_
                refine lv_ishl hx hb dX5_asks_73 ?_
                refine lv_ior hx hb dX5_asks_74 ?_
                refine pM5_doubled hf hx hb hts iw5 hown hK hP hD hS (List.mem_of_getElem? (i := 3) rfl) dX5_asks_75 (fun S_5 H locs hf hP hD hS => ?_)
                refine lv_aload_n hx hb dX5_asks_78 rfl (lv_at hl 0 rfl) ?_
                refine lv_iconst (v := (-1 : Int32)) hx hb dX5_asks_79 (by decide) ?_
                refine pM5_trial hf hx hb hts iw5 hown hK hP hD hS (List.mem_of_getElem? (i := 2) rfl) dX5_asks_80 (fun S_6 H locs hf hP hD hS => ?_)
                refine lv_iconst (v := (2 : Int32)) hx hb dX5_asks_83 (by decide) ?_
                exact zri hf hQ hP hD hS dX5_asks_84
          · have hf := zt h_5 hf
            refine lv_aload_n hx hb dX5_asks_46 rfl (lv_at hl 0 rfl) ?_
            refine lv_iload_n hx hb dX5_asks_47 rfl (lv_at hl 1 rfl) ?_
            refine lv_iload_n hx hb dX5_asks_48 rfl (lv_at hl 2 rfl) ?_
            obtain ⟨y_5, S_7, hg_5, hf⟩ := obnd_some hf
            refine zci (va_runV (As := [.int x1, .int x2]) (rest := []) hC (tX5_asksOwn hg_5) (cwV 2 hts gX5_asks_X5_asksOwn rfl rfl rfl (by decide +kernel) ⟨Nat.le_of_ble_eq_true rfl, Nat.le_of_ble_eq_true rfl⟩) (zpV hP hK hD hN (rM_0 hK hP)) rfl rfl hl.1 rfl (lv_room (Nat.le_of_ble_eq_true rfl)) dX5_asks_49 ⟨Nat.zero_le _, Nat.zero_le _⟩) hS (fun H locs hP hD hS => ?_)
            exact zri hf hQ hP hD hS dX5_asks_52
        · have hf := zf h_4 hf
          refine lv_bipush (v := (-103 : Int32)) hx hb dX5_asks_35 (by decide) ?_
          exact zri hf hQ hP hD hS dX5_asks_37
      · have hf := zt h_3 hf
        refine lv_bipush (v := (-102 : Int32)) hx hb dX5_asks_24 (by decide) ?_
        exact zri hf hQ hP hD hS dX5_asks_26
theorem tX5_asks {S : zS} {x1 : Int32} {x2 : Int32} {x3 : Int32} {r : Int32 × zS} (hf : fX5_asks S x1 x2 x3 = some r) : zMi l yX5_asks wsX5_asks rmX5_asks D (zT cI cZ) A (wM a cI cZ) [.ref (a 0), .int x1, .int x2, .int x3] S r :=
  zMi_of (by decide) rfl rfl (Nat.le_of_ble_eq_true rfl) (fun hC0 hQ hP hD hS _ hl => kX5_asks hC0 hQ hf hP hD hS hl)
abbrev rmX5_told : Room := { frames := 4, cells := 0, slots := 0, locals := 89 }
theorem iwX5_told_5 : ∀ w ∈ wsX50, w ∈ wsX5_told := fun _ h => List.mem_cons_of_mem _ (List.mem_append_right _ h)
set_option maxHeartbeats 4000000 in
set_option maxRecDepth 100000 in
theorem kX5_told_113 {r : Int32 × zS} (hC0 : zC p m c cX5_told 5 s args wsX5_told RX5 D cI cZ) (hQ : zRi p l e rmX5_told s m args below meth c cX5_told D A (wM a cI cZ) Q r) {S : zS} {x1 : Int32} {x3 : Int32} {x4 : Int32} {t1 : Int32} {t2 : Int32} (hf : fX5_told_113 S x1 x3 x4 t1 t2 = some r) {H : Heap} {locs : List Loc} (hP : va_P D vwCl (wM a cI cZ S) H) (hD : va_D A (wM a cI cZ S)) (hS : va_S A s.heap H locs) {ls : Array Slot} (hl : lv_has ls 5 [(0, .ref (a 0)), (1, .int x1), (3, .int x3), (4, .int x4)]) : W p l e rmX5_told s m args below meth c H locs 0 0 Q (F0 m 113 ls [.int t2, .int t1, .ref (a 9)]) := by
  obtain ⟨hC, hK, hN⟩ := id hC0
  obtain ⟨hx, hb, hml, hown, hts⟩ := id hC
  have iw5 := iwX5_told_5
  unfold fX5_told_113 at hf
  refine sM5_isRouter hf hx hb hK hP hD hS dX5_told_113 (fun S_1 H locs hf hP hD hS => ?_)
  refine lv_aload_n hx hb dX5_told_114 rfl (lv_at hl 0 rfl) ?_
  refine gM5_rank hx hb hts iw5 hown hK hP (List.mem_of_getElem? (i := 3) rfl) dX5_told_115 ?_
  refine lv_iload_n hx hb dX5_told_118 rfl (lv_at hl 1 rfl) ?_
  refine lv_iload hx hb dX5_told_119 (lv_at hl 3 rfl) ?_
  refine sM5_rank hf hx hb hK hP hD hS dX5_told_121 (fun S_2 H locs hf hP hD hS => ?_)
  refine lv_aload_n hx hb dX5_told_122 rfl (lv_at hl 0 rfl) ?_
  refine gM5_until hx hb hts iw5 hown hK hP (List.mem_of_getElem? (i := 4) rfl) dX5_told_123 ?_
  refine lv_iload_n hx hb dX5_told_126 rfl (lv_at hl 1 rfl) ?_
  refine lv_aload_n hx hb dX5_told_127 rfl (lv_at hl 0 rfl) ?_
  refine gM5_clock hx hb hts iw5 hown hK hP (List.mem_of_getElem? (i := 5) rfl) dX5_told_128 ?_
  refine lv_iload_n hx hb dX5_told_131 rfl (lv_at hl 2 rfl) ?_
  refine lv_iadd hx hb dX5_told_132 ?_
  refine sM5_until hf hx hb hK hP hD hS dX5_told_133 (fun S_3 H locs hf hP hD hS => ?_)
  refine lv_aload_n hx hb dX5_told_134 rfl (lv_at hl 0 rfl) ?_
  obtain ⟨y_1, S_4, hg_1, hf⟩ := obnd_some hf
  refine zci (va_runV (As := []) (rest := []) hC (tX5_routers hg_1) (cwV 0 hts gX5_told_X5_routers rfl rfl rfl (by decide +kernel) ⟨Nat.le_of_ble_eq_true rfl, Nat.le_of_ble_eq_true rfl⟩) (zpV hP hK hD hN (rM_0 hK hP)) rfl rfl hl.1 rfl (lv_room (Nat.le_of_ble_eq_true rfl)) dX5_told_135 ⟨Nat.zero_le _, Nat.zero_le _⟩) hS (fun H locs hP hD hS => ?_)
  exact zri hf hQ hP hD hS dX5_told_138
set_option maxHeartbeats 4000000 in
set_option maxRecDepth 100000 in
theorem kX5_told_96 {r : Int32 × zS} (hC0 : zC p m c cX5_told 5 s args wsX5_told RX5 D cI cZ) (hQ : zRi p l e rmX5_told s m args below meth c cX5_told D A (wM a cI cZ) Q r) {S : zS} {x1 : Int32} {x3 : Int32} {x4 : Int32} {t1 : Int32} (hf : fX5_told_96 S x1 x3 x4 t1 = some r) {H : Heap} {locs : List Loc} (hP : va_P D vwCl (wM a cI cZ S) H) (hD : va_D A (wM a cI cZ S)) (hS : va_S A s.heap H locs) {ls : Array Slot} (hl : lv_has ls 5 [(0, .ref (a 0)), (1, .int x1), (3, .int x3), (4, .int x4)]) : W p l e rmX5_told s m args below meth c H locs 0 0 Q (F0 m 96 ls [.int t1, .ref (a 0)]) := by
  obtain ⟨hC, hK, hN⟩ := id hC0
  obtain ⟨hx, hb, hml, hown, hts⟩ := id hC
  have iw5 := iwX5_told_5
  unfold fX5_told_96 at hf
  obtain ⟨hz_1, hf⟩ := zbl_some hf
  refine pM5_wasTold hf hz_1 hx hb hts iw5 hown hK hP hD hS (List.mem_of_getElem? (i := 2) rfl) dX5_told_96 (fun S_1 H locs hf hP hD hS => ?_)
  refine lv_aload_n hx hb dX5_told_99 rfl (lv_at hl 0 rfl) ?_
  refine gM5_isRouter hx hb hts iw5 hown hK hP (List.mem_of_getElem? (i := 1) rfl) dX5_told_100 ?_
  refine lv_iload_n hx hb dX5_told_103 rfl (lv_at hl 1 rfl) ?_
  refine lv_iload_n hx hb dX5_told_104 rfl (lv_at hl 2 rfl) ?_
  refine lv_if_le (tgt := 112) hx hb dX5_told_105 (by decide) (fun h_1 => ?_) (fun h_1 => ?_)
  · have hf := zt h_1 hf
    refine lv_iconst (v := (0 : Int32)) hx hb dX5_told_112 (by decide) ?_
    exact kX5_told_113 hC0 hQ hf hP hD hS (lv_sub hl [0, 1, 2, 3] rfl)
  · have hf := zf h_1 hf
    refine lv_iconst (v := (1 : Int32)) hx hb dX5_told_108 (by decide) ?_
    refine lv_goto (tgt := 113) hx hb dX5_told_109 (by decide) ?_
    exact kX5_told_113 hC0 hQ hf hP hD hS (lv_sub hl [0, 1, 2, 3] rfl)
set_option maxHeartbeats 4000000 in
set_option maxRecDepth 100000 in
theorem kX5_told_91 {r : Int32 × zS} (hC0 : zC p m c cX5_told 5 s args wsX5_told RX5 D cI cZ) (hQ : zRi p l e rmX5_told s m args below meth c cX5_told D A (wM a cI cZ) Q r) {S : zS} {x1 : Int32} {x3 : Int32} {x4 : Int32} (hf : fX5_told_91 S x1 x3 x4 = some r) {H : Heap} {locs : List Loc} (hP : va_P D vwCl (wM a cI cZ S) H) (hD : va_D A (wM a cI cZ S)) (hS : va_S A s.heap H locs) {ls : Array Slot} (hl : lv_has ls 5 [(0, .ref (a 0)), (1, .int x1), (3, .int x3), (4, .int x4)]) : W p l e rmX5_told s m args below meth c H locs 0 0 Q (F0 m 91 ls [.ref (a 0)]) := by
  obtain ⟨hC, hK, hN⟩ := id hC0
  obtain ⟨hx, hb, hml, hown, hts⟩ := id hC
  have iw5 := iwX5_told_5
  unfold fX5_told_91 at hf
  refine lv_iconst (v := (1 : Int32)) hx hb dX5_told_91 (by decide) ?_
  refine lv_goto (tgt := 96) hx hb dX5_told_92 (by decide) ?_
  exact kX5_told_96 hC0 hQ hf hP hD hS (lv_sub hl [0, 1, 2, 3] rfl)
set_option maxHeartbeats 4000000 in
set_option maxRecDepth 100000 in
theorem kX5_told_73 {r : Int32 × zS} (hC0 : zC p m c cX5_told 5 s args wsX5_told RX5 D cI cZ) (hQ : zRi p l e rmX5_told s m args below meth c cX5_told D A (wM a cI cZ) Q r) {S : zS} {x1 : Int32} {x2 : Int32} {x3 : Int32} {x4 : Int32} (hf : fX5_told_73 S x1 x2 x3 x4 = some r) {H : Heap} {locs : List Loc} (hP : va_P D vwCl (wM a cI cZ S) H) (hD : va_D A (wM a cI cZ S)) (hS : va_S A s.heap H locs) {ls : Array Slot} (hl : lv_has ls 5 [(0, .ref (a 0)), (1, .int x1), (2, .int x2), (3, .int x3), (4, .int x4)]) : W p l e rmX5_told s m args below meth c H locs 0 0 Q (F0 m 73 ls []) := by
  obtain ⟨hC, hK, hN⟩ := id hC0
  obtain ⟨hx, hb, hml, hown, hts⟩ := id hC
  have iw5 := iwX5_told_5
  unfold fX5_told_73 at hf
  refine lv_aload_n hx hb dX5_told_73 rfl (lv_at hl 0 rfl) ?_
  refine lv_iload_n hx hb dX5_told_74 rfl (lv_at hl 1 rfl) ?_
  refine lv_iload_n hx hb dX5_told_75 rfl (lv_at hl 2 rfl) ?_
  obtain ⟨S_1, hg_1, hf⟩ := obnv_some hf
  refine zcv (va_runV (As := [.int x1, .int x2]) (rest := []) hC (tX5_hear hg_1) (cwV 2 hts gX5_told_X5_hear rfl rfl rfl (by decide +kernel) ⟨Nat.le_of_ble_eq_true rfl, Nat.le_of_ble_eq_true rfl⟩) (zpV hP hK hD hN (rM_0 hK hP)) rfl rfl hl.1 rfl (lv_room (Nat.le_of_ble_eq_true rfl)) dX5_told_76 ⟨Nat.zero_le _, Nat.zero_le _⟩) hS (fun H locs hP hD hS => ?_)
  refine lv_aload_n hx hb dX5_told_79 rfl (lv_at hl 0 rfl) ?_
  refine lv_aload_n hx hb dX5_told_80 rfl (lv_at hl 0 rfl) ?_
  refine gM5_wasTold hx hb hts iw5 hown hK hP (List.mem_of_getElem? (i := 2) rfl) dX5_told_81 ?_
  refine lv_if_ne (tgt := 91) hx hb dX5_told_84 (by decide) (fun h_1 => ?_) (fun h_1 => ?_)
  · have hf := zf h_1 hf
    exact kX5_told_91 hC0 hQ hf hP hD hS (lv_sub hl [0, 1, 3, 4] rfl)
  · have hf := zt h_1 hf
    refine lv_iload_n hx hb dX5_told_87 rfl (lv_at hl 3 rfl) ?_
    refine lv_if_le (tgt := 95) hx hb dX5_told_88 (by decide) (fun h_2 => ?_) (fun h_2 => ?_)
    · have hf := zt h_2 hf
      refine lv_iconst (v := (0 : Int32)) hx hb dX5_told_95 (by decide) ?_
      exact kX5_told_96 hC0 hQ hf hP hD hS (lv_sub hl [0, 1, 3, 4] rfl)
    · have hf := zf h_2 hf
      exact kX5_told_91 hC0 hQ hf hP hD hS (lv_sub hl [0, 1, 3, 4] rfl)
set_option maxHeartbeats 4000000 in
set_option maxRecDepth 100000 in
theorem kX5_told {r : Int32 × zS} (hC0 : zC p m c cX5_told 5 s args wsX5_told RX5 D cI cZ) (hQ : zRi p l e rmX5_told s m args below meth c cX5_told D A (wM a cI cZ) Q r) {S : zS} {x1 : Int32} {x2 : Int32} {x3 : Int32} {x4 : Int32} (hf : fX5_told S x1 x2 x3 x4 = some r) {H : Heap} {locs : List Loc} (hP : va_P D vwCl (wM a cI cZ S) H) (hD : va_D A (wM a cI cZ S)) (hS : va_S A s.heap H locs) {ls : Array Slot} (hl : lv_has ls 5 [(0, .ref (a 0)), (1, .int x1), (2, .int x2), (3, .int x3), (4, .int x4)]) : W p l e rmX5_told s m args below meth c H locs 0 0 Q (F0 m 0 ls []) := by
  obtain ⟨hC, hK, hN⟩ := id hC0
  obtain ⟨hx, hb, hml, hown, hts⟩ := id hC
  have iw5 := iwX5_told_5
  unfold fX5_told at hf
  refine lv_iload_n hx hb dX5_told_0 rfl (lv_at hl 1 rfl) ?_
  obtain ⟨y_1, S_1, hg_1, hf⟩ := obnd_some hf
  refine zci (va_runS (As := [.int x1]) (rest := []) hC (tX5_isAddress hg_1) (va_cwS 1 hts gX5_told_X5_isAddress rfl rfl rfl (by decide +kernel) ⟨Nat.le_of_ble_eq_true rfl, Nat.le_of_ble_eq_true rfl⟩) (zpS hP hK hD hN) rfl rfl hl.1 rfl (lv_room (Nat.le_of_ble_eq_true rfl)) dX5_told_1 ⟨Nat.zero_le _, Nat.zero_le _⟩) hS (fun H locs hP hD hS => ?_)
  refine lv_if_eq (tgt := 35) hx hb dX5_told_4 (by decide) (fun h_1 => ?_) (fun h_1 => ?_)
  · have hf := zt h_1 hf
    refine lv_bipush (v := (-102 : Int32)) hx hb dX5_told_35 (by decide) ?_
    exact zri hf hQ hP hD hS dX5_told_37
  · have hf := zf h_1 hf
    refine lv_iload_n hx hb dX5_told_7 rfl (lv_at hl 2 rfl) ?_
    obtain ⟨y_2, S_2, hg_2, hf⟩ := obnd_some hf
    refine zci (va_runS (As := [.int x2]) (rest := []) hC (tX5_isMark hg_2) (va_cwS 1 hts gX5_told_X5_isMark rfl rfl rfl (by decide +kernel) ⟨Nat.le_of_ble_eq_true rfl, Nat.le_of_ble_eq_true rfl⟩) (zpS hP hK hD hN) rfl rfl hl.1 rfl (lv_room (Nat.le_of_ble_eq_true rfl)) dX5_told_8 ⟨Nat.zero_le _, Nat.zero_le _⟩) hS (fun H locs hP hD hS => ?_)
    refine lv_if_eq (tgt := 35) hx hb dX5_told_11 (by decide) (fun h_2 => ?_) (fun h_2 => ?_)
    · have hf := zt h_2 hf
      refine lv_bipush (v := (-102 : Int32)) hx hb dX5_told_35 (by decide) ?_
      exact zri hf hQ hP hD hS dX5_told_37
    · have hf := zf h_2 hf
      refine lv_iload_n hx hb dX5_told_14 rfl (lv_at hl 3 rfl) ?_
      refine lv_iconst (v := (0 : Int32)) hx hb dX5_told_15 (by decide) ?_
      refine lv_sipush (v := (200 : Int32)) hx hb dX5_told_16 (by decide) ?_
      obtain ⟨y_3, S_3, hg_3, hf⟩ := obnd_some hf
      refine zci (va_runS (As := [.int x3, .int (0 : Int32), .int (200 : Int32)]) (rest := []) hC (tX5_within hg_3) (va_cwS 3 hts gX5_told_X5_within rfl rfl rfl (by decide +kernel) ⟨Nat.le_of_ble_eq_true rfl, Nat.le_of_ble_eq_true rfl⟩) (zpS hP hK hD hN) rfl rfl hl.1 rfl (lv_room (Nat.le_of_ble_eq_true rfl)) dX5_told_19 ⟨Nat.zero_le _, Nat.zero_le _⟩) hS (fun H locs hP hD hS => ?_)
      refine lv_if_eq (tgt := 35) hx hb dX5_told_22 (by decide) (fun h_3 => ?_) (fun h_3 => ?_)
      · have hf := zt h_3 hf
        refine lv_bipush (v := (-102 : Int32)) hx hb dX5_told_35 (by decide) ?_
        exact zri hf hQ hP hD hS dX5_told_37
      · have hf := zf h_3 hf
        refine lv_iload hx hb dX5_told_25 (lv_at hl 4 rfl) ?_
        refine lv_iconst (v := (-1 : Int32)) hx hb dX5_told_27 (by decide) ?_
        refine lv_iconst (v := (1 : Int32)) hx hb dX5_told_28 (by decide) ?_
        obtain ⟨y_4, S_4, hg_4, hf⟩ := obnd_some hf
        refine zci (va_runS (As := [.int x4, .int (-1 : Int32), .int (1 : Int32)]) (rest := []) hC (tX5_within hg_4) (va_cwS 3 hts gX5_told_X5_within rfl rfl rfl (by decide +kernel) ⟨Nat.le_of_ble_eq_true rfl, Nat.le_of_ble_eq_true rfl⟩) (zpS hP hK hD hN) rfl rfl hl.1 rfl (lv_room (Nat.le_of_ble_eq_true rfl)) dX5_told_29 ⟨Nat.zero_le _, Nat.zero_le _⟩) hS (fun H locs hP hD hS => ?_)
        refine lv_if_ne (tgt := 38) hx hb dX5_told_32 (by decide) (fun h_4 => ?_) (fun h_4 => ?_)
        · have hf := zf h_4 hf
          refine lv_aload_n hx hb dX5_told_38 rfl (lv_at hl 0 rfl) ?_
          refine lv_iload_n hx hb dX5_told_39 rfl (lv_at hl 1 rfl) ?_
          obtain ⟨y_5, S_5, hg_5, hf⟩ := obnd_some hf
          refine zci (va_runV (As := [.int x1]) (rest := []) hC (tX5_isOurs hg_5) (cwV 1 hts gX5_told_X5_isOurs rfl rfl rfl (by decide +kernel) ⟨Nat.le_of_ble_eq_true rfl, Nat.le_of_ble_eq_true rfl⟩) (zpV hP hK hD hN (rM_0 hK hP)) rfl rfl hl.1 rfl (lv_room (Nat.le_of_ble_eq_true rfl)) dX5_told_40 ⟨Nat.zero_le _, Nat.zero_le _⟩) hS (fun H locs hP hD hS => ?_)
          refine lv_if_eq (tgt := 49) hx hb dX5_told_43 (by decide) (fun h_5 => ?_) (fun h_5 => ?_)
          · have hf := zt h_5 hf
            refine lv_aload_n hx hb dX5_told_49 rfl (lv_at hl 0 rfl) ?_
            refine gM5_isRouter hx hb hts iw5 hown hK hP (List.mem_of_getElem? (i := 1) rfl) dX5_told_50 ?_
            refine lv_iload_n hx hb dX5_told_53 rfl (lv_at hl 1 rfl) ?_
            refine lM5_isRouter hf hx hb hK hP dX5_told_54 (fun hf => ?_)
            refine lv_if_ne (tgt := 73) hx hb dX5_told_55 (by decide) (fun h_6 => ?_) (fun h_6 => ?_)
            · have hf := zf h_6 hf
              exact kX5_told_73 hC0 hQ hf hP hD hS (lv_sub hl [0, 1, 2, 3, 4] rfl)
            · have hf := zt h_6 hf
              refine lv_iload_n hx hb dX5_told_58 rfl (lv_at hl 3 rfl) ?_
              refine lv_if_le (tgt := 73) hx hb dX5_told_59 (by decide) (fun h_7 => ?_) (fun h_7 => ?_)
              · have hf := zt h_7 hf
                exact kX5_told_73 hC0 hQ hf hP hD hS (lv_sub hl [0, 1, 2, 3, 4] rfl)
              · have hf := zf h_7 hf
                refine lv_aload_n hx hb dX5_told_62 rfl (lv_at hl 0 rfl) ?_
                obtain ⟨y_6, S_6, hg_6, hf⟩ := obnd_some hf
                refine zci (va_runV (As := []) (rest := []) hC (tX5_routers hg_6) (cwV 0 hts gX5_told_X5_routers rfl rfl rfl (by decide +kernel) ⟨Nat.le_of_ble_eq_true rfl, Nat.le_of_ble_eq_true rfl⟩) (zpV hP hK hD hN (rM_0 hK hP)) rfl rfl hl.1 rfl (lv_room (Nat.le_of_ble_eq_true rfl)) dX5_told_63 ⟨Nat.zero_le _, Nat.zero_le _⟩) hS (fun H locs hP hD hS => ?_)
                refine lv_iconst (v := (4 : Int32)) hx hb dX5_told_66 (by decide) ?_
                refine lv_icmp_ne (tgt := 73) hx hb dX5_told_67 (by decide) (fun h_8 => ?_) (fun h_8 => ?_)
                · have hf := zf h_8 hf
                  exact kX5_told_73 hC0 hQ hf hP hD hS (lv_sub hl [0, 1, 2, 3, 4] rfl)
                · have hf := zt h_8 hf
                  refine lv_bipush (v := (-104 : Int32)) hx hb dX5_told_70 (by decide) ?_
                  exact zri hf hQ hP hD hS dX5_told_72
          · have hf := zf h_5 hf
            refine lv_bipush (v := (-103 : Int32)) hx hb dX5_told_46 (by decide) ?_
            exact zri hf hQ hP hD hS dX5_told_48
        · have hf := zt h_4 hf
          refine lv_bipush (v := (-102 : Int32)) hx hb dX5_told_35 (by decide) ?_
          exact zri hf hQ hP hD hS dX5_told_37
theorem tX5_told {S : zS} {x1 : Int32} {x2 : Int32} {x3 : Int32} {x4 : Int32} {r : Int32 × zS} (hf : fX5_told S x1 x2 x3 x4 = some r) : zMi l yX5_told wsX5_told rmX5_told D (zT cI cZ) A (wM a cI cZ) [.ref (a 0), .int x1, .int x2, .int x3, .int x4] S r :=
  zMi_of (by decide) rfl rfl (Nat.le_of_ble_eq_true rfl) (fun hC0 hQ hP hD hS _ hl => kX5_told hC0 hQ hf hP hD hS hl)
abbrev rmX5_keep : Room := { frames := 1, cells := 0, slots := 0, locals := 22 }
theorem iwX5_keep_5 : ∀ w ∈ wsX50, w ∈ wsX5_keep := fun _ h => List.mem_cons_of_mem _ (List.mem_append_right _ h)
set_option maxHeartbeats 4000000 in
set_option maxRecDepth 100000 in
theorem kX5_keep_93 {r : zS} (hC0 : zC p m c cX5_keep 5 s args wsX5_keep RX5 D cI cZ) (hQ : zRv p l e rmX5_keep s m args below meth c cX5_keep D A (wM a cI cZ) Q r) {S : zS} {x1 : Int32} {x2 : Int32} {x3 : Int32} {t1 : Int32} (hf : fX5_keep_93 S x1 x2 x3 t1 = some r) {H : Heap} {locs : List Loc} (hP : va_P D vwCl (wM a cI cZ S) H) (hD : va_D A (wM a cI cZ S)) (hS : va_S A s.heap H locs) {ls : Array Slot} (hl : lv_has ls 5 [(0, .ref (a 0)), (1, .int x1), (2, .int x2), (3, .int x3)]) : W p l e rmX5_keep s m args below meth c H locs 0 0 Q (F0 m 93 ls [.int t1, .ref (a 0)]) := by
  obtain ⟨hC, hK, hN⟩ := id hC0
  obtain ⟨hx, hb, hml, hown, hts⟩ := id hC
  have iw5 := iwX5_keep_5
  unfold fX5_keep_93 at hf
  refine pM5_hops hf hx hb hts iw5 hown hK hP hD hS (List.mem_of_getElem? (i := 3) rfl) dX5_keep_93 (fun S_1 H locs hf hP hD hS => ?_)
  refine lv_aload_n hx hb dX5_keep_96 rfl (lv_at hl 0 rfl) ?_
  refine gM5_goalOf hx hb hts iw5 hown hK hP (List.mem_of_getElem? (i := 1) rfl) dX5_keep_97 ?_
  refine lv_iload_n hx hb dX5_keep_100 rfl (lv_at hl 3 rfl) ?_
  refine lv_iload_n hx hb dX5_keep_101 rfl (lv_at hl 1 rfl) ?_
  refine sM5_goalOf hf hx hb hK hP hD hS dX5_keep_102 (fun S_2 H locs hf hP hD hS => ?_)
  refine lv_aload_n hx hb dX5_keep_103 rfl (lv_at hl 0 rfl) ?_
  refine gM5_hopOf hx hb hts iw5 hown hK hP (List.mem_of_getElem? (i := 2) rfl) dX5_keep_104 ?_
  refine lv_iload_n hx hb dX5_keep_107 rfl (lv_at hl 3 rfl) ?_
  refine lv_iload_n hx hb dX5_keep_108 rfl (lv_at hl 2 rfl) ?_
  refine sM5_hopOf hf hx hb hK hP hD hS dX5_keep_109 (fun S_3 H locs hf hP hD hS => ?_)
  exact zrv hf hQ hP hD hS dX5_keep_110
set_option maxHeartbeats 4000000 in
set_option maxRecDepth 100000 in
theorem kX5_keep_71 {r : zS} (hC0 : zC p m c cX5_keep 5 s args wsX5_keep RX5 D cI cZ) (hQ : zRv p l e rmX5_keep s m args below meth c cX5_keep D A (wM a cI cZ) Q r) {S : zS} {x1 : Int32} {x2 : Int32} {x3 : Int32} (hf : fX5_keep_71 S x1 x2 x3 = some r) {H : Heap} {locs : List Loc} (hP : va_P D vwCl (wM a cI cZ S) H) (hD : va_D A (wM a cI cZ S)) (hS : va_S A s.heap H locs) {ls : Array Slot} (hl : lv_has ls 5 [(0, .ref (a 0)), (1, .int x1), (2, .int x2), (3, .int x3)]) : W p l e rmX5_keep s m args below meth c H locs 0 0 Q (F0 m 71 ls []) := by
  obtain ⟨hC, hK, hN⟩ := id hC0
  obtain ⟨hx, hb, hml, hown, hts⟩ := id hC
  have iw5 := iwX5_keep_5
  unfold fX5_keep_71 at hf
  refine lv_aload_n hx hb dX5_keep_71 rfl (lv_at hl 0 rfl) ?_
  refine lv_iload_n hx hb dX5_keep_72 rfl (lv_at hl 3 rfl) ?_
  refine lv_aload_n hx hb dX5_keep_73 rfl (lv_at hl 0 rfl) ?_
  refine gM5_hops hx hb hts iw5 hown hK hP (List.mem_of_getElem? (i := 3) rfl) dX5_keep_74 ?_
  refine lv_icmp_ne (tgt := 89) hx hb dX5_keep_77 (by decide) (fun h_1 => ?_) (fun h_1 => ?_)
  · have hf := zf h_1 hf
    refine lv_aload_n hx hb dX5_keep_89 rfl (lv_at hl 0 rfl) ?_
    refine gM5_hops hx hb hts iw5 hown hK hP (List.mem_of_getElem? (i := 3) rfl) dX5_keep_90 ?_
    exact kX5_keep_93 hC0 hQ hf hP hD hS (lv_sub hl [0, 1, 2, 3] rfl)
  · have hf := zt h_1 hf
    refine lv_aload_n hx hb dX5_keep_80 rfl (lv_at hl 0 rfl) ?_
    refine gM5_hops hx hb hts iw5 hown hK hP (List.mem_of_getElem? (i := 3) rfl) dX5_keep_81 ?_
    refine lv_iconst (v := (1 : Int32)) hx hb dX5_keep_84 (by decide) ?_
    refine lv_iadd hx hb dX5_keep_85 ?_
    refine lv_goto (tgt := 93) hx hb dX5_keep_86 (by decide) ?_
    exact kX5_keep_93 hC0 hQ hf hP hD hS (lv_sub hl [0, 1, 2, 3] rfl)
set_option maxHeartbeats 4000000 in
set_option maxRecDepth 100000 in
theorem kX5_keep_14b {r : zS} (hC0 : zC p m c cX5_keep 5 s args wsX5_keep RX5 D cI cZ) (hQ : zRv p l e rmX5_keep s m args below meth c cX5_keep D A (wM a cI cZ) Q r) {F14 : zS → Int32 → Int32 → Int32 → Int32 → Option (zS)} (hF14 : ∀ (S : zS) (x1 : Int32) (x2 : Int32) (x3 : Int32) (x4 : Int32), F14 S x1 x2 x3 x4 = some r → ∀ {H : Heap} {locs : List Loc}, va_P D vwCl (wM a cI cZ S) H → va_D A (wM a cI cZ S) → va_S A s.heap H locs → ∀ {ls : Array Slot}, lv_has ls 5 [(0, .ref (a 0)), (1, .int x1), (2, .int x2), (3, .int x3), (4, .int x4)] → W p l e rmX5_keep s m args below meth c H locs 0 0 Q (F0 m 14 ls [])) {S : zS} {x1 : Int32} {x2 : Int32} {x3 : Int32} {x4 : Int32} (hf : bX5_keep_14 F14 S x1 x2 x3 x4 = some r) {H : Heap} {locs : List Loc} (hP : va_P D vwCl (wM a cI cZ S) H) (hD : va_D A (wM a cI cZ S)) (hS : va_S A s.heap H locs) {ls : Array Slot} (hl : lv_has ls 5 [(0, .ref (a 0)), (1, .int x1), (2, .int x2), (3, .int x3), (4, .int x4)]) : W p l e rmX5_keep s m args below meth c H locs 0 0 Q (F0 m 14 ls []) := by
  obtain ⟨hC, hK, hN⟩ := id hC0
  obtain ⟨hx, hb, hml, hown, hts⟩ := id hC
  have iw5 := iwX5_keep_5
  unfold bX5_keep_14 at hf
  refine lv_iload hx hb dX5_keep_14 (lv_at hl 4 rfl) ?_
  refine lv_iconst (v := (4 : Int32)) hx hb dX5_keep_16 (by decide) ?_
  refine lv_icmp_ge (tgt := 58) hx hb dX5_keep_17 (by decide) (fun h_1 => ?_) (fun h_1 => ?_)
  · have hf := zt h_1 hf
    refine z_iinc hf hx hb 3 (fun y => [(3, .int y), (0, .ref (a 0)), (1, .int x1), (2, .int x2), (4, .int x4)]) dX5_keep_58 hl rfl (by decide) (by decide) (fun _ => rfl) (fun y_1 ls hf hl => ?_)
    refine lv_aload_n hx hb dX5_keep_61 rfl (lv_at hl 1 rfl) ?_
    refine lv_dup hx hb dX5_keep_62 rfl ?_
    refine gM5_hops hx hb hts iw5 hown hK hP (List.mem_of_getElem? (i := 3) rfl) dX5_keep_63 ?_
    refine lv_iconst (v := (1 : Int32)) hx hb dX5_keep_66 (by decide) ?_
    refine lv_isub hx hb dX5_keep_67 ?_
    refine pM5_hops hf hx hb hts iw5 hown hK hP hD hS (List.mem_of_getElem? (i := 3) rfl) dX5_keep_68 (fun S_1 H locs hf hP hD hS => ?_)
    exact kX5_keep_71 hC0 hQ hf hP hD hS (lv_sub hl [1, 2, 3, 0] rfl)
  · have hf := zf h_1 hf
    refine lv_aload_n hx hb dX5_keep_20 rfl (lv_at hl 0 rfl) ?_
    refine gM5_goalOf hx hb hts iw5 hown hK hP (List.mem_of_getElem? (i := 1) rfl) dX5_keep_21 ?_
    refine lv_iload hx hb dX5_keep_24 (lv_at hl 4 rfl) ?_
    refine lv_iconst (v := (1 : Int32)) hx hb dX5_keep_26 (by decide) ?_
    refine lv_isub hx hb dX5_keep_27 ?_
    refine lv_aload_n hx hb dX5_keep_28 rfl (lv_at hl 0 rfl) ?_
    refine gM5_goalOf hx hb hts iw5 hown hK hP (List.mem_of_getElem? (i := 1) rfl) dX5_keep_29 ?_
    refine lv_iload hx hb dX5_keep_32 (lv_at hl 4 rfl) ?_
    refine lM5_goalOf hf hx hb hK hP dX5_keep_34 (fun hf => ?_)
    refine sM5_goalOf hf hx hb hK hP hD hS dX5_keep_35 (fun S_2 H locs hf hP hD hS => ?_)
    refine lv_aload_n hx hb dX5_keep_36 rfl (lv_at hl 0 rfl) ?_
    refine gM5_hopOf hx hb hts iw5 hown hK hP (List.mem_of_getElem? (i := 2) rfl) dX5_keep_37 ?_
    refine lv_iload hx hb dX5_keep_40 (lv_at hl 4 rfl) ?_
    refine lv_iconst (v := (1 : Int32)) hx hb dX5_keep_42 (by decide) ?_
    refine lv_isub hx hb dX5_keep_43 ?_
    refine lv_aload_n hx hb dX5_keep_44 rfl (lv_at hl 0 rfl) ?_
    refine gM5_hopOf hx hb hts iw5 hown hK hP (List.mem_of_getElem? (i := 2) rfl) dX5_keep_45 ?_
    refine lv_iload hx hb dX5_keep_48 (lv_at hl 4 rfl) ?_
    refine lM5_hopOf hf hx hb hK hP dX5_keep_50 (fun hf => ?_)
    refine sM5_hopOf hf hx hb hK hP hD hS dX5_keep_51 (fun S_3 H locs hf hP hD hS => ?_)
    refine z_iinc hf hx hb 4 (fun y => [(4, .int y), (0, .ref (a 0)), (1, .int x1), (2, .int x2), (3, .int x3)]) dX5_keep_52 hl rfl (by decide) (by decide) (fun _ => rfl) (fun y_2 ls hf hl => ?_)
    refine lv_goto (tgt := 14) hx hb dX5_keep_55 (by decide) ?_
    exact hF14 _ _ _ _ _ hf hP hD hS (lv_sub hl [1, 2, 3, 4, 0] rfl)
theorem kX5_keep_14 {r : zS} (hC0 : zC p m c cX5_keep 5 s args wsX5_keep RX5 D cI cZ) (hQ : zRv p l e rmX5_keep s m args below meth c cX5_keep D A (wM a cI cZ) Q r) (n : Nat) : ∀ (S : zS) (x1 : Int32) (x2 : Int32) (x3 : Int32) (x4 : Int32), fX5_keep_14 n S x1 x2 x3 x4 = some r → ∀ {H : Heap} {locs : List Loc}, va_P D vwCl (wM a cI cZ S) H → va_D A (wM a cI cZ S) → va_S A s.heap H locs → ∀ {ls : Array Slot}, lv_has ls 5 [(0, .ref (a 0)), (1, .int x1), (2, .int x2), (3, .int x3), (4, .int x4)] → W p l e rmX5_keep s m args below meth c H locs 0 0 Q (F0 m 14 ls []) := by
  induction n with
  | zero => intro S x1 x2 x3 x4 hf; cases hf
  | succ n ih => intro S x1 x2 x3 x4 hf; exact kX5_keep_14b hC0 hQ ih hf
set_option maxHeartbeats 4000000 in
set_option maxRecDepth 100000 in
theorem kX5_keep {r : zS} (hC0 : zC p m c cX5_keep 5 s args wsX5_keep RX5 D cI cZ) (hQ : zRv p l e rmX5_keep s m args below meth c cX5_keep D A (wM a cI cZ) Q r) {S : zS} {x1 : Int32} {x2 : Int32} (hf : fX5_keep S x1 x2 = some r) {H : Heap} {locs : List Loc} (hP : va_P D vwCl (wM a cI cZ S) H) (hD : va_D A (wM a cI cZ S)) (hS : va_S A s.heap H locs) {ls : Array Slot} (hl : lv_has ls 5 [(0, .ref (a 0)), (1, .int x1), (2, .int x2)]) : W p l e rmX5_keep s m args below meth c H locs 0 0 Q (F0 m 0 ls []) := by
  obtain ⟨hC, hK, hN⟩ := id hC0
  obtain ⟨hx, hb, hml, hown, hts⟩ := id hC
  have iw5 := iwX5_keep_5
  unfold fX5_keep at hf
  refine lv_aload_n hx hb dX5_keep_0 rfl (lv_at hl 0 rfl) ?_
  refine lv_iload_n hx hb dX5_keep_1 rfl (lv_at hl 1 rfl) ?_
  obtain ⟨y_1, S_1, hg_1, hf⟩ := obnd_some hf
  refine zci (va_runV (As := [.int x1]) (rest := []) hC (tX5_keptFor hg_1) (cwV 1 hts gX5_keep_X5_keptFor rfl rfl rfl (by decide +kernel) ⟨Nat.le_of_ble_eq_true rfl, Nat.le_of_ble_eq_true rfl⟩) (zpV hP hK hD hN (rM_0 hK hP)) rfl rfl hl.1 rfl (lv_room (Nat.le_of_ble_eq_true rfl)) dX5_keep_2 ⟨Nat.zero_le _, Nat.zero_le _⟩) hS (fun H locs hP hD hS => ?_)
  refine z_istore_n hf hx hb (fun y => [(3, .int y), (0, .ref (a 0)), (1, .int x1), (2, .int x2)]) dX5_keep_5 rfl hl (by decide) (fun _ => rfl) (fun y_2 ls hf hl => ?_)
  refine lv_iload_n hx hb dX5_keep_6 rfl (lv_at hl 0 rfl) ?_
  refine lv_iconst (v := (4 : Int32)) hx hb dX5_keep_7 (by decide) ?_
  refine lv_icmp_ne (tgt := 71) hx hb dX5_keep_8 (by decide) (fun h_1 => ?_) (fun h_1 => ?_)
  · have hf := zf h_1 hf
    exact kX5_keep_71 hC0 hQ hf hP hD hS (lv_sub hl [1, 2, 3, 0] rfl)
  · have hf := zt h_1 hf
    refine lv_iconst (v := (1 : Int32)) hx hb dX5_keep_11 (by decide) ?_
    refine z_istore hf hx hb (fun y => [(4, .int y), (3, .int y_2), (0, .ref (a 0)), (1, .int x1), (2, .int x2)]) dX5_keep_12 hl (by decide) (fun _ => rfl) (fun y_3 ls hf hl => ?_)
    exact kX5_keep_14 hC0 hQ 64 _ _ _ _ _ hf hP hD hS (lv_sub hl [2, 3, 4, 1, 0] rfl)
theorem tX5_keep {S : zS} {x1 : Int32} {x2 : Int32} {r : zS} (hf : fX5_keep S x1 x2 = some r) : zMv l yX5_keep wsX5_keep rmX5_keep D (zT cI cZ) A (wM a cI cZ) [.ref (a 0), .int x1, .int x2] S r :=
  zMv_of (by decide) rfl rfl (Nat.le_of_ble_eq_true rfl) (fun hC0 hQ hP hD hS _ hl => kX5_keep hC0 hQ hf hP hD hS hl)
end KY4
