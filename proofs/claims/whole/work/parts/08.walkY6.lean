section KY6
variable {p : Program} {l : Launch} {e : Env} {s : State} {m : MethodId} {args : Array Value} {below : List Frame} {meth : Method} {c : Code} {Q : State → Prop} {D : va_G} {a : Nat → Nat} {cI cZ : ClassId} {A : Nat → Prop}
abbrev rmX5_hop : Room := { frames := 6, cells := 0, slots := 0, locals := 131 }
theorem iwX5_hop_5 : ∀ w ∈ wsX50, w ∈ wsX5_hop := fun _ h => List.mem_cons_of_mem _ (List.mem_append_right _ h)
set_option maxHeartbeats 4000000 in
set_option maxRecDepth 100000 in
theorem kX5_hop {r : Int32 × zS} (hC0 : zC p m c cX5_hop 2 s args wsX5_hop RX5 D cI cZ) (hQ : zRi p l e rmX5_hop s m args below meth c cX5_hop D A (wM a cI cZ) Q r) {S : zS} {x1 : Int32} (hf : fX5_hop S x1 = some r) {H : Heap} {locs : List Loc} (hP : va_P D vwCl (wM a cI cZ S) H) (hD : va_D A (wM a cI cZ S)) (hS : va_S A s.heap H locs) {ls : Array Slot} (hl : lv_has ls 2 [(0, .ref (a 0)), (1, .int x1)]) : W p l e rmX5_hop s m args below meth c H locs 0 0 Q (F0 m 0 ls []) := by
  obtain ⟨hC, hK, hN⟩ := id hC0
  obtain ⟨hx, hb, hml, hown, hts⟩ := id hC
  have iw5 := iwX5_hop_5
  unfold fX5_hop at hf
  refine lv_iload_n hx hb dX5_hop_0 rfl (lv_at hl 1 rfl) ?_
  obtain ⟨y_1, S_1, hg_1, hf⟩ := obnd_some hf
  refine zci (va_runS (As := [.int x1]) (rest := []) hC (tX5_isGoal hg_1) (va_cwS 1 hts gX5_hop_X5_isGoal rfl rfl rfl (by decide +kernel) ⟨Nat.le_of_ble_eq_true rfl, Nat.le_of_ble_eq_true rfl⟩) (zpS hP hK hD hN) rfl rfl hl.1 rfl (lv_room (Nat.le_of_ble_eq_true rfl)) dX5_hop_1 ⟨Nat.zero_le _, Nat.zero_le _⟩) hS (fun H locs hP hD hS => ?_)
  refine lv_if_eq (tgt := 15) hx hb dX5_hop_4 (by decide) (fun h_1 => ?_) (fun h_1 => ?_)
  · have hf := zt h_1 hf
    refine lv_bipush (v := (-102 : Int32)) hx hb dX5_hop_15 (by decide) ?_
    exact zri hf hQ hP hD hS dX5_hop_17
  · have hf := zf h_1 hf
    refine lv_aload_n hx hb dX5_hop_7 rfl (lv_at hl 0 rfl) ?_
    refine lv_iload_n hx hb dX5_hop_8 rfl (lv_at hl 1 rfl) ?_
    obtain ⟨y_2, S_2, hg_2, hf⟩ := obnd_some hf
    refine zci (va_runV (As := [.int x1]) (rest := []) hC (tX5_hopNow hg_2) (cwV 1 hts gX5_hop_X5_hopNow rfl rfl rfl (by decide +kernel) ⟨Nat.le_of_ble_eq_true rfl, Nat.le_of_ble_eq_true rfl⟩) (zpV hP hK hD hN (rM_0 hK hP)) rfl rfl hl.1 rfl (lv_room (Nat.le_of_ble_eq_true rfl)) dX5_hop_9 ⟨Nat.zero_le _, Nat.zero_le _⟩) hS (fun H locs hP hD hS => ?_)
    refine lv_goto (tgt := 17) hx hb dX5_hop_12 (by decide) ?_
    exact zri hf hQ hP hD hS dX5_hop_17
theorem tX5_hop {S : zS} {x1 : Int32} {r : Int32 × zS} (hf : fX5_hop S x1 = some r) : zMi l yX5_hop wsX5_hop rmX5_hop D (zT cI cZ) A (wM a cI cZ) [.ref (a 0), .int x1] S r :=
  zMi_of (by decide) rfl rfl (Nat.le_of_ble_eq_true rfl) (fun hC0 hQ hP hD hS _ hl => kX5_hop hC0 hQ hf hP hD hS hl)
abbrev rmX5_out : Room := { frames := 1, cells := 0, slots := 0, locals := 22 }
theorem iwX5_out_5 : ∀ w ∈ wsX50, w ∈ wsX5_out := fun _ h => List.mem_cons_of_mem _ (List.mem_append_right _ h)
set_option maxHeartbeats 4000000 in
set_option maxRecDepth 100000 in
theorem kX5_out {r : Int32 × zS} (hC0 : zC p m c cX5_out 3 s args wsX5_out RX5 D cI cZ) (hQ : zRi p l e rmX5_out s m args below meth c cX5_out D A (wM a cI cZ) Q r) {S : zS} {x1 : Int32} {x2 : Int32} (hf : fX5_out S x1 x2 = some r) {H : Heap} {locs : List Loc} (hP : va_P D vwCl (wM a cI cZ S) H) (hD : va_D A (wM a cI cZ S)) (hS : va_S A s.heap H locs) {ls : Array Slot} (hl : lv_has ls 3 [(0, .ref (a 0)), (1, .int x1), (2, .int x2)]) : W p l e rmX5_out s m args below meth c H locs 0 0 Q (F0 m 0 ls []) := by
  obtain ⟨hC, hK, hN⟩ := id hC0
  obtain ⟨hx, hb, hml, hown, hts⟩ := id hC
  have iw5 := iwX5_out_5
  unfold fX5_out at hf
  refine lv_iload_n hx hb dX5_out_0 rfl (lv_at hl 1 rfl) ?_
  refine lv_iconst (v := (0 : Int32)) hx hb dX5_out_1 (by decide) ?_
  refine lv_aload_n hx hb dX5_out_2 rfl (lv_at hl 0 rfl) ?_
  refine gM5_outs hx hb hts iw5 hown hK hP (List.mem_of_getElem? (i := 1) rfl) dX5_out_3 ?_
  refine lv_iconst (v := (1 : Int32)) hx hb dX5_out_6 (by decide) ?_
  refine lv_isub hx hb dX5_out_7 ?_
  obtain ⟨y_1, S_1, hg_1, hf⟩ := obnd_some hf
  refine zci (va_runS (As := [.int x1, .int (0 : Int32), .int ((S.1 8) - (1 : Int32))]) (rest := []) hC (tX5_within hg_1) (va_cwS 3 hts gX5_out_X5_within rfl rfl rfl (by decide +kernel) ⟨Nat.le_of_ble_eq_true rfl, Nat.le_of_ble_eq_true rfl⟩) (zpS hP hK hD hN) rfl rfl hl.1 rfl (lv_room (Nat.le_of_ble_eq_true rfl)) dX5_out_8 ⟨Nat.zero_le _, Nat.zero_le _⟩) hS (fun H locs hP hD hS => ?_)
  refine lv_if_ne (tgt := 19) hx hb dX5_out_11 (by decide) (fun h_1 => ?_) (fun h_1 => ?_)
  · have hf := zf h_1 hf
    refine lv_iload_n hx hb dX5_out_19 rfl (lv_at hl 2 rfl) ?_
    refine lv_iconst (v := (0 : Int32)) hx hb dX5_out_20 (by decide) ?_
    refine lv_iconst (v := (4 : Int32)) hx hb dX5_out_21 (by decide) ?_
    obtain ⟨y_2, S_2, hg_2, hf⟩ := obnd_some hf
    refine zci (va_runS (As := [.int x2, .int (0 : Int32), .int (4 : Int32)]) (rest := []) hC (tX5_within hg_2) (va_cwS 3 hts gX5_out_X5_within rfl rfl rfl (by decide +kernel) ⟨Nat.le_of_ble_eq_true rfl, Nat.le_of_ble_eq_true rfl⟩) (zpS hP hK hD hN) rfl rfl hl.1 rfl (lv_room (Nat.le_of_ble_eq_true rfl)) dX5_out_22 ⟨Nat.zero_le _, Nat.zero_le _⟩) hS (fun H locs hP hD hS => ?_)
    refine lv_if_eq (tgt := 41) hx hb dX5_out_25 (by decide) (fun h_2 => ?_) (fun h_2 => ?_)
    · have hf := zt h_2 hf
      refine lv_bipush (v := (-102 : Int32)) hx hb dX5_out_41 (by decide) ?_
      exact zri hf hQ hP hD hS dX5_out_43
    · have hf := zf h_2 hf
      refine lv_aload_n hx hb dX5_out_28 rfl (lv_at hl 0 rfl) ?_
      refine gM5_outAt hx hb hts iw5 hown hK hP (List.mem_of_getElem? (i := 2) rfl) dX5_out_29 ?_
      refine lv_iconst (v := (5 : Int32)) hx hb dX5_out_32 (by decide) ?_
      refine lv_iload_n hx hb dX5_out_33 rfl (lv_at hl 1 rfl) ?_
      refine lv_imul hx hb dX5_out_34 ?_
      refine lv_iload_n hx hb dX5_out_35 rfl (lv_at hl 2 rfl) ?_
      refine lv_iadd hx hb dX5_out_36 ?_
      refine lM5_outAt hf hx hb hK hP dX5_out_37 (fun hf => ?_)
      refine lv_goto (tgt := 43) hx hb dX5_out_38 (by decide) ?_
      exact zri hf hQ hP hD hS dX5_out_43
  · have hf := zt h_1 hf
    refine lv_bipush (v := (-101 : Int32)) hx hb dX5_out_14 (by decide) ?_
    refine lv_goto (tgt := 43) hx hb dX5_out_16 (by decide) ?_
    exact zri hf hQ hP hD hS dX5_out_43
theorem tX5_out {S : zS} {x1 : Int32} {x2 : Int32} {r : Int32 × zS} (hf : fX5_out S x1 x2 = some r) : zMi l yX5_out wsX5_out rmX5_out D (zT cI cZ) A (wM a cI cZ) [.ref (a 0), .int x1, .int x2] S r :=
  zMi_of (by decide) rfl rfl (Nat.le_of_ble_eq_true rfl) (fun hC0 hQ hP hD hS _ hl => kX5_out hC0 hQ hf hP hD hS hl)
abbrev rmX5_aboutNow : Room := { frames := 0, cells := 0, slots := 0, locals := 0 }
theorem iwX5_aboutNow_5 : ∀ w ∈ wsX50, w ∈ wsX5_aboutNow := fun _ h => List.mem_cons_of_mem _ (List.mem_append_right _ h)
set_option maxHeartbeats 4000000 in
set_option maxRecDepth 100000 in
theorem kX5_aboutNow {r : Int32 × zS} (hC0 : zC p m c cX5_aboutNow 2 s args wsX5_aboutNow RX5 D cI cZ) (hQ : zRi p l e rmX5_aboutNow s m args below meth c cX5_aboutNow D A (wM a cI cZ) Q r) {S : zS} {x1 : Int32} (hf : fX5_aboutNow S x1 = some r) {H : Heap} {locs : List Loc} (hP : va_P D vwCl (wM a cI cZ S) H) (hD : va_D A (wM a cI cZ S)) (hS : va_S A s.heap H locs) {ls : Array Slot} (hl : lv_has ls 2 [(0, .ref (a 0)), (1, .int x1)]) : W p l e rmX5_aboutNow s m args below meth c H locs 0 0 Q (F0 m 0 ls []) := by
  obtain ⟨hC, hK, hN⟩ := id hC0
  obtain ⟨hx, hb, hml, hown, hts⟩ := id hC
  have iw5 := iwX5_aboutNow_5
  unfold fX5_aboutNow at hf
  refine lv_iload_n hx hb dX5_aboutNow_0 rfl (lv_at hl 1 rfl) ?_
  by_cases h_1 : x1 = (0 : Int32)
  · have hf := zt h_1 hf
    refine lv_tableIn (off := 35) (tgt := 36) hx hb dX5_aboutNow_1 (by rw [h_1]; decide) (by rw [h_1]; decide) (by rw [h_1]; rfl) (by decide) ?_
    refine lv_aload_n hx hb dX5_aboutNow_36 rfl (lv_at hl 0 rfl) ?_
    refine gM5_clock hx hb hts iw5 hown hK hP (List.mem_of_getElem? (i := 1) rfl) dX5_aboutNow_37 ?_
    exact zri hf hQ hP hD hS dX5_aboutNow_40
  · have hf := zf h_1 hf
    by_cases h_2 : x1 = (1 : Int32)
    · have hf := zt h_2 hf
      refine lv_tableIn (off := 40) (tgt := 41) hx hb dX5_aboutNow_1 (by rw [h_2]; decide) (by rw [h_2]; decide) (by rw [h_2]; rfl) (by decide) ?_
      refine lv_aload_n hx hb dX5_aboutNow_41 rfl (lv_at hl 0 rfl) ?_
      refine gM5_own hx hb hts iw5 hown hK hP (List.mem_of_getElem? (i := 2) rfl) dX5_aboutNow_42 ?_
      exact zri hf hQ hP hD hS dX5_aboutNow_45
    · have hf := zf h_2 hf
      by_cases h_3 : x1 = (2 : Int32)
      · have hf := zt h_3 hf
        refine lv_tableIn (off := 45) (tgt := 46) hx hb dX5_aboutNow_1 (by rw [h_3]; decide) (by rw [h_3]; decide) (by rw [h_3]; rfl) (by decide) ?_
        refine lv_aload_n hx hb dX5_aboutNow_46 rfl (lv_at hl 0 rfl) ?_
        refine gM5_trial hx hb hts iw5 hown hK hP (List.mem_of_getElem? (i := 3) rfl) dX5_aboutNow_47 ?_
        exact zri hf hQ hP hD hS dX5_aboutNow_50
      · have hf := zf h_3 hf
        by_cases h_4 : x1 = (3 : Int32)
        · have hf := zt h_4 hf
          refine lv_tableIn (off := 50) (tgt := 51) hx hb dX5_aboutNow_1 (by rw [h_4]; decide) (by rw [h_4]; decide) (by rw [h_4]; rfl) (by decide) ?_
          refine lv_aload_n hx hb dX5_aboutNow_51 rfl (lv_at hl 0 rfl) ?_
          refine gM5_trial hx hb hts iw5 hown hK hP (List.mem_of_getElem? (i := 3) rfl) dX5_aboutNow_52 ?_
          refine lv_iconst (v := (-1 : Int32)) hx hb dX5_aboutNow_55 (by decide) ?_
          refine lv_icmp_ne (tgt := 63) hx hb dX5_aboutNow_56 (by decide) (fun h_5 => ?_) (fun h_5 => ?_)
          · have hf := zf h_5 hf
            refine lv_aload_n hx hb dX5_aboutNow_63 rfl (lv_at hl 0 rfl) ?_
            refine gM5_began hx hb hts iw5 hown hK hP (List.mem_of_getElem? (i := 4) rfl) dX5_aboutNow_64 ?_
            refine lv_bipush (v := (10 : Int32)) hx hb dX5_aboutNow_67 (by decide) ?_
            refine lv_iadd hx hb dX5_aboutNow_69 ?_
            exact zri hf hQ hP hD hS dX5_aboutNow_70
          · have hf := zt h_5 hf
            refine lv_iconst (v := (-1 : Int32)) hx hb dX5_aboutNow_59 (by decide) ?_
            refine lv_goto (tgt := 70) hx hb dX5_aboutNow_60 (by decide) ?_
            exact zri hf hQ hP hD hS dX5_aboutNow_70
        · have hf := zf h_4 hf
          by_cases h_6 : x1 = (4 : Int32)
          · have hf := zt h_6 hf
            refine lv_tableIn (off := 70) (tgt := 71) hx hb dX5_aboutNow_1 (by rw [h_6]; decide) (by rw [h_6]; decide) (by rw [h_6]; rfl) (by decide) ?_
            refine lv_aload_n hx hb dX5_aboutNow_71 rfl (lv_at hl 0 rfl) ?_
            refine gM5_doubled hx hb hts iw5 hown hK hP (List.mem_of_getElem? (i := 5) rfl) dX5_aboutNow_72 ?_
            exact zri hf hQ hP hD hS dX5_aboutNow_75
          · have hf := zf h_6 hf
            refine lv_tableOut (tgt := 76) hx hb dX5_aboutNow_1 (by have := zne h_1 (n := 0) (by decide); have := zne h_2 (n := 1) (by decide); have := zne h_3 (n := 2) (by decide); have := zne h_4 (n := 3) (by decide); have := zne h_6 (n := 4) (by decide); omega) (by decide) ?_
            refine lv_aload_n hx hb dX5_aboutNow_76 rfl (lv_at hl 0 rfl) ?_
            refine gM5_turn hx hb hts iw5 hown hK hP (List.mem_of_getElem? (i := 6) rfl) dX5_aboutNow_77 ?_
            exact zri hf hQ hP hD hS dX5_aboutNow_80
theorem tX5_aboutNow {S : zS} {x1 : Int32} {r : Int32 × zS} (hf : fX5_aboutNow S x1 = some r) : zMi l yX5_aboutNow wsX5_aboutNow rmX5_aboutNow D (zT cI cZ) A (wM a cI cZ) [.ref (a 0), .int x1] S r :=
  zMi_of (by decide) rfl rfl (Nat.le_of_ble_eq_true rfl) (fun hC0 hQ hP hD hS _ hl => kX5_aboutNow hC0 hQ hf hP hD hS hl)
abbrev rmX5_about : Room := { frames := 1, cells := 0, slots := 0, locals := 22 }
theorem iwX5_about_5 : ∀ w ∈ wsX50, w ∈ wsX5_about := fun _ h => List.mem_cons_of_mem _ (List.mem_append_right _ h)
set_option maxHeartbeats 4000000 in
set_option maxRecDepth 100000 in
theorem kX5_about {r : Int32 × zS} (hC0 : zC p m c cX5_about 2 s args wsX5_about RX5 D cI cZ) (hQ : zRi p l e rmX5_about s m args below meth c cX5_about D A (wM a cI cZ) Q r) {S : zS} {x1 : Int32} (hf : fX5_about S x1 = some r) {H : Heap} {locs : List Loc} (hP : va_P D vwCl (wM a cI cZ S) H) (hD : va_D A (wM a cI cZ S)) (hS : va_S A s.heap H locs) {ls : Array Slot} (hl : lv_has ls 2 [(0, .ref (a 0)), (1, .int x1)]) : W p l e rmX5_about s m args below meth c H locs 0 0 Q (F0 m 0 ls []) := by
  obtain ⟨hC, hK, hN⟩ := id hC0
  obtain ⟨hx, hb, hml, hown, hts⟩ := id hC
  have iw5 := iwX5_about_5
  unfold fX5_about at hf
  refine lv_iload_n hx hb dX5_about_0 rfl (lv_at hl 1 rfl) ?_
  refine lv_iconst (v := (0 : Int32)) hx hb dX5_about_1 (by decide) ?_
  refine lv_iconst (v := (5 : Int32)) hx hb dX5_about_2 (by decide) ?_
  obtain ⟨y_1, S_1, hg_1, hf⟩ := obnd_some hf
  refine zci (va_runS (As := [.int x1, .int (0 : Int32), .int (5 : Int32)]) (rest := []) hC (tX5_within hg_1) (va_cwS 3 hts gX5_about_X5_within rfl rfl rfl (by decide +kernel) ⟨Nat.le_of_ble_eq_true rfl, Nat.le_of_ble_eq_true rfl⟩) (zpS hP hK hD hN) rfl rfl hl.1 rfl (lv_room (Nat.le_of_ble_eq_true rfl)) dX5_about_3 ⟨Nat.zero_le _, Nat.zero_le _⟩) hS (fun H locs hP hD hS => ?_)
  refine lv_if_eq (tgt := 17) hx hb dX5_about_6 (by decide) (fun h_1 => ?_) (fun h_1 => ?_)
  · have hf := zt h_1 hf
    refine lv_bipush (v := (-102 : Int32)) hx hb dX5_about_17 (by decide) ?_
    exact zri hf hQ hP hD hS dX5_about_19
  · have hf := zf h_1 hf
    refine lv_aload_n hx hb dX5_about_9 rfl (lv_at hl 0 rfl) ?_
    refine lv_iload_n hx hb dX5_about_10 rfl (lv_at hl 1 rfl) ?_
    obtain ⟨y_2, S_2, hg_2, hf⟩ := obnd_some hf
    refine zci (va_runV (As := [.int x1]) (rest := []) hC (tX5_aboutNow hg_2) (cwV 1 hts gX5_about_X5_aboutNow rfl rfl rfl (by decide +kernel) ⟨Nat.le_of_ble_eq_true rfl, Nat.le_of_ble_eq_true rfl⟩) (zpV hP hK hD hN (rM_0 hK hP)) rfl rfl hl.1 rfl (lv_room (Nat.le_of_ble_eq_true rfl)) dX5_about_11 ⟨Nat.zero_le _, Nat.zero_le _⟩) hS (fun H locs hP hD hS => ?_)
    refine lv_goto (tgt := 19) hx hb dX5_about_14 (by decide) ?_
    exact zri hf hQ hP hD hS dX5_about_19
theorem tX5_about {S : zS} {x1 : Int32} {r : Int32 × zS} (hf : fX5_about S x1 = some r) : zMi l yX5_about wsX5_about rmX5_about D (zT cI cZ) A (wM a cI cZ) [.ref (a 0), .int x1] S r :=
  zMi_of (by decide) rfl rfl (Nat.le_of_ble_eq_true rfl) (fun hC0 hQ hP hD hS _ hl => kX5_about hC0 hQ hf hP hD hS hl)
abbrev rmX5_heldAll : Room := { frames := 0, cells := 0, slots := 0, locals := 0 }
theorem iwX5_heldAll_5 : ∀ w ∈ wsX50, w ∈ wsX5_heldAll := fun _ h => List.mem_cons_of_mem _ (List.mem_append_right _ h)
set_option maxHeartbeats 4000000 in
set_option maxRecDepth 100000 in
theorem kX5_heldAll_30 {r : Int32 × zS} (hC0 : zC p m c cX5_heldAll 3 s args wsX5_heldAll RX5 D cI cZ) (hQ : zRi p l e rmX5_heldAll s m args below meth c cX5_heldAll D A (wM a cI cZ) Q r) {F4 : zS → Int32 → Int32 → Option (Int32 × zS)} (hF4 : ∀ (S : zS) (x1 : Int32) (x2 : Int32), F4 S x1 x2 = some r → ∀ {H : Heap} {locs : List Loc}, va_P D vwCl (wM a cI cZ S) H → va_D A (wM a cI cZ S) → va_S A s.heap H locs → ∀ {ls : Array Slot}, lv_has ls 3 [(0, .ref (a 0)), (1, .int x1), (2, .int x2)] → W p l e rmX5_heldAll s m args below meth c H locs 0 0 Q (F0 m 4 ls [])) {S : zS} {x2 : Int32} {t0 : Int32} {t1 : Int32} (hf : fX5_heldAll_30 F4 S x2 t0 t1 = some r) {H : Heap} {locs : List Loc} (hP : va_P D vwCl (wM a cI cZ S) H) (hD : va_D A (wM a cI cZ S)) (hS : va_S A s.heap H locs) {ls : Array Slot} (hl : lv_has ls 3 [(0, .ref (a 0)), (2, .int x2)]) : W p l e rmX5_heldAll s m args below meth c H locs 0 0 Q (F0 m 30 ls [.int t1, .int t0]) := by
  obtain ⟨hC, hK, hN⟩ := id hC0
  obtain ⟨hx, hb, hml, hown, hts⟩ := id hC
  have iw5 := iwX5_heldAll_5
  unfold fX5_heldAll_30 at hf
  refine lv_iadd hx hb dX5_heldAll_30 ?_
  refine z_istore_n hf hx hb (fun y => [(1, .int y), (0, .ref (a 0)), (2, .int x2)]) dX5_heldAll_31 rfl hl (by decide) (fun _ => rfl) (fun y_1 ls hf hl => ?_)
  refine z_iinc hf hx hb 2 (fun y => [(2, .int y), (1, .int y_1), (0, .ref (a 0))]) dX5_heldAll_32 hl rfl (by decide) (by decide) (fun _ => rfl) (fun y_2 ls hf hl => ?_)
  refine lv_goto (tgt := 4) hx hb dX5_heldAll_35 (by decide) ?_
  exact hF4 _ _ _ hf hP hD hS (lv_sub hl [2, 1, 0] rfl)
set_option maxHeartbeats 4000000 in
set_option maxRecDepth 100000 in
theorem kX5_heldAll_4b {r : Int32 × zS} (hC0 : zC p m c cX5_heldAll 3 s args wsX5_heldAll RX5 D cI cZ) (hQ : zRi p l e rmX5_heldAll s m args below meth c cX5_heldAll D A (wM a cI cZ) Q r) {F4 : zS → Int32 → Int32 → Option (Int32 × zS)} (hF4 : ∀ (S : zS) (x1 : Int32) (x2 : Int32), F4 S x1 x2 = some r → ∀ {H : Heap} {locs : List Loc}, va_P D vwCl (wM a cI cZ S) H → va_D A (wM a cI cZ S) → va_S A s.heap H locs → ∀ {ls : Array Slot}, lv_has ls 3 [(0, .ref (a 0)), (1, .int x1), (2, .int x2)] → W p l e rmX5_heldAll s m args below meth c H locs 0 0 Q (F0 m 4 ls [])) {S : zS} {x1 : Int32} {x2 : Int32} (hf : bX5_heldAll_4 F4 S x1 x2 = some r) {H : Heap} {locs : List Loc} (hP : va_P D vwCl (wM a cI cZ S) H) (hD : va_D A (wM a cI cZ S)) (hS : va_S A s.heap H locs) {ls : Array Slot} (hl : lv_has ls 3 [(0, .ref (a 0)), (1, .int x1), (2, .int x2)]) : W p l e rmX5_heldAll s m args below meth c H locs 0 0 Q (F0 m 4 ls []) := by
  obtain ⟨hC, hK, hN⟩ := id hC0
  obtain ⟨hx, hb, hml, hown, hts⟩ := id hC
  have iw5 := iwX5_heldAll_5
  unfold bX5_heldAll_4 at hf
  refine lv_iload_n hx hb dX5_heldAll_4 rfl (lv_at hl 2 rfl) ?_
  refine lv_bipush (v := (16 : Int32)) hx hb dX5_heldAll_5 (by decide) ?_
  refine lv_icmp_ge (tgt := 38) hx hb dX5_heldAll_7 (by decide) (fun h_1 => ?_) (fun h_1 => ?_)
  · have hf := zt h_1 hf
    refine lv_iload_n hx hb dX5_heldAll_38 rfl (lv_at hl 1 rfl) ?_
    exact zri hf hQ hP hD hS dX5_heldAll_39
  · have hf := zf h_1 hf
    refine lv_iload_n hx hb dX5_heldAll_10 rfl (lv_at hl 1 rfl) ?_
    refine lv_aload_n hx hb dX5_heldAll_11 rfl (lv_at hl 0 rfl) ?_
    refine gM5_isThere hx hb hts iw5 hown hK hP (List.mem_of_getElem? (i := 1) rfl) dX5_heldAll_12 ?_
    refine lv_iload_n hx hb dX5_heldAll_15 rfl (lv_at hl 2 rfl) ?_
    refine lM5_isThere hf hx hb hK hP dX5_heldAll_16 (fun hf => ?_)
    refine lv_if_eq (tgt := 29) hx hb dX5_heldAll_17 (by decide) (fun h_2 => ?_) (fun h_2 => ?_)
    · have hf := zt h_2 hf
      refine lv_iconst (v := (0 : Int32)) hx hb dX5_heldAll_29 (by decide) ?_
      exact kX5_heldAll_30 hC0 hQ hF4 hf hP hD hS (lv_sub hl [0, 2] rfl)
    · have hf := zf h_2 hf
      refine lv_aload_n hx hb dX5_heldAll_20 rfl (lv_at hl 0 rfl) ?_
      refine gM5_heldMany hx hb hts iw5 hown hK hP (List.mem_of_getElem? (i := 2) rfl) dX5_heldAll_21 ?_
      refine lv_iload_n hx hb dX5_heldAll_24 rfl (lv_at hl 2 rfl) ?_
      refine lM5_heldMany hf hx hb hK hP dX5_heldAll_25 (fun hf => ?_)
      refine lv_goto (tgt := 30) hx hb dX5_heldAll_26 (by decide) ?_
      exact kX5_heldAll_30 hC0 hQ hF4 hf hP hD hS (lv_sub hl [0, 2] rfl)
theorem kX5_heldAll_4 {r : Int32 × zS} (hC0 : zC p m c cX5_heldAll 3 s args wsX5_heldAll RX5 D cI cZ) (hQ : zRi p l e rmX5_heldAll s m args below meth c cX5_heldAll D A (wM a cI cZ) Q r) (n : Nat) : ∀ (S : zS) (x1 : Int32) (x2 : Int32), fX5_heldAll_4 n S x1 x2 = some r → ∀ {H : Heap} {locs : List Loc}, va_P D vwCl (wM a cI cZ S) H → va_D A (wM a cI cZ S) → va_S A s.heap H locs → ∀ {ls : Array Slot}, lv_has ls 3 [(0, .ref (a 0)), (1, .int x1), (2, .int x2)] → W p l e rmX5_heldAll s m args below meth c H locs 0 0 Q (F0 m 4 ls []) := by
  induction n with
  | zero => intro S x1 x2 hf; cases hf
  | succ n ih => intro S x1 x2 hf; exact kX5_heldAll_4b hC0 hQ ih hf
set_option maxHeartbeats 4000000 in
set_option maxRecDepth 100000 in
theorem kX5_heldAll {r : Int32 × zS} (hC0 : zC p m c cX5_heldAll 3 s args wsX5_heldAll RX5 D cI cZ) (hQ : zRi p l e rmX5_heldAll s m args below meth c cX5_heldAll D A (wM a cI cZ) Q r) {S : zS} (hf : fX5_heldAll S = some r) {H : Heap} {locs : List Loc} (hP : va_P D vwCl (wM a cI cZ S) H) (hD : va_D A (wM a cI cZ S)) (hS : va_S A s.heap H locs) {ls : Array Slot} (hl : lv_has ls 3 [(0, .ref (a 0))]) : W p l e rmX5_heldAll s m args below meth c H locs 0 0 Q (F0 m 0 ls []) := by
  obtain ⟨hC, hK, hN⟩ := id hC0
  obtain ⟨hx, hb, hml, hown, hts⟩ := id hC
  have iw5 := iwX5_heldAll_5
  unfold fX5_heldAll at hf
  refine lv_iconst (v := (0 : Int32)) hx hb dX5_heldAll_0 (by decide) ?_
  refine z_istore_n hf hx hb (fun y => [(1, .int y), (0, .ref (a 0))]) dX5_heldAll_1 rfl hl (by decide) (fun _ => rfl) (fun y_1 ls hf hl => ?_)
  refine lv_iconst (v := (0 : Int32)) hx hb dX5_heldAll_2 (by decide) ?_
  refine z_istore_n hf hx hb (fun y => [(2, .int y), (1, .int y_1), (0, .ref (a 0))]) dX5_heldAll_3 rfl hl (by decide) (fun _ => rfl) (fun y_2 ls hf hl => ?_)
  exact kX5_heldAll_4 hC0 hQ 64 _ _ _ hf hP hD hS (lv_sub hl [2, 1, 0] rfl)
theorem tX5_heldAll {S : zS} {r : Int32 × zS} (hf : fX5_heldAll S = some r) : zMi l yX5_heldAll wsX5_heldAll rmX5_heldAll D (zT cI cZ) A (wM a cI cZ) [.ref (a 0)] S r :=
  zMi_of (by decide) rfl rfl (Nat.le_of_ble_eq_true rfl) (fun hC0 hQ hP hD hS _ hl => kX5_heldAll hC0 hQ hf hP hD hS hl)
abbrev rmX5_howMany : Room := { frames := 1, cells := 0, slots := 0, locals := 23 }
theorem iwX5_howMany_5 : ∀ w ∈ wsX50, w ∈ wsX5_howMany := fun _ h => List.mem_cons_of_mem _ (List.mem_append_right _ h)
set_option maxHeartbeats 4000000 in
set_option maxRecDepth 100000 in
theorem kX5_howMany {r : Int32 × zS} (hC0 : zC p m c cX5_howMany 2 s args wsX5_howMany RX5 D cI cZ) (hQ : zRi p l e rmX5_howMany s m args below meth c cX5_howMany D A (wM a cI cZ) Q r) {S : zS} {x1 : Int32} (hf : fX5_howMany S x1 = some r) {H : Heap} {locs : List Loc} (hP : va_P D vwCl (wM a cI cZ S) H) (hD : va_D A (wM a cI cZ S)) (hS : va_S A s.heap H locs) {ls : Array Slot} (hl : lv_has ls 2 [(0, .ref (a 0)), (1, .int x1)]) : W p l e rmX5_howMany s m args below meth c H locs 0 0 Q (F0 m 0 ls []) := by
  obtain ⟨hC, hK, hN⟩ := id hC0
  obtain ⟨hx, hb, hml, hown, hts⟩ := id hC
  have iw5 := iwX5_howMany_5
  unfold fX5_howMany at hf
  refine lv_iload_n hx hb dX5_howMany_0 rfl (lv_at hl 1 rfl) ?_
  by_cases h_1 : x1 = (0 : Int32)
  · have hf := zt h_1 hf
    refine lv_tableIn (off := 51) (tgt := 52) hx hb dX5_howMany_1 (by rw [h_1]; decide) (by rw [h_1]; decide) (by rw [h_1]; rfl) (by decide) ?_
    refine lv_aload_n hx hb dX5_howMany_52 rfl (lv_at hl 0 rfl) ?_
    refine lv_iconst (v := (-1 : Int32)) hx hb dX5_howMany_53 (by decide) ?_
    obtain ⟨y_1, S_1, hg_1, hf⟩ := obnd_some hf
    refine zci (va_runV (As := [.int (-1 : Int32)]) (rest := []) hC (tX5_entries hg_1) (cwV 1 hts gX5_howMany_X5_entries rfl rfl rfl (by decide +kernel) ⟨Nat.le_of_ble_eq_true rfl, Nat.le_of_ble_eq_true rfl⟩) (zpV hP hK hD hN (rM_0 hK hP)) rfl rfl hl.1 rfl (lv_room (Nat.le_of_ble_eq_true rfl)) dX5_howMany_54 ⟨Nat.zero_le _, Nat.zero_le _⟩) hS (fun H locs hP hD hS => ?_)
    exact zri hf hQ hP hD hS dX5_howMany_57
  · have hf := zf h_1 hf
    by_cases h_2 : x1 = (1 : Int32)
    · have hf := zt h_2 hf
      refine lv_tableIn (off := 57) (tgt := 58) hx hb dX5_howMany_1 (by rw [h_2]; decide) (by rw [h_2]; decide) (by rw [h_2]; rfl) (by decide) ?_
      refine lv_aload_n hx hb dX5_howMany_58 rfl (lv_at hl 0 rfl) ?_
      obtain ⟨y_2, S_2, hg_2, hf⟩ := obnd_some hf
      refine zci (va_runV (As := []) (rest := []) hC (tX5_routers hg_2) (cwV 0 hts gX5_howMany_X5_routers rfl rfl rfl (by decide +kernel) ⟨Nat.le_of_ble_eq_true rfl, Nat.le_of_ble_eq_true rfl⟩) (zpV hP hK hD hN (rM_0 hK hP)) rfl rfl hl.1 rfl (lv_room (Nat.le_of_ble_eq_true rfl)) dX5_howMany_59 ⟨Nat.zero_le _, Nat.zero_le _⟩) hS (fun H locs hP hD hS => ?_)
      exact zri hf hQ hP hD hS dX5_howMany_62
    · have hf := zf h_2 hf
      by_cases h_3 : x1 = (2 : Int32)
      · have hf := zt h_3 hf
        refine lv_tableIn (off := 62) (tgt := 63) hx hb dX5_howMany_1 (by rw [h_3]; decide) (by rw [h_3]; decide) (by rw [h_3]; rfl) (by decide) ?_
        refine lv_aload_n hx hb dX5_howMany_63 rfl (lv_at hl 0 rfl) ?_
        refine gM5_hops hx hb hts iw5 hown hK hP (List.mem_of_getElem? (i := 1) rfl) dX5_howMany_64 ?_
        exact zri hf hQ hP hD hS dX5_howMany_67
      · have hf := zf h_3 hf
        by_cases h_4 : x1 = (3 : Int32)
        · have hf := zt h_4 hf
          refine lv_tableIn (off := 67) (tgt := 68) hx hb dX5_howMany_1 (by rw [h_4]; decide) (by rw [h_4]; decide) (by rw [h_4]; rfl) (by decide) ?_
          refine lv_aload_n hx hb dX5_howMany_68 rfl (lv_at hl 0 rfl) ?_
          obtain ⟨y_3, S_3, hg_3, hf⟩ := obnd_some hf
          refine zci (va_runV (As := []) (rest := []) hC (tX5_heldAll hg_3) (cwV 0 hts gX5_howMany_X5_heldAll rfl rfl rfl (by decide +kernel) ⟨Nat.le_of_ble_eq_true rfl, Nat.le_of_ble_eq_true rfl⟩) (zpV hP hK hD hN (rM_0 hK hP)) rfl rfl hl.1 rfl (lv_room (Nat.le_of_ble_eq_true rfl)) dX5_howMany_69 ⟨Nat.zero_le _, Nat.zero_le _⟩) hS (fun H locs hP hD hS => ?_)
          exact zri hf hQ hP hD hS dX5_howMany_72
        · have hf := zf h_4 hf
          by_cases h_5 : x1 = (4 : Int32)
          · have hf := zt h_5 hf
            refine lv_tableIn (off := 72) (tgt := 73) hx hb dX5_howMany_1 (by rw [h_5]; decide) (by rw [h_5]; decide) (by rw [h_5]; rfl) (by decide) ?_
            refine lv_aload_n hx hb dX5_howMany_73 rfl (lv_at hl 0 rfl) ?_
            refine gM5_lost hx hb hts iw5 hown hK hP (List.mem_of_getElem? (i := 2) rfl) dX5_howMany_74 ?_
            exact zri hf hQ hP hD hS dX5_howMany_77
          · have hf := zf h_5 hf
            by_cases h_6 : x1 = (5 : Int32)
            · have hf := zt h_6 hf
              refine lv_tableIn (off := 77) (tgt := 78) hx hb dX5_howMany_1 (by rw [h_6]; decide) (by rw [h_6]; decide) (by rw [h_6]; rfl) (by decide) ?_
              refine lv_aload_n hx hb dX5_howMany_78 rfl (lv_at hl 0 rfl) ?_
              refine gM5_went hx hb hts iw5 hown hK hP (List.mem_of_getElem? (i := 3) rfl) dX5_howMany_79 ?_
              exact zri hf hQ hP hD hS dX5_howMany_82
            · have hf := zf h_6 hf
              by_cases h_7 : x1 = (6 : Int32)
              · have hf := zt h_7 hf
                refine lv_tableIn (off := 82) (tgt := 83) hx hb dX5_howMany_1 (by rw [h_7]; decide) (by rw [h_7]; decide) (by rw [h_7]; rfl) (by decide) ?_
                refine lv_aload_n hx hb dX5_howMany_83 rfl (lv_at hl 0 rfl) ?_
                refine gM5_outEver hx hb hts iw5 hown hK hP (List.mem_of_getElem? (i := 4) rfl) dX5_howMany_84 ?_
                exact zri hf hQ hP hD hS dX5_howMany_87
              · have hf := zf h_7 hf
                by_cases h_8 : x1 = (7 : Int32)
                · have hf := zt h_8 hf
                  refine lv_tableIn (off := 87) (tgt := 88) hx hb dX5_howMany_1 (by rw [h_8]; decide) (by rw [h_8]; decide) (by rw [h_8]; rfl) (by decide) ?_
                  refine lv_aload_n hx hb dX5_howMany_88 rfl (lv_at hl 0 rfl) ?_
                  refine gM5_gone hx hb hts iw5 hown hK hP (List.mem_of_getElem? (i := 5) rfl) dX5_howMany_89 ?_
                  exact zri hf hQ hP hD hS dX5_howMany_92
                · have hf := zf h_8 hf
                  by_cases h_9 : x1 = (8 : Int32)
                  · have hf := zt h_9 hf
                    refine lv_tableIn (off := 92) (tgt := 93) hx hb dX5_howMany_1 (by rw [h_9]; decide) (by rw [h_9]; decide) (by rw [h_9]; rfl) (by decide) ?_
                    refine lv_aload_n hx hb dX5_howMany_93 rfl (lv_at hl 0 rfl) ?_
                    refine lv_iconst (v := (1 : Int32)) hx hb dX5_howMany_94 (by decide) ?_
                    obtain ⟨y_4, S_4, hg_4, hf⟩ := obnd_some hf
                    refine zci (va_runV (As := [.int (1 : Int32)]) (rest := []) hC (tX5_entries hg_4) (cwV 1 hts gX5_howMany_X5_entries rfl rfl rfl (by decide +kernel) ⟨Nat.le_of_ble_eq_true rfl, Nat.le_of_ble_eq_true rfl⟩) (zpV hP hK hD hN (rM_0 hK hP)) rfl rfl hl.1 rfl (lv_room (Nat.le_of_ble_eq_true rfl)) dX5_howMany_95 ⟨Nat.zero_le _, Nat.zero_le _⟩) hS (fun H locs hP hD hS => ?_)
                    exact zri hf hQ hP hD hS dX5_howMany_98
                  · have hf := zf h_9 hf
                    refine lv_tableOut (tgt := 99) hx hb dX5_howMany_1 (by have := zne h_1 (n := 0) (by decide); have := zne h_2 (n := 1) (by decide); have := zne h_3 (n := 2) (by decide); have := zne h_4 (n := 3) (by decide); have := zne h_5 (n := 4) (by decide); have := zne h_6 (n := 5) (by decide); have := zne h_7 (n := 6) (by decide); have := zne h_8 (n := 7) (by decide); have := zne h_9 (n := 8) (by decide); omega) (by decide) ?_
                    refine lv_bipush (v := (-102 : Int32)) hx hb dX5_howMany_99 (by decide) ?_
                    exact zri hf hQ hP hD hS dX5_howMany_101
theorem tX5_howMany {S : zS} {x1 : Int32} {r : Int32 × zS} (hf : fX5_howMany S x1 = some r) : zMi l yX5_howMany wsX5_howMany rmX5_howMany D (zT cI cZ) A (wM a cI cZ) [.ref (a 0), .int x1] S r :=
  zMi_of (by decide) rfl rfl (Nat.le_of_ble_eq_true rfl) (fun hC0 hQ hP hD hS _ hl => kX5_howMany hC0 hQ hf hP hD hS hl)
abbrev rmX5_count : Room := { frames := 2, cells := 0, slots := 0, locals := 44 }
theorem iwX5_count_5 : ∀ w ∈ wsX50, w ∈ wsX5_count := fun _ h => List.mem_cons_of_mem _ (List.mem_append_right _ h)
set_option maxHeartbeats 4000000 in
set_option maxRecDepth 100000 in
theorem kX5_count {r : Int32 × zS} (hC0 : zC p m c cX5_count 2 s args wsX5_count RX5 D cI cZ) (hQ : zRi p l e rmX5_count s m args below meth c cX5_count D A (wM a cI cZ) Q r) {S : zS} {x1 : Int32} (hf : fX5_count S x1 = some r) {H : Heap} {locs : List Loc} (hP : va_P D vwCl (wM a cI cZ S) H) (hD : va_D A (wM a cI cZ S)) (hS : va_S A s.heap H locs) {ls : Array Slot} (hl : lv_has ls 2 [(0, .ref (a 0)), (1, .int x1)]) : W p l e rmX5_count s m args below meth c H locs 0 0 Q (F0 m 0 ls []) := by
  obtain ⟨hC, hK, hN⟩ := id hC0
  obtain ⟨hx, hb, hml, hown, hts⟩ := id hC
  have iw5 := iwX5_count_5
  unfold fX5_count at hf
  refine lv_aload_n hx hb dX5_count_0 rfl (lv_at hl 0 rfl) ?_
  refine lv_iload_n hx hb dX5_count_1 rfl (lv_at hl 1 rfl) ?_
  obtain ⟨y_1, S_1, hg_1, hf⟩ := obnd_some hf
  refine zci (va_runV (As := [.int x1]) (rest := []) hC (tX5_howMany hg_1) (cwV 1 hts gX5_count_X5_howMany rfl rfl rfl (by decide +kernel) ⟨Nat.le_of_ble_eq_true rfl, Nat.le_of_ble_eq_true rfl⟩) (zpV hP hK hD hN (rM_0 hK hP)) rfl rfl hl.1 rfl (lv_room (Nat.le_of_ble_eq_true rfl)) dX5_count_2 ⟨Nat.zero_le _, Nat.zero_le _⟩) hS (fun H locs hP hD hS => ?_)
  exact zri hf hQ hP hD hS dX5_count_5
theorem tX5_count {S : zS} {x1 : Int32} {r : Int32 × zS} (hf : fX5_count S x1 = some r) : zMi l yX5_count wsX5_count rmX5_count D (zT cI cZ) A (wM a cI cZ) [.ref (a 0), .int x1] S r :=
  zMi_of (by decide) rfl rfl (Nat.le_of_ble_eq_true rfl) (fun hC0 hQ hP hD hS _ hl => kX5_count hC0 hQ hf hP hD hS hl)
abbrev rmX5_mix : Room := { frames := 0, cells := 0, slots := 0, locals := 0 }
theorem iwX5_mix_5 : ∀ w ∈ wsX50, w ∈ wsX5_mix := fun _ h => List.mem_cons_of_mem _ (List.mem_append_right _ h)
set_option maxHeartbeats 4000000 in
set_option maxRecDepth 100000 in
theorem kX5_mix {r : zS} (hC0 : zC p m c cX5_mix 3 s args wsX5_mix RX5 D cI cZ) (hQ : zRv p l e rmX5_mix s m args below meth c cX5_mix D A (wM a cI cZ) Q r) {S : zS} {x1 : Int64} (hf : fX5_mix S x1 = some r) {H : Heap} {locs : List Loc} (hP : va_P D vwCl (wM a cI cZ S) H) (hD : va_D A (wM a cI cZ S)) (hS : va_S A s.heap H locs) {ls : Array Slot} (hl : lv_has ls 3 [(0, .ref (a 0)), (1, .long x1)]) : W p l e rmX5_mix s m args below meth c H locs 0 0 Q (F0 m 0 ls []) := by
  obtain ⟨hC, hK, hN⟩ := id hC0
  obtain ⟨hx, hb, hml, hown, hts⟩ := id hC
  have iw5 := iwX5_mix_5
  unfold fX5_mix at hf
  refine lv_aload_n hx hb dX5_mix_0 rfl (lv_at hl 0 rfl) ?_
  refine lv_ldc2 (v := (31)) hx hb hown (hts (.constantLong RX5 239 (31)) (List.mem_of_getElem? (i := 1) rfl)) dX5_mix_1 ?_
  refine lv_aload_n hx hb dX5_mix_4 rfl (lv_at hl 0 rfl) ?_
  refine gM5_h hx hb hts iw5 hown hK hP (List.mem_of_getElem? (i := 2) rfl) dX5_mix_5 ?_
  refine lv_lmul hx hb dX5_mix_8 ?_
  refine lv_lload_n hx hb dX5_mix_9 rfl (lv_at hl 1 rfl) ?_
  refine lv_ladd hx hb dX5_mix_10 ?_
  refine pM5_h hf hx hb hts iw5 hown hK hP hD hS (List.mem_of_getElem? (i := 2) rfl) dX5_mix_11 (fun S_1 H locs hf hP hD hS => ?_)
  exact zrv hf hQ hP hD hS dX5_mix_14
theorem tX5_mix {S : zS} {x1 : Int64} {r : zS} (hf : fX5_mix S x1 = some r) : zMv l yX5_mix wsX5_mix rmX5_mix D (zT cI cZ) A (wM a cI cZ) [.ref (a 0), .long x1] S r :=
  zMv_of (by decide) rfl rfl (Nat.le_of_ble_eq_true rfl) (fun hC0 hQ hP hD hS _ hl => kX5_mix hC0 hQ hf hP hD hS hl)
abbrev rmX5_mixEntry : Room := { frames := 2, cells := 0, slots := 0, locals := 43 }
theorem iwX5_mixEntry_5 : ∀ w ∈ wsX50, w ∈ wsX5_mixEntry := fun _ h => List.mem_cons_of_mem _ (List.mem_append_right _ h)
set_option maxHeartbeats 4000000 in
set_option maxRecDepth 100000 in
theorem kX5_mixEntry_44b {r : zS} (hC0 : zC p m c cX5_mixEntry 3 s args wsX5_mixEntry RX5 D cI cZ) (hQ : zRv p l e rmX5_mixEntry s m args below meth c cX5_mixEntry D A (wM a cI cZ) Q r) {F44 : zS → Int32 → Int32 → Option (zS)} (hF44 : ∀ (S : zS) (x1 : Int32) (x2 : Int32), F44 S x1 x2 = some r → ∀ {H : Heap} {locs : List Loc}, va_P D vwCl (wM a cI cZ S) H → va_D A (wM a cI cZ S) → va_S A s.heap H locs → ∀ {ls : Array Slot}, lv_has ls 3 [(0, .ref (a 0)), (1, .int x1), (2, .int x2)] → W p l e rmX5_mixEntry s m args below meth c H locs 0 0 Q (F0 m 44 ls [])) {S : zS} {x1 : Int32} {x2 : Int32} (hf : bX5_mixEntry_44 F44 S x1 x2 = some r) {H : Heap} {locs : List Loc} (hP : va_P D vwCl (wM a cI cZ S) H) (hD : va_D A (wM a cI cZ S)) (hS : va_S A s.heap H locs) {ls : Array Slot} (hl : lv_has ls 3 [(0, .ref (a 0)), (1, .int x1), (2, .int x2)]) : W p l e rmX5_mixEntry s m args below meth c H locs 0 0 Q (F0 m 44 ls []) := by
  obtain ⟨hC, hK, hN⟩ := id hC0
  obtain ⟨hx, hb, hml, hown, hts⟩ := id hC
  have iw5 := iwX5_mixEntry_5
  unfold bX5_mixEntry_44 at hf
  refine lv_iload_n hx hb dX5_mixEntry_44 rfl (lv_at hl 2 rfl) ?_
  refine lv_aload_n hx hb dX5_mixEntry_45 rfl (lv_at hl 0 rfl) ?_
  refine gM5_heldMany hx hb hts iw5 hown hK hP (List.mem_of_getElem? (i := 3) rfl) dX5_mixEntry_46 ?_
  refine lv_iload_n hx hb dX5_mixEntry_49 rfl (lv_at hl 1 rfl) ?_
  refine lM5_heldMany hf hx hb hK hP dX5_mixEntry_50 (fun hf => ?_)
  refine lv_icmp_ge (tgt := 75) hx hb dX5_mixEntry_51 (by decide) (fun h_1 => ?_) (fun h_1 => ?_)
  · have hf := zt h_1 hf
    exact zrv hf hQ hP hD hS dX5_mixEntry_75
  · have hf := zf h_1 hf
    refine lv_aload_n hx hb dX5_mixEntry_54 rfl (lv_at hl 0 rfl) ?_
    refine lv_aload_n hx hb dX5_mixEntry_55 rfl (lv_at hl 0 rfl) ?_
    refine gM5_heldAt hx hb hts iw5 hown hK hP (List.mem_of_getElem? (i := 4) rfl) dX5_mixEntry_56 ?_
    refine lv_iconst (v := (3 : Int32)) hx hb dX5_mixEntry_59 (by decide) ?_
    refine lv_iload_n hx hb dX5_mixEntry_60 rfl (lv_at hl 1 rfl) ?_
    refine lv_imul hx hb dX5_mixEntry_61 ?_
    refine lv_iload_n hx hb dX5_mixEntry_62 rfl (lv_at hl 2 rfl) ?_
    refine lv_iadd hx hb dX5_mixEntry_63 ?_
    refine lM5_heldAt hf hx hb hK hP dX5_mixEntry_64 (fun hf => ?_)
    refine lv_i2l hx hb dX5_mixEntry_65 rfl ?_
    obtain ⟨S_1, hg_1, hf⟩ := obnv_some hf
    refine zcv (va_runV (As := [.long ((S.2.1 7 ((((3 : Int32) * x1) + x2)).toNatClampNeg)).toInt64]) (rest := []) hC (tX5_mix hg_1) (cwV 1 hts gX5_mixEntry_X5_mix rfl rfl rfl (by decide +kernel) ⟨Nat.le_of_ble_eq_true rfl, Nat.le_of_ble_eq_true rfl⟩) (zpV hP hK hD hN (rM_0 hK hP)) rfl rfl hl.1 rfl (lv_room (Nat.le_of_ble_eq_true rfl)) dX5_mixEntry_66 ⟨Nat.zero_le _, Nat.zero_le _⟩) hS (fun H locs hP hD hS => ?_)
    refine z_iinc hf hx hb 2 (fun y => [(2, .int y), (0, .ref (a 0)), (1, .int x1)]) dX5_mixEntry_69 hl rfl (by decide) (by decide) (fun _ => rfl) (fun y_1 ls hf hl => ?_)
    refine lv_goto (tgt := 44) hx hb dX5_mixEntry_72 (by decide) ?_
    exact hF44 _ _ _ hf hP hD hS (lv_sub hl [1, 2, 0] rfl)
theorem kX5_mixEntry_44 {r : zS} (hC0 : zC p m c cX5_mixEntry 3 s args wsX5_mixEntry RX5 D cI cZ) (hQ : zRv p l e rmX5_mixEntry s m args below meth c cX5_mixEntry D A (wM a cI cZ) Q r) (n : Nat) : ∀ (S : zS) (x1 : Int32) (x2 : Int32), fX5_mixEntry_44 n S x1 x2 = some r → ∀ {H : Heap} {locs : List Loc}, va_P D vwCl (wM a cI cZ S) H → va_D A (wM a cI cZ S) → va_S A s.heap H locs → ∀ {ls : Array Slot}, lv_has ls 3 [(0, .ref (a 0)), (1, .int x1), (2, .int x2)] → W p l e rmX5_mixEntry s m args below meth c H locs 0 0 Q (F0 m 44 ls []) := by
  induction n with
  | zero => intro S x1 x2 hf; cases hf
  | succ n ih => intro S x1 x2 hf; exact kX5_mixEntry_44b hC0 hQ ih hf
set_option maxHeartbeats 4000000 in
set_option maxRecDepth 100000 in
theorem kX5_mixEntry_19b {r : zS} (hC0 : zC p m c cX5_mixEntry 3 s args wsX5_mixEntry RX5 D cI cZ) (hQ : zRv p l e rmX5_mixEntry s m args below meth c cX5_mixEntry D A (wM a cI cZ) Q r) {F19 : zS → Int32 → Int32 → Option (zS)} (hF19 : ∀ (S : zS) (x1 : Int32) (x2 : Int32), F19 S x1 x2 = some r → ∀ {H : Heap} {locs : List Loc}, va_P D vwCl (wM a cI cZ S) H → va_D A (wM a cI cZ S) → va_S A s.heap H locs → ∀ {ls : Array Slot}, lv_has ls 3 [(0, .ref (a 0)), (1, .int x1), (2, .int x2)] → W p l e rmX5_mixEntry s m args below meth c H locs 0 0 Q (F0 m 19 ls [])) {S : zS} {x1 : Int32} {x2 : Int32} (hf : bX5_mixEntry_19 F19 S x1 x2 = some r) {H : Heap} {locs : List Loc} (hP : va_P D vwCl (wM a cI cZ S) H) (hD : va_D A (wM a cI cZ S)) (hS : va_S A s.heap H locs) {ls : Array Slot} (hl : lv_has ls 3 [(0, .ref (a 0)), (1, .int x1), (2, .int x2)]) : W p l e rmX5_mixEntry s m args below meth c H locs 0 0 Q (F0 m 19 ls []) := by
  obtain ⟨hC, hK, hN⟩ := id hC0
  obtain ⟨hx, hb, hml, hown, hts⟩ := id hC
  have iw5 := iwX5_mixEntry_5
  unfold bX5_mixEntry_19 at hf
  refine lv_iload_n hx hb dX5_mixEntry_19 rfl (lv_at hl 2 rfl) ?_
  refine lv_bipush (v := (8 : Int32)) hx hb dX5_mixEntry_20 (by decide) ?_
  refine lv_icmp_ge (tgt := 42) hx hb dX5_mixEntry_22 (by decide) (fun h_1 => ?_) (fun h_1 => ?_)
  · have hf := zt h_1 hf
    refine lv_iconst (v := (0 : Int32)) hx hb dX5_mixEntry_42 (by decide) ?_
    refine z_istore_n hf hx hb (fun y => [(2, .int y), (0, .ref (a 0)), (1, .int x1)]) dX5_mixEntry_43 rfl hl (by decide) (fun _ => rfl) (fun y_1 ls hf hl => ?_)
    exact kX5_mixEntry_44 hC0 hQ 64 _ _ _ hf hP hD hS (lv_sub hl [1, 2, 0] rfl)
  · have hf := zf h_1 hf
    refine lv_aload_n hx hb dX5_mixEntry_25 rfl (lv_at hl 0 rfl) ?_
    refine lv_aload_n hx hb dX5_mixEntry_26 rfl (lv_at hl 0 rfl) ?_
    refine lv_iload_n hx hb dX5_mixEntry_27 rfl (lv_at hl 1 rfl) ?_
    refine lv_iload_n hx hb dX5_mixEntry_28 rfl (lv_at hl 2 rfl) ?_
    obtain ⟨y_2, S_1, hg_1, hf⟩ := obnd_some hf
    refine zci (va_runV (As := [.int x1, .int x2]) (rest := [.ref (a 0)]) hC (tX5_entryNow hg_1) (cwV 2 hts gX5_mixEntry_X5_entryNow rfl rfl rfl (by decide +kernel) ⟨Nat.le_of_ble_eq_true rfl, Nat.le_of_ble_eq_true rfl⟩) (zpV hP hK hD hN (rM_0 hK hP)) rfl rfl hl.1 rfl (lv_room (Nat.le_of_ble_eq_true rfl)) dX5_mixEntry_29 ⟨Nat.zero_le _, Nat.zero_le _⟩) hS (fun H locs hP hD hS => ?_)
    refine lv_i2l hx hb dX5_mixEntry_32 rfl ?_
    obtain ⟨S_2, hg_2, hf⟩ := obnv_some hf
    refine zcv (va_runV (As := [.long (y_2).toInt64]) (rest := []) hC (tX5_mix hg_2) (cwV 1 hts gX5_mixEntry_X5_mix rfl rfl rfl (by decide +kernel) ⟨Nat.le_of_ble_eq_true rfl, Nat.le_of_ble_eq_true rfl⟩) (zpV hP hK hD hN (rM_0 hK hP)) rfl rfl hl.1 rfl (lv_room (Nat.le_of_ble_eq_true rfl)) dX5_mixEntry_33 ⟨Nat.zero_le _, Nat.zero_le _⟩) hS (fun H locs hP hD hS => ?_)
    refine z_iinc hf hx hb 2 (fun y => [(2, .int y), (0, .ref (a 0)), (1, .int x1)]) dX5_mixEntry_36 hl rfl (by decide) (by decide) (fun _ => rfl) (fun y_3 ls hf hl => ?_)
    refine lv_goto (tgt := 19) hx hb dX5_mixEntry_39 (by decide) ?_
    exact hF19 _ _ _ hf hP hD hS (lv_sub hl [1, 2, 0] rfl)
theorem kX5_mixEntry_19 {r : zS} (hC0 : zC p m c cX5_mixEntry 3 s args wsX5_mixEntry RX5 D cI cZ) (hQ : zRv p l e rmX5_mixEntry s m args below meth c cX5_mixEntry D A (wM a cI cZ) Q r) (n : Nat) : ∀ (S : zS) (x1 : Int32) (x2 : Int32), fX5_mixEntry_19 n S x1 x2 = some r → ∀ {H : Heap} {locs : List Loc}, va_P D vwCl (wM a cI cZ S) H → va_D A (wM a cI cZ S) → va_S A s.heap H locs → ∀ {ls : Array Slot}, lv_has ls 3 [(0, .ref (a 0)), (1, .int x1), (2, .int x2)] → W p l e rmX5_mixEntry s m args below meth c H locs 0 0 Q (F0 m 19 ls []) := by
  induction n with
  | zero => intro S x1 x2 hf; cases hf
  | succ n ih => intro S x1 x2 hf; exact kX5_mixEntry_19b hC0 hQ ih hf
set_option maxHeartbeats 4000000 in
set_option maxRecDepth 100000 in
theorem kX5_mixEntry {r : zS} (hC0 : zC p m c cX5_mixEntry 3 s args wsX5_mixEntry RX5 D cI cZ) (hQ : zRv p l e rmX5_mixEntry s m args below meth c cX5_mixEntry D A (wM a cI cZ) Q r) {S : zS} {x1 : Int32} (hf : fX5_mixEntry S x1 = some r) {H : Heap} {locs : List Loc} (hP : va_P D vwCl (wM a cI cZ S) H) (hD : va_D A (wM a cI cZ S)) (hS : va_S A s.heap H locs) {ls : Array Slot} (hl : lv_has ls 3 [(0, .ref (a 0)), (1, .int x1)]) : W p l e rmX5_mixEntry s m args below meth c H locs 0 0 Q (F0 m 0 ls []) := by
  obtain ⟨hC, hK, hN⟩ := id hC0
  obtain ⟨hx, hb, hml, hown, hts⟩ := id hC
  have iw5 := iwX5_mixEntry_5
  unfold fX5_mixEntry at hf
  refine lv_aload_n hx hb dX5_mixEntry_0 rfl (lv_at hl 0 rfl) ?_
  refine gM5_isThere hx hb hts iw5 hown hK hP (List.mem_of_getElem? (i := 1) rfl) dX5_mixEntry_1 ?_
  refine lv_iload_n hx hb dX5_mixEntry_4 rfl (lv_at hl 1 rfl) ?_
  refine lM5_isThere hf hx hb hK hP dX5_mixEntry_5 (fun hf => ?_)
  refine lv_if_ne (tgt := 17) hx hb dX5_mixEntry_6 (by decide) (fun h_1 => ?_) (fun h_1 => ?_)
  · have hf := zf h_1 hf
    refine lv_iconst (v := (0 : Int32)) hx hb dX5_mixEntry_17 (by decide) ?_
    refine z_istore_n hf hx hb (fun y => [(2, .int y), (0, .ref (a 0)), (1, .int x1)]) dX5_mixEntry_18 rfl hl (by decide) (fun _ => rfl) (fun y_1 ls hf hl => ?_)
    exact kX5_mixEntry_19 hC0 hQ 64 _ _ _ hf hP hD hS (lv_sub hl [1, 2, 0] rfl)
  · have hf := zt h_1 hf
    refine lv_aload_n hx hb dX5_mixEntry_9 rfl (lv_at hl 0 rfl) ?_
    refine lv_ldc2 (v := (-1)) hx hb hown (hts (.constantLong RX5 245 (-1)) (List.mem_of_getElem? (i := 2) rfl)) dX5_mixEntry_10 ?_
    obtain ⟨S_1, hg_1, hf⟩ := obnv_some hf
    refine zcv (va_runV (As := [.long (-1 : Int64)]) (rest := []) hC (tX5_mix hg_1) (cwV 1 hts gX5_mixEntry_X5_mix rfl rfl rfl (by decide +kernel) ⟨Nat.le_of_ble_eq_true rfl, Nat.le_of_ble_eq_true rfl⟩) (zpV hP hK hD hN (rM_0 hK hP)) rfl rfl hl.1 rfl (lv_room (Nat.le_of_ble_eq_true rfl)) dX5_mixEntry_13 ⟨Nat.zero_le _, Nat.zero_le _⟩) hS (fun H locs hP hD hS => ?_)
    exact zrv hf hQ hP hD hS dX5_mixEntry_16
theorem tX5_mixEntry {S : zS} {x1 : Int32} {r : zS} (hf : fX5_mixEntry S x1 = some r) : zMv l yX5_mixEntry wsX5_mixEntry rmX5_mixEntry D (zT cI cZ) A (wM a cI cZ) [.ref (a 0), .int x1] S r :=
  zMv_of (by decide) rfl rfl (Nat.le_of_ble_eq_true rfl) (fun hC0 hQ hP hD hS _ hl => kX5_mixEntry hC0 hQ hf hP hD hS hl)
abbrev rmX5_mixRouters : Room := { frames := 4, cells := 0, slots := 0, locals := 88 }
theorem iwX5_mixRouters_5 : ∀ w ∈ wsX50, w ∈ wsX5_mixRouters := fun _ h => List.mem_cons_of_mem _ (List.mem_append_right _ h)
set_option maxHeartbeats 4000000 in
set_option maxRecDepth 100000 in
theorem kX5_mixRouters_7b {r : zS} (hC0 : zC p m c cX5_mixRouters 3 s args wsX5_mixRouters RX5 D cI cZ) (hQ : zRv p l e rmX5_mixRouters s m args below meth c cX5_mixRouters D A (wM a cI cZ) Q r) {F7 : zS → Int32 → Int32 → Option (zS)} (hF7 : ∀ (S : zS) (x1 : Int32) (x2 : Int32), F7 S x1 x2 = some r → ∀ {H : Heap} {locs : List Loc}, va_P D vwCl (wM a cI cZ S) H → va_D A (wM a cI cZ S) → va_S A s.heap H locs → ∀ {ls : Array Slot}, lv_has ls 3 [(0, .ref (a 0)), (1, .int x1), (2, .int x2)] → W p l e rmX5_mixRouters s m args below meth c H locs 0 0 Q (F0 m 7 ls [])) {S : zS} {x1 : Int32} {x2 : Int32} (hf : bX5_mixRouters_7 F7 S x1 x2 = some r) {H : Heap} {locs : List Loc} (hP : va_P D vwCl (wM a cI cZ S) H) (hD : va_D A (wM a cI cZ S)) (hS : va_S A s.heap H locs) {ls : Array Slot} (hl : lv_has ls 3 [(0, .ref (a 0)), (1, .int x1), (2, .int x2)]) : W p l e rmX5_mixRouters s m args below meth c H locs 0 0 Q (F0 m 7 ls []) := by
  obtain ⟨hC, hK, hN⟩ := id hC0
  obtain ⟨hx, hb, hml, hown, hts⟩ := id hC
  have iw5 := iwX5_mixRouters_5
  unfold bX5_mixRouters_7 at hf
  refine lv_iload_n hx hb dX5_mixRouters_7 rfl (lv_at hl 2 rfl) ?_
  refine lv_iconst (v := (4 : Int32)) hx hb dX5_mixRouters_8 (by decide) ?_
  refine lv_iload_n hx hb dX5_mixRouters_9 rfl (lv_at hl 1 rfl) ?_
  refine lv_imul hx hb dX5_mixRouters_10 ?_
  refine lv_icmp_ge (tgt := 39) hx hb dX5_mixRouters_11 (by decide) (fun h_1 => ?_) (fun h_1 => ?_)
  · have hf := zt h_1 hf
    exact zrv hf hQ hP hD hS dX5_mixRouters_39
  · have hf := zf h_1 hf
    refine lv_aload_n hx hb dX5_mixRouters_14 rfl (lv_at hl 0 rfl) ?_
    refine lv_aload_n hx hb dX5_mixRouters_15 rfl (lv_at hl 0 rfl) ?_
    refine lv_aload_n hx hb dX5_mixRouters_16 rfl (lv_at hl 0 rfl) ?_
    refine lv_iload_n hx hb dX5_mixRouters_17 rfl (lv_at hl 2 rfl) ?_
    refine lv_iconst (v := (4 : Int32)) hx hb dX5_mixRouters_18 (by decide) ?_
    obtain ⟨hz_1, hf⟩ := znz_some hf
    refine lv_idiv hx hb dX5_mixRouters_19 hz_1 ?_
    obtain ⟨y_1, S_1, hg_1, hf⟩ := obnd_some hf
    refine zci (va_runV (As := [.int (x2 / (4 : Int32))]) (rest := [.ref (a 0), .ref (a 0)]) hC (tX5_routerAt hg_1) (cwV 1 hts gX5_mixRouters_X5_routerAt rfl rfl rfl (by decide +kernel) ⟨Nat.le_of_ble_eq_true rfl, Nat.le_of_ble_eq_true rfl⟩) (zpV hP hK hD hN (rM_0 hK hP)) rfl rfl hl.1 rfl (lv_room (Nat.le_of_ble_eq_true rfl)) dX5_mixRouters_20 ⟨Nat.zero_le _, Nat.zero_le _⟩) hS (fun H locs hP hD hS => ?_)
    refine lv_iload_n hx hb dX5_mixRouters_23 rfl (lv_at hl 2 rfl) ?_
    refine lv_iconst (v := (4 : Int32)) hx hb dX5_mixRouters_24 (by decide) ?_
    obtain ⟨hz_2, hf⟩ := znz_some hf
    refine lv_irem hx hb dX5_mixRouters_25 hz_2 ?_
    obtain ⟨y_2, S_2, hg_2, hf⟩ := obnd_some hf
    refine zci (va_runV (As := [.int y_1, .int (x2 - x2 / (4 : Int32) * (4 : Int32))]) (rest := [.ref (a 0)]) hC (tX5_routerNow hg_2) (cwV 2 hts gX5_mixRouters_X5_routerNow rfl rfl rfl (by decide +kernel) ⟨Nat.le_of_ble_eq_true rfl, Nat.le_of_ble_eq_true rfl⟩) (zpV hP hK hD hN (rM_0 hK hP)) rfl rfl hl.1 rfl (lv_room (Nat.le_of_ble_eq_true rfl)) dX5_mixRouters_26 ⟨Nat.zero_le _, Nat.zero_le _⟩) hS (fun H locs hP hD hS => ?_)
    refine lv_i2l hx hb dX5_mixRouters_29 rfl ?_
    obtain ⟨S_3, hg_3, hf⟩ := obnv_some hf
    refine zcv (va_runV (As := [.long (y_2).toInt64]) (rest := []) hC (tX5_mix hg_3) (cwV 1 hts gX5_mixRouters_X5_mix rfl rfl rfl (by decide +kernel) ⟨Nat.le_of_ble_eq_true rfl, Nat.le_of_ble_eq_true rfl⟩) (zpV hP hK hD hN (rM_0 hK hP)) rfl rfl hl.1 rfl (lv_room (Nat.le_of_ble_eq_true rfl)) dX5_mixRouters_30 ⟨Nat.zero_le _, Nat.zero_le _⟩) hS (fun H locs hP hD hS => ?_)
    refine z_iinc hf hx hb 2 (fun y => [(2, .int y), (0, .ref (a 0)), (1, .int x1)]) dX5_mixRouters_33 hl rfl (by decide) (by decide) (fun _ => rfl) (fun y_3 ls hf hl => ?_)
    refine lv_goto (tgt := 7) hx hb dX5_mixRouters_36 (by decide) ?_
    exact hF7 _ _ _ hf hP hD hS (lv_sub hl [1, 2, 0] rfl)
theorem kX5_mixRouters_7 {r : zS} (hC0 : zC p m c cX5_mixRouters 3 s args wsX5_mixRouters RX5 D cI cZ) (hQ : zRv p l e rmX5_mixRouters s m args below meth c cX5_mixRouters D A (wM a cI cZ) Q r) (n : Nat) : ∀ (S : zS) (x1 : Int32) (x2 : Int32), fX5_mixRouters_7 n S x1 x2 = some r → ∀ {H : Heap} {locs : List Loc}, va_P D vwCl (wM a cI cZ S) H → va_D A (wM a cI cZ S) → va_S A s.heap H locs → ∀ {ls : Array Slot}, lv_has ls 3 [(0, .ref (a 0)), (1, .int x1), (2, .int x2)] → W p l e rmX5_mixRouters s m args below meth c H locs 0 0 Q (F0 m 7 ls []) := by
  induction n with
  | zero => intro S x1 x2 hf; cases hf
  | succ n ih => intro S x1 x2 hf; exact kX5_mixRouters_7b hC0 hQ ih hf
set_option maxHeartbeats 4000000 in
set_option maxRecDepth 100000 in
theorem kX5_mixRouters {r : zS} (hC0 : zC p m c cX5_mixRouters 3 s args wsX5_mixRouters RX5 D cI cZ) (hQ : zRv p l e rmX5_mixRouters s m args below meth c cX5_mixRouters D A (wM a cI cZ) Q r) {S : zS} (hf : fX5_mixRouters S = some r) {H : Heap} {locs : List Loc} (hP : va_P D vwCl (wM a cI cZ S) H) (hD : va_D A (wM a cI cZ S)) (hS : va_S A s.heap H locs) {ls : Array Slot} (hl : lv_has ls 3 [(0, .ref (a 0))]) : W p l e rmX5_mixRouters s m args below meth c H locs 0 0 Q (F0 m 0 ls []) := by
  obtain ⟨hC, hK, hN⟩ := id hC0
  obtain ⟨hx, hb, hml, hown, hts⟩ := id hC
  have iw5 := iwX5_mixRouters_5
  unfold fX5_mixRouters at hf
  refine lv_aload_n hx hb dX5_mixRouters_0 rfl (lv_at hl 0 rfl) ?_
  obtain ⟨y_1, S_1, hg_1, hf⟩ := obnd_some hf
  refine zci (va_runV (As := []) (rest := []) hC (tX5_routers hg_1) (cwV 0 hts gX5_mixRouters_X5_routers rfl rfl rfl (by decide +kernel) ⟨Nat.le_of_ble_eq_true rfl, Nat.le_of_ble_eq_true rfl⟩) (zpV hP hK hD hN (rM_0 hK hP)) rfl rfl hl.1 rfl (lv_room (Nat.le_of_ble_eq_true rfl)) dX5_mixRouters_1 ⟨Nat.zero_le _, Nat.zero_le _⟩) hS (fun H locs hP hD hS => ?_)
  refine z_istore_n hf hx hb (fun y => [(1, .int y), (0, .ref (a 0))]) dX5_mixRouters_4 rfl hl (by decide) (fun _ => rfl) (fun y_2 ls hf hl => ?_)
  refine lv_iconst (v := (0 : Int32)) hx hb dX5_mixRouters_5 (by decide) ?_
  refine z_istore_n hf hx hb (fun y => [(2, .int y), (1, .int y_2), (0, .ref (a 0))]) dX5_mixRouters_6 rfl hl (by decide) (fun _ => rfl) (fun y_3 ls hf hl => ?_)
  exact kX5_mixRouters_7 hC0 hQ 64 _ _ _ hf hP hD hS (lv_sub hl [2, 1, 0] rfl)
theorem tX5_mixRouters {S : zS} {r : zS} (hf : fX5_mixRouters S = some r) : zMv l yX5_mixRouters wsX5_mixRouters rmX5_mixRouters D (zT cI cZ) A (wM a cI cZ) [.ref (a 0)] S r :=
  zMv_of (by decide) rfl rfl (Nat.le_of_ble_eq_true rfl) (fun hC0 hQ hP hD hS _ hl => kX5_mixRouters hC0 hQ hf hP hD hS hl)
abbrev rmX5_digest : Room := { frames := 6, cells := 0, slots := 0, locals := 131 }
theorem iwX5_digest_5 : ∀ w ∈ wsX50, w ∈ wsX5_digest := fun _ h => List.mem_cons_of_mem _ (List.mem_append_right _ h)
set_option maxHeartbeats 4000000 in
set_option maxRecDepth 100000 in
theorem kX5_digest_110b {r : Int64 × zS} (hC0 : zC p m c cX5_digest 2 s args wsX5_digest RX5 D cI cZ) (hQ : zRl p l e rmX5_digest s m args below meth c cX5_digest D A (wM a cI cZ) Q r) {F110 : zS → Int32 → Option (Int64 × zS)} (hF110 : ∀ (S : zS) (x1 : Int32), F110 S x1 = some r → ∀ {H : Heap} {locs : List Loc}, va_P D vwCl (wM a cI cZ S) H → va_D A (wM a cI cZ S) → va_S A s.heap H locs → ∀ {ls : Array Slot}, lv_has ls 2 [(0, .ref (a 0)), (1, .int x1)] → W p l e rmX5_digest s m args below meth c H locs 0 0 Q (F0 m 110 ls [])) {S : zS} {x1 : Int32} (hf : bX5_digest_110 F110 S x1 = some r) {H : Heap} {locs : List Loc} (hP : va_P D vwCl (wM a cI cZ S) H) (hD : va_D A (wM a cI cZ S)) (hS : va_S A s.heap H locs) {ls : Array Slot} (hl : lv_has ls 2 [(0, .ref (a 0)), (1, .int x1)]) : W p l e rmX5_digest s m args below meth c H locs 0 0 Q (F0 m 110 ls []) := by
  obtain ⟨hC, hK, hN⟩ := id hC0
  obtain ⟨hx, hb, hml, hown, hts⟩ := id hC
  have iw5 := iwX5_digest_5
  unfold bX5_digest_110 at hf
  refine lv_iload_n hx hb dX5_digest_110 rfl (lv_at hl 1 rfl) ?_
  refine lv_bipush (v := (9 : Int32)) hx hb dX5_digest_111 (by decide) ?_
  refine lv_icmp_ge (tgt := 132) hx hb dX5_digest_113 (by decide) (fun h_1 => ?_) (fun h_1 => ?_)
  · have hf := zt h_1 hf
    refine lv_aload_n hx hb dX5_digest_132 rfl (lv_at hl 0 rfl) ?_
    refine gM5_h hx hb hts iw5 hown hK hP (List.mem_of_getElem? (i := 2) rfl) dX5_digest_133 ?_
    exact zrl hf hQ hP hD hS dX5_digest_136
  · have hf := zf h_1 hf
    refine lv_aload_n hx hb dX5_digest_116 rfl (lv_at hl 0 rfl) ?_
    refine lv_aload_n hx hb dX5_digest_117 rfl (lv_at hl 0 rfl) ?_
    refine lv_iload_n hx hb dX5_digest_118 rfl (lv_at hl 1 rfl) ?_
    obtain ⟨y_1, S_1, hg_1, hf⟩ := obnd_some hf
    refine zci (va_runV (As := [.int x1]) (rest := [.ref (a 0)]) hC (tX5_howMany hg_1) (cwV 1 hts gX5_digest_X5_howMany rfl rfl rfl (by decide +kernel) ⟨Nat.le_of_ble_eq_true rfl, Nat.le_of_ble_eq_true rfl⟩) (zpV hP hK hD hN (rM_0 hK hP)) rfl rfl hl.1 rfl (lv_room (Nat.le_of_ble_eq_true rfl)) dX5_digest_119 ⟨Nat.zero_le _, Nat.zero_le _⟩) hS (fun H locs hP hD hS => ?_)
    refine lv_i2l hx hb dX5_digest_122 rfl ?_
    obtain ⟨S_2, hg_2, hf⟩ := obnv_some hf
    refine zcv (va_runV (As := [.long (y_1).toInt64]) (rest := []) hC (tX5_mix hg_2) (cwV 1 hts gX5_digest_X5_mix rfl rfl rfl (by decide +kernel) ⟨Nat.le_of_ble_eq_true rfl, Nat.le_of_ble_eq_true rfl⟩) (zpV hP hK hD hN (rM_0 hK hP)) rfl rfl hl.1 rfl (lv_room (Nat.le_of_ble_eq_true rfl)) dX5_digest_123 ⟨Nat.zero_le _, Nat.zero_le _⟩) hS (fun H locs hP hD hS => ?_)
    refine z_iinc hf hx hb 1 (fun y => [(1, .int y), (0, .ref (a 0))]) dX5_digest_126 hl rfl (by decide) (by decide) (fun _ => rfl) (fun y_2 ls hf hl => ?_)
    refine lv_goto (tgt := 110) hx hb dX5_digest_129 (by decide) ?_
    exact hF110 _ _ hf hP hD hS (lv_sub hl [1, 0] rfl)
theorem kX5_digest_110 {r : Int64 × zS} (hC0 : zC p m c cX5_digest 2 s args wsX5_digest RX5 D cI cZ) (hQ : zRl p l e rmX5_digest s m args below meth c cX5_digest D A (wM a cI cZ) Q r) (n : Nat) : ∀ (S : zS) (x1 : Int32), fX5_digest_110 n S x1 = some r → ∀ {H : Heap} {locs : List Loc}, va_P D vwCl (wM a cI cZ S) H → va_D A (wM a cI cZ S) → va_S A s.heap H locs → ∀ {ls : Array Slot}, lv_has ls 2 [(0, .ref (a 0)), (1, .int x1)] → W p l e rmX5_digest s m args below meth c H locs 0 0 Q (F0 m 110 ls []) := by
  induction n with
  | zero => intro S x1 hf; cases hf
  | succ n ih => intro S x1 hf; exact kX5_digest_110b hC0 hQ ih hf
set_option maxHeartbeats 4000000 in
set_option maxRecDepth 100000 in
theorem kX5_digest_81b {r : Int64 × zS} (hC0 : zC p m c cX5_digest 2 s args wsX5_digest RX5 D cI cZ) (hQ : zRl p l e rmX5_digest s m args below meth c cX5_digest D A (wM a cI cZ) Q r) {F81 : zS → Int32 → Option (Int64 × zS)} (hF81 : ∀ (S : zS) (x1 : Int32), F81 S x1 = some r → ∀ {H : Heap} {locs : List Loc}, va_P D vwCl (wM a cI cZ S) H → va_D A (wM a cI cZ S) → va_S A s.heap H locs → ∀ {ls : Array Slot}, lv_has ls 2 [(0, .ref (a 0)), (1, .int x1)] → W p l e rmX5_digest s m args below meth c H locs 0 0 Q (F0 m 81 ls [])) {S : zS} {x1 : Int32} (hf : bX5_digest_81 F81 S x1 = some r) {H : Heap} {locs : List Loc} (hP : va_P D vwCl (wM a cI cZ S) H) (hD : va_D A (wM a cI cZ S)) (hS : va_S A s.heap H locs) {ls : Array Slot} (hl : lv_has ls 2 [(0, .ref (a 0)), (1, .int x1)]) : W p l e rmX5_digest s m args below meth c H locs 0 0 Q (F0 m 81 ls []) := by
  obtain ⟨hC, hK, hN⟩ := id hC0
  obtain ⟨hx, hb, hml, hown, hts⟩ := id hC
  have iw5 := iwX5_digest_5
  unfold bX5_digest_81 at hf
  refine lv_iload_n hx hb dX5_digest_81 rfl (lv_at hl 1 rfl) ?_
  refine lv_iconst (v := (5 : Int32)) hx hb dX5_digest_82 (by decide) ?_
  refine lv_aload_n hx hb dX5_digest_83 rfl (lv_at hl 0 rfl) ?_
  refine gM5_outs hx hb hts iw5 hown hK hP (List.mem_of_getElem? (i := 3) rfl) dX5_digest_84 ?_
  refine lv_imul hx hb dX5_digest_87 ?_
  refine lv_icmp_ge (tgt := 108) hx hb dX5_digest_88 (by decide) (fun h_1 => ?_) (fun h_1 => ?_)
  · have hf := zt h_1 hf
    refine lv_iconst (v := (0 : Int32)) hx hb dX5_digest_108 (by decide) ?_
    refine z_istore_n hf hx hb (fun y => [(1, .int y), (0, .ref (a 0))]) dX5_digest_109 rfl hl (by decide) (fun _ => rfl) (fun y_1 ls hf hl => ?_)
    exact kX5_digest_110 hC0 hQ 64 _ _ hf hP hD hS (lv_sub hl [1, 0] rfl)
  · have hf := zf h_1 hf
    refine lv_aload_n hx hb dX5_digest_91 rfl (lv_at hl 0 rfl) ?_
    refine lv_aload_n hx hb dX5_digest_92 rfl (lv_at hl 0 rfl) ?_
    refine gM5_outAt hx hb hts iw5 hown hK hP (List.mem_of_getElem? (i := 4) rfl) dX5_digest_93 ?_
    refine lv_iload_n hx hb dX5_digest_96 rfl (lv_at hl 1 rfl) ?_
    refine lM5_outAt hf hx hb hK hP dX5_digest_97 (fun hf => ?_)
    refine lv_i2l hx hb dX5_digest_98 rfl ?_
    obtain ⟨S_1, hg_1, hf⟩ := obnv_some hf
    refine zcv (va_runV (As := [.long ((S.2.1 13 (x1).toNatClampNeg)).toInt64]) (rest := []) hC (tX5_mix hg_1) (cwV 1 hts gX5_digest_X5_mix rfl rfl rfl (by decide +kernel) ⟨Nat.le_of_ble_eq_true rfl, Nat.le_of_ble_eq_true rfl⟩) (zpV hP hK hD hN (rM_0 hK hP)) rfl rfl hl.1 rfl (lv_room (Nat.le_of_ble_eq_true rfl)) dX5_digest_99 ⟨Nat.zero_le _, Nat.zero_le _⟩) hS (fun H locs hP hD hS => ?_)
    refine z_iinc hf hx hb 1 (fun y => [(1, .int y), (0, .ref (a 0))]) dX5_digest_102 hl rfl (by decide) (by decide) (fun _ => rfl) (fun y_2 ls hf hl => ?_)
    refine lv_goto (tgt := 81) hx hb dX5_digest_105 (by decide) ?_
    exact hF81 _ _ hf hP hD hS (lv_sub hl [1, 0] rfl)
theorem kX5_digest_81 {r : Int64 × zS} (hC0 : zC p m c cX5_digest 2 s args wsX5_digest RX5 D cI cZ) (hQ : zRl p l e rmX5_digest s m args below meth c cX5_digest D A (wM a cI cZ) Q r) (n : Nat) : ∀ (S : zS) (x1 : Int32), fX5_digest_81 n S x1 = some r → ∀ {H : Heap} {locs : List Loc}, va_P D vwCl (wM a cI cZ S) H → va_D A (wM a cI cZ S) → va_S A s.heap H locs → ∀ {ls : Array Slot}, lv_has ls 2 [(0, .ref (a 0)), (1, .int x1)] → W p l e rmX5_digest s m args below meth c H locs 0 0 Q (F0 m 81 ls []) := by
  induction n with
  | zero => intro S x1 hf; cases hf
  | succ n ih => intro S x1 hf; exact kX5_digest_81b hC0 hQ ih hf
set_option maxHeartbeats 4000000 in
set_option maxRecDepth 100000 in
theorem kX5_digest_57b {r : Int64 × zS} (hC0 : zC p m c cX5_digest 2 s args wsX5_digest RX5 D cI cZ) (hQ : zRl p l e rmX5_digest s m args below meth c cX5_digest D A (wM a cI cZ) Q r) {F57 : zS → Int32 → Option (Int64 × zS)} (hF57 : ∀ (S : zS) (x1 : Int32), F57 S x1 = some r → ∀ {H : Heap} {locs : List Loc}, va_P D vwCl (wM a cI cZ S) H → va_D A (wM a cI cZ S) → va_S A s.heap H locs → ∀ {ls : Array Slot}, lv_has ls 2 [(0, .ref (a 0)), (1, .int x1)] → W p l e rmX5_digest s m args below meth c H locs 0 0 Q (F0 m 57 ls [])) {S : zS} {x1 : Int32} (hf : bX5_digest_57 F57 S x1 = some r) {H : Heap} {locs : List Loc} (hP : va_P D vwCl (wM a cI cZ S) H) (hD : va_D A (wM a cI cZ S)) (hS : va_S A s.heap H locs) {ls : Array Slot} (hl : lv_has ls 2 [(0, .ref (a 0)), (1, .int x1)]) : W p l e rmX5_digest s m args below meth c H locs 0 0 Q (F0 m 57 ls []) := by
  obtain ⟨hC, hK, hN⟩ := id hC0
  obtain ⟨hx, hb, hml, hown, hts⟩ := id hC
  have iw5 := iwX5_digest_5
  unfold bX5_digest_57 at hf
  refine lv_iload_n hx hb dX5_digest_57 rfl (lv_at hl 1 rfl) ?_
  refine lv_bipush (v := (20 : Int32)) hx hb dX5_digest_58 (by decide) ?_
  refine lv_icmp_ge (tgt := 79) hx hb dX5_digest_60 (by decide) (fun h_1 => ?_) (fun h_1 => ?_)
  · have hf := zt h_1 hf
    refine lv_iconst (v := (0 : Int32)) hx hb dX5_digest_79 (by decide) ?_
    refine z_istore_n hf hx hb (fun y => [(1, .int y), (0, .ref (a 0))]) dX5_digest_80 rfl hl (by decide) (fun _ => rfl) (fun y_1 ls hf hl => ?_)
    exact kX5_digest_81 hC0 hQ 64 _ _ hf hP hD hS (lv_sub hl [1, 0] rfl)
  · have hf := zf h_1 hf
    refine lv_aload_n hx hb dX5_digest_63 rfl (lv_at hl 0 rfl) ?_
    refine lv_aload_n hx hb dX5_digest_64 rfl (lv_at hl 0 rfl) ?_
    refine lv_iload_n hx hb dX5_digest_65 rfl (lv_at hl 1 rfl) ?_
    obtain ⟨y_2, S_1, hg_1, hf⟩ := obnd_some hf
    refine zci (va_runV (As := [.int x1]) (rest := [.ref (a 0)]) hC (tX5_hopNow hg_1) (cwV 1 hts gX5_digest_X5_hopNow rfl rfl rfl (by decide +kernel) ⟨Nat.le_of_ble_eq_true rfl, Nat.le_of_ble_eq_true rfl⟩) (zpV hP hK hD hN (rM_0 hK hP)) rfl rfl hl.1 rfl (lv_room (Nat.le_of_ble_eq_true rfl)) dX5_digest_66 ⟨Nat.zero_le _, Nat.zero_le _⟩) hS (fun H locs hP hD hS => ?_)
    refine lv_i2l hx hb dX5_digest_69 rfl ?_
    obtain ⟨S_2, hg_2, hf⟩ := obnv_some hf
    refine zcv (va_runV (As := [.long (y_2).toInt64]) (rest := []) hC (tX5_mix hg_2) (cwV 1 hts gX5_digest_X5_mix rfl rfl rfl (by decide +kernel) ⟨Nat.le_of_ble_eq_true rfl, Nat.le_of_ble_eq_true rfl⟩) (zpV hP hK hD hN (rM_0 hK hP)) rfl rfl hl.1 rfl (lv_room (Nat.le_of_ble_eq_true rfl)) dX5_digest_70 ⟨Nat.zero_le _, Nat.zero_le _⟩) hS (fun H locs hP hD hS => ?_)
    refine z_iinc hf hx hb 1 (fun y => [(1, .int y), (0, .ref (a 0))]) dX5_digest_73 hl rfl (by decide) (by decide) (fun _ => rfl) (fun y_3 ls hf hl => ?_)
    refine lv_goto (tgt := 57) hx hb dX5_digest_76 (by decide) ?_
    exact hF57 _ _ hf hP hD hS (lv_sub hl [1, 0] rfl)
theorem kX5_digest_57 {r : Int64 × zS} (hC0 : zC p m c cX5_digest 2 s args wsX5_digest RX5 D cI cZ) (hQ : zRl p l e rmX5_digest s m args below meth c cX5_digest D A (wM a cI cZ) Q r) (n : Nat) : ∀ (S : zS) (x1 : Int32), fX5_digest_57 n S x1 = some r → ∀ {H : Heap} {locs : List Loc}, va_P D vwCl (wM a cI cZ S) H → va_D A (wM a cI cZ S) → va_S A s.heap H locs → ∀ {ls : Array Slot}, lv_has ls 2 [(0, .ref (a 0)), (1, .int x1)] → W p l e rmX5_digest s m args below meth c H locs 0 0 Q (F0 m 57 ls []) := by
  induction n with
  | zero => intro S x1 hf; cases hf
  | succ n ih => intro S x1 hf; exact kX5_digest_57b hC0 hQ ih hf
set_option maxHeartbeats 4000000 in
set_option maxRecDepth 100000 in
theorem kX5_digest_33b {r : Int64 × zS} (hC0 : zC p m c cX5_digest 2 s args wsX5_digest RX5 D cI cZ) (hQ : zRl p l e rmX5_digest s m args below meth c cX5_digest D A (wM a cI cZ) Q r) {F33 : zS → Int32 → Option (Int64 × zS)} (hF33 : ∀ (S : zS) (x1 : Int32), F33 S x1 = some r → ∀ {H : Heap} {locs : List Loc}, va_P D vwCl (wM a cI cZ S) H → va_D A (wM a cI cZ S) → va_S A s.heap H locs → ∀ {ls : Array Slot}, lv_has ls 2 [(0, .ref (a 0)), (1, .int x1)] → W p l e rmX5_digest s m args below meth c H locs 0 0 Q (F0 m 33 ls [])) {S : zS} {x1 : Int32} (hf : bX5_digest_33 F33 S x1 = some r) {H : Heap} {locs : List Loc} (hP : va_P D vwCl (wM a cI cZ S) H) (hD : va_D A (wM a cI cZ S)) (hS : va_S A s.heap H locs) {ls : Array Slot} (hl : lv_has ls 2 [(0, .ref (a 0)), (1, .int x1)]) : W p l e rmX5_digest s m args below meth c H locs 0 0 Q (F0 m 33 ls []) := by
  obtain ⟨hC, hK, hN⟩ := id hC0
  obtain ⟨hx, hb, hml, hown, hts⟩ := id hC
  have iw5 := iwX5_digest_5
  unfold bX5_digest_33 at hf
  refine lv_iload_n hx hb dX5_digest_33 rfl (lv_at hl 1 rfl) ?_
  refine lv_bipush (v := (16 : Int32)) hx hb dX5_digest_34 (by decide) ?_
  refine lv_icmp_ge (tgt := 50) hx hb dX5_digest_36 (by decide) (fun h_1 => ?_) (fun h_1 => ?_)
  · have hf := zt h_1 hf
    refine lv_aload_n hx hb dX5_digest_50 rfl (lv_at hl 0 rfl) ?_
    obtain ⟨S_1, hg_1, hf⟩ := obnv_some hf
    refine zcv (va_runV (As := []) (rest := []) hC (tX5_mixRouters hg_1) (cwV 0 hts gX5_digest_X5_mixRouters rfl rfl rfl (by decide +kernel) ⟨Nat.le_of_ble_eq_true rfl, Nat.le_of_ble_eq_true rfl⟩) (zpV hP hK hD hN (rM_0 hK hP)) rfl rfl hl.1 rfl (lv_room (Nat.le_of_ble_eq_true rfl)) dX5_digest_51 ⟨Nat.zero_le _, Nat.zero_le _⟩) hS (fun H locs hP hD hS => ?_)
    refine lv_bipush (v := (16 : Int32)) hx hb dX5_digest_54 (by decide) ?_
    refine z_istore_n hf hx hb (fun y => [(1, .int y), (0, .ref (a 0))]) dX5_digest_56 rfl hl (by decide) (fun _ => rfl) (fun y_1 ls hf hl => ?_)
    exact kX5_digest_57 hC0 hQ 64 _ _ hf hP hD hS (lv_sub hl [1, 0] rfl)
  · have hf := zf h_1 hf
    refine lv_aload_n hx hb dX5_digest_39 rfl (lv_at hl 0 rfl) ?_
    refine lv_iload_n hx hb dX5_digest_40 rfl (lv_at hl 1 rfl) ?_
    obtain ⟨S_2, hg_2, hf⟩ := obnv_some hf
    refine zcv (va_runV (As := [.int x1]) (rest := []) hC (tX5_mixEntry hg_2) (cwV 1 hts gX5_digest_X5_mixEntry rfl rfl rfl (by decide +kernel) ⟨Nat.le_of_ble_eq_true rfl, Nat.le_of_ble_eq_true rfl⟩) (zpV hP hK hD hN (rM_0 hK hP)) rfl rfl hl.1 rfl (lv_room (Nat.le_of_ble_eq_true rfl)) dX5_digest_41 ⟨Nat.zero_le _, Nat.zero_le _⟩) hS (fun H locs hP hD hS => ?_)
    refine z_iinc hf hx hb 1 (fun y => [(1, .int y), (0, .ref (a 0))]) dX5_digest_44 hl rfl (by decide) (by decide) (fun _ => rfl) (fun y_2 ls hf hl => ?_)
    refine lv_goto (tgt := 33) hx hb dX5_digest_47 (by decide) ?_
    exact hF33 _ _ hf hP hD hS (lv_sub hl [1, 0] rfl)
theorem kX5_digest_33 {r : Int64 × zS} (hC0 : zC p m c cX5_digest 2 s args wsX5_digest RX5 D cI cZ) (hQ : zRl p l e rmX5_digest s m args below meth c cX5_digest D A (wM a cI cZ) Q r) (n : Nat) : ∀ (S : zS) (x1 : Int32), fX5_digest_33 n S x1 = some r → ∀ {H : Heap} {locs : List Loc}, va_P D vwCl (wM a cI cZ S) H → va_D A (wM a cI cZ S) → va_S A s.heap H locs → ∀ {ls : Array Slot}, lv_has ls 2 [(0, .ref (a 0)), (1, .int x1)] → W p l e rmX5_digest s m args below meth c H locs 0 0 Q (F0 m 33 ls []) := by
  induction n with
  | zero => intro S x1 hf; cases hf
  | succ n ih => intro S x1 hf; exact kX5_digest_33b hC0 hQ ih hf
set_option maxHeartbeats 4000000 in
set_option maxRecDepth 100000 in
theorem kX5_digest_9b {r : Int64 × zS} (hC0 : zC p m c cX5_digest 2 s args wsX5_digest RX5 D cI cZ) (hQ : zRl p l e rmX5_digest s m args below meth c cX5_digest D A (wM a cI cZ) Q r) {F9 : zS → Int32 → Option (Int64 × zS)} (hF9 : ∀ (S : zS) (x1 : Int32), F9 S x1 = some r → ∀ {H : Heap} {locs : List Loc}, va_P D vwCl (wM a cI cZ S) H → va_D A (wM a cI cZ S) → va_S A s.heap H locs → ∀ {ls : Array Slot}, lv_has ls 2 [(0, .ref (a 0)), (1, .int x1)] → W p l e rmX5_digest s m args below meth c H locs 0 0 Q (F0 m 9 ls [])) {S : zS} {x1 : Int32} (hf : bX5_digest_9 F9 S x1 = some r) {H : Heap} {locs : List Loc} (hP : va_P D vwCl (wM a cI cZ S) H) (hD : va_D A (wM a cI cZ S)) (hS : va_S A s.heap H locs) {ls : Array Slot} (hl : lv_has ls 2 [(0, .ref (a 0)), (1, .int x1)]) : W p l e rmX5_digest s m args below meth c H locs 0 0 Q (F0 m 9 ls []) := by
  obtain ⟨hC, hK, hN⟩ := id hC0
  obtain ⟨hx, hb, hml, hown, hts⟩ := id hC
  have iw5 := iwX5_digest_5
  unfold bX5_digest_9 at hf
  refine lv_iload_n hx hb dX5_digest_9 rfl (lv_at hl 1 rfl) ?_
  refine lv_bipush (v := (6 : Int32)) hx hb dX5_digest_10 (by decide) ?_
  refine lv_icmp_ge (tgt := 31) hx hb dX5_digest_12 (by decide) (fun h_1 => ?_) (fun h_1 => ?_)
  · have hf := zt h_1 hf
    refine lv_iconst (v := (0 : Int32)) hx hb dX5_digest_31 (by decide) ?_
    refine z_istore_n hf hx hb (fun y => [(1, .int y), (0, .ref (a 0))]) dX5_digest_32 rfl hl (by decide) (fun _ => rfl) (fun y_1 ls hf hl => ?_)
    exact kX5_digest_33 hC0 hQ 64 _ _ hf hP hD hS (lv_sub hl [1, 0] rfl)
  · have hf := zf h_1 hf
    refine lv_aload_n hx hb dX5_digest_15 rfl (lv_at hl 0 rfl) ?_
    refine lv_aload_n hx hb dX5_digest_16 rfl (lv_at hl 0 rfl) ?_
    refine lv_iload_n hx hb dX5_digest_17 rfl (lv_at hl 1 rfl) ?_
    obtain ⟨y_2, S_1, hg_1, hf⟩ := obnd_some hf
    refine zci (va_runV (As := [.int x1]) (rest := [.ref (a 0)]) hC (tX5_aboutNow hg_1) (cwV 1 hts gX5_digest_X5_aboutNow rfl rfl rfl (by decide +kernel) ⟨Nat.le_of_ble_eq_true rfl, Nat.le_of_ble_eq_true rfl⟩) (zpV hP hK hD hN (rM_0 hK hP)) rfl rfl hl.1 rfl (lv_room (Nat.le_of_ble_eq_true rfl)) dX5_digest_18 ⟨Nat.zero_le _, Nat.zero_le _⟩) hS (fun H locs hP hD hS => ?_)
    refine lv_i2l hx hb dX5_digest_21 rfl ?_
    obtain ⟨S_2, hg_2, hf⟩ := obnv_some hf
    refine zcv (va_runV (As := [.long (y_2).toInt64]) (rest := []) hC (tX5_mix hg_2) (cwV 1 hts gX5_digest_X5_mix rfl rfl rfl (by decide +kernel) ⟨Nat.le_of_ble_eq_true rfl, Nat.le_of_ble_eq_true rfl⟩) (zpV hP hK hD hN (rM_0 hK hP)) rfl rfl hl.1 rfl (lv_room (Nat.le_of_ble_eq_true rfl)) dX5_digest_22 ⟨Nat.zero_le _, Nat.zero_le _⟩) hS (fun H locs hP hD hS => ?_)
    refine z_iinc hf hx hb 1 (fun y => [(1, .int y), (0, .ref (a 0))]) dX5_digest_25 hl rfl (by decide) (by decide) (fun _ => rfl) (fun y_3 ls hf hl => ?_)
    refine lv_goto (tgt := 9) hx hb dX5_digest_28 (by decide) ?_
    exact hF9 _ _ hf hP hD hS (lv_sub hl [1, 0] rfl)
theorem kX5_digest_9 {r : Int64 × zS} (hC0 : zC p m c cX5_digest 2 s args wsX5_digest RX5 D cI cZ) (hQ : zRl p l e rmX5_digest s m args below meth c cX5_digest D A (wM a cI cZ) Q r) (n : Nat) : ∀ (S : zS) (x1 : Int32), fX5_digest_9 n S x1 = some r → ∀ {H : Heap} {locs : List Loc}, va_P D vwCl (wM a cI cZ S) H → va_D A (wM a cI cZ S) → va_S A s.heap H locs → ∀ {ls : Array Slot}, lv_has ls 2 [(0, .ref (a 0)), (1, .int x1)] → W p l e rmX5_digest s m args below meth c H locs 0 0 Q (F0 m 9 ls []) := by
  induction n with
  | zero => intro S x1 hf; cases hf
  | succ n ih => intro S x1 hf; exact kX5_digest_9b hC0 hQ ih hf
set_option maxHeartbeats 4000000 in
set_option maxRecDepth 100000 in
theorem kX5_digest {r : Int64 × zS} (hC0 : zC p m c cX5_digest 2 s args wsX5_digest RX5 D cI cZ) (hQ : zRl p l e rmX5_digest s m args below meth c cX5_digest D A (wM a cI cZ) Q r) {S : zS} (hf : fX5_digest S = some r) {H : Heap} {locs : List Loc} (hP : va_P D vwCl (wM a cI cZ S) H) (hD : va_D A (wM a cI cZ S)) (hS : va_S A s.heap H locs) {ls : Array Slot} (hl : lv_has ls 2 [(0, .ref (a 0))]) : W p l e rmX5_digest s m args below meth c H locs 0 0 Q (F0 m 0 ls []) := by
  obtain ⟨hC, hK, hN⟩ := id hC0
  obtain ⟨hx, hb, hml, hown, hts⟩ := id hC
  have iw5 := iwX5_digest_5
  unfold fX5_digest at hf
  refine lv_aload_n hx hb dX5_digest_0 rfl (lv_at hl 0 rfl) ?_
  refine lv_ldc2 (v := (1523)) hx hb hown (hts (.constantLong RX5 251 (1523)) (List.mem_of_getElem? (i := 1) rfl)) dX5_digest_1 ?_
  refine pM5_h hf hx hb hts iw5 hown hK hP hD hS (List.mem_of_getElem? (i := 2) rfl) dX5_digest_4 (fun S_1 H locs hf hP hD hS => ?_)
  refine lv_iconst (v := (0 : Int32)) hx hb dX5_digest_7 (by decide) ?_
  refine z_istore_n hf hx hb (fun y => [(1, .int y), (0, .ref (a 0))]) dX5_digest_8 rfl hl (by decide) (fun _ => rfl) (fun y_1 ls hf hl => ?_)
  exact kX5_digest_9 hC0 hQ 64 _ _ hf hP hD hS (lv_sub hl [1, 0] rfl)
theorem tX5_digest {S : zS} {r : Int64 × zS} (hf : fX5_digest S = some r) : zMl l yX5_digest wsX5_digest rmX5_digest D (zT cI cZ) A (wM a cI cZ) [.ref (a 0)] S r :=
  zMl_of (by decide) rfl rfl (Nat.le_of_ble_eq_true rfl) (fun hC0 hQ hP hD hS _ hl => kX5_digest hC0 hQ hf hP hD hS hl)
end KY6
