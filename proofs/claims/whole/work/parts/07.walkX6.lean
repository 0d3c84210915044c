section KX6
variable {p : Program} {l : Launch} {e : Env} {s : State} {m : MethodId} {args : Array Value} {below : List Frame} {meth : Method} {c : Code} {Q : State → Prop} {D : va_G} {a : Nat → Nat} {cI cZ : ClassId} {A : Nat → Prop}
abbrev rmX4_out : Room := { frames := 1, cells := 0, slots := 0, locals := 23 }
theorem iwX4_out_4 : ∀ w ∈ wsX40, w ∈ wsX4_out := fun _ h => List.mem_cons_of_mem _ (List.mem_append_left _ (List.mem_append_right _ h))
theorem iwX4_out_2 : ∀ w ∈ wsX20, w ∈ wsX4_out := fun _ h => List.mem_cons_of_mem _ (List.mem_append_right _ h)
set_option maxHeartbeats 4000000 in
set_option maxRecDepth 100000 in
theorem kX4_out {r : Int32 × zS} (hC0 : zC p m c cX4_out 3 s args wsX4_out RX4 D cI cZ) (hQ : zRi p l e rmX4_out s m args below meth c cX4_out D A (wX a cI) Q r) {S : zS} {x1 : Int32} {x2 : Int32} (hf : fX4_out S x1 x2 = some r) {H : Heap} {locs : List Loc} (hP : va_P D vwCl (wX a cI S) H) (hD : va_D A (wX a cI S)) (hS : va_S A s.heap H locs) {ls : Array Slot} (hl : lv_has ls 3 [(0, .ref (a 0)), (1, .int x1), (2, .int x2)]) : W p l e rmX4_out s m args below meth c H locs 0 0 Q (F0 m 0 ls []) := by
  obtain ⟨hC, hK, hN⟩ := id hC0
  obtain ⟨hx, hb, hml, hown, hts⟩ := id hC
  have iw4 := iwX4_out_4
  have iw2 := iwX4_out_2
  unfold fX4_out at hf
  refine lv_aload_n hx hb dX4_out_0 rfl (lv_at hl 0 rfl) ?_
  refine gX4_outbox hx hb hts iw4 hown hK hP (List.mem_of_getElem? (i := 1) rfl) dX4_out_1 ?_
  refine lv_iload_n hx hb dX4_out_4 rfl (lv_at hl 1 rfl) ?_
  refine lv_iload_n hx hb dX4_out_5 rfl (lv_at hl 2 rfl) ?_
  obtain ⟨y_1, S_1, hg_1, hf⟩ := obnd_some hf
  refine zci (va_runVN (As := [.int x1, .int x2]) (rest := []) hC (tX2_tell hg_1) ⟨va_cnB 2 hts gX4_out_X2_tell_n183 rfl rfl rfl (hN _ zN31) (hts _ (List.mem_of_getElem? (i := 3) rfl)) (by decide +kernel) ⟨Nat.le_of_ble_eq_true rfl, Nat.le_of_ble_eq_true rfl⟩, hts _ (List.mem_of_getElem? (i := 2) rfl), hts _ (List.mem_of_getElem? (i := 4) rfl)⟩ (zpV hP hK hD hN (rX_1 hK hP)) rfl rfl hl.1 rfl (lv_room (Nat.le_of_ble_eq_true rfl)) dX4_out_6 ⟨Nat.zero_le _, Nat.zero_le _⟩) hS (fun H locs hP hD hS => ?_)
  exact zri hf hQ hP hD hS dX4_out_9
theorem tX4_out {S : zS} {x1 : Int32} {x2 : Int32} {r : Int32 × zS} (hf : fX4_out S x1 x2 = some r) : zMi l yX4_out wsX4_out rmX4_out D (zT cI cZ) A (wX a cI) [.ref (a 0), .int x1, .int x2] S r :=
  zMi_of (by decide) rfl rfl (Nat.le_of_ble_eq_true rfl) (fun hC0 hQ hP hD hS _ hl => kX4_out hC0 hQ hf hP hD hS hl)
abbrev rmX4_about : Room := { frames := 0, cells := 0, slots := 0, locals := 0 }
theorem iwX4_about_4 : ∀ w ∈ wsX40, w ∈ wsX4_about := fun _ h => List.mem_cons_of_mem _ (List.mem_append_right _ h)
set_option maxHeartbeats 4000000 in
set_option maxRecDepth 100000 in
theorem kX4_about {r : Int32 × zS} (hC0 : zC p m c cX4_about 2 s args wsX4_about RX4 D cI cZ) (hQ : zRi p l e rmX4_about s m args below meth c cX4_about D A (wX a cI) Q r) {S : zS} {x1 : Int32} (hf : fX4_about S x1 = some r) {H : Heap} {locs : List Loc} (hP : va_P D vwCl (wX a cI S) H) (hD : va_D A (wX a cI S)) (hS : va_S A s.heap H locs) {ls : Array Slot} (hl : lv_has ls 2 [(0, .ref (a 0)), (1, .int x1)]) : W p l e rmX4_about s m args below meth c H locs 0 0 Q (F0 m 0 ls []) := by
  obtain ⟨hC, hK, hN⟩ := id hC0
  obtain ⟨hx, hb, hml, hown, hts⟩ := id hC
  have iw4 := iwX4_about_4
  unfold fX4_about at hf
  refine lv_iload_n hx hb dX4_about_0 rfl (lv_at hl 1 rfl) ?_
  by_cases h_1 : x1 = (0 : Int32)
  · have hf := zt h_1 hf
    refine lv_tableIn (off := 39) (tgt := 40) hx hb dX4_about_1 (by rw [h_1]; decide) (by rw [h_1]; decide) (by rw [h_1]; rfl) (by decide) ?_
    refine lv_aload_n hx hb dX4_about_40 rfl (lv_at hl 0 rfl) ?_
    refine gX4_clock hx hb hts iw4 hown hK hP (List.mem_of_getElem? (i := 1) rfl) dX4_about_41 ?_
    exact zri hf hQ hP hD hS dX4_about_44
  · have hf := zf h_1 hf
    by_cases h_2 : x1 = (1 : Int32)
    · have hf := zt h_2 hf
      refine lv_tableIn (off := 44) (tgt := 45) hx hb dX4_about_1 (by rw [h_2]; decide) (by rw [h_2]; decide) (by rw [h_2]; rfl) (by decide) ?_
      refine lv_aload_n hx hb dX4_about_45 rfl (lv_at hl 0 rfl) ?_
      refine gX4_own hx hb hts iw4 hown hK hP (List.mem_of_getElem? (i := 2) rfl) dX4_about_46 ?_
      exact zri hf hQ hP hD hS dX4_about_49
    · have hf := zf h_2 hf
      by_cases h_3 : x1 = (2 : Int32)
      · have hf := zt h_3 hf
        refine lv_tableIn (off := 49) (tgt := 50) hx hb dX4_about_1 (by rw [h_3]; decide) (by rw [h_3]; decide) (by rw [h_3]; rfl) (by decide) ?_
        refine lv_aload_n hx hb dX4_about_50 rfl (lv_at hl 0 rfl) ?_
        refine gX4_trial hx hb hts iw4 hown hK hP (List.mem_of_getElem? (i := 3) rfl) dX4_about_51 ?_
        exact zri hf hQ hP hD hS dX4_about_54
      · have hf := zf h_3 hf
        by_cases h_4 : x1 = (3 : Int32)
        · have hf := zt h_4 hf
          refine lv_tableIn (off := 54) (tgt := 55) hx hb dX4_about_1 (by rw [h_4]; decide) (by rw [h_4]; decide) (by rw [h_4]; rfl) (by decide) ?_
          refine lv_aload_n hx hb dX4_about_55 rfl (lv_at hl 0 rfl) ?_
          refine gX4_trial hx hb hts iw4 hown hK hP (List.mem_of_getElem? (i := 3) rfl) dX4_about_56 ?_
          refine lv_iconst (v := (-1 : Int32)) hx hb dX4_about_59 (by decide) ?_
          refine lv_icmp_ne (tgt := 67) hx hb dX4_about_60 (by decide) (fun h_5 => ?_) (fun h_5 => ?_)
          · have hf := zf h_5 hf
            refine lv_aload_n hx hb dX4_about_67 rfl (lv_at hl 0 rfl) ?_
            refine gX4_trialBegan hx hb hts iw4 hown hK hP (List.mem_of_getElem? (i := 4) rfl) dX4_about_68 ?_
            refine lv_bipush (v := (10 : Int32)) hx hb dX4_about_71 (by decide) ?_
            refine lv_iadd hx hb dX4_about_73 ?_
            exact zri hf hQ hP hD hS dX4_about_74
          · have hf := zt h_5 hf
            refine lv_iconst (v := (-1 : Int32)) hx hb dX4_about_63 (by decide) ?_
            refine lv_goto (tgt := 74) hx hb dX4_about_64 (by decide) ?_
            exact zri hf hQ hP hD hS dX4_about_74
        · have hf := zf h_4 hf
          by_cases h_6 : x1 = (4 : Int32)
          · have hf := zt h_6 hf
            refine lv_tableIn (off := 74) (tgt := 75) hx hb dX4_about_1 (by rw [h_6]; decide) (by rw [h_6]; decide) (by rw [h_6]; rfl) (by decide) ?_
            refine lv_aload_n hx hb dX4_about_75 rfl (lv_at hl 0 rfl) ?_
            refine gX4_doubled hx hb hts iw4 hown hK hP (List.mem_of_getElem? (i := 5) rfl) dX4_about_76 ?_
            exact zri hf hQ hP hD hS dX4_about_79
          · have hf := zf h_6 hf
            by_cases h_7 : x1 = (5 : Int32)
            · have hf := zt h_7 hf
              refine lv_tableIn (off := 79) (tgt := 80) hx hb dX4_about_1 (by rw [h_7]; decide) (by rw [h_7]; decide) (by rw [h_7]; rfl) (by decide) ?_
              refine lv_aload_n hx hb dX4_about_80 rfl (lv_at hl 0 rfl) ?_
              refine gX4_lastInTurn hx hb hts iw4 hown hK hP (List.mem_of_getElem? (i := 6) rfl) dX4_about_81 ?_
              exact zri hf hQ hP hD hS dX4_about_84
            · have hf := zf h_7 hf
              refine lv_tableOut (tgt := 85) hx hb dX4_about_1 (by have := zne h_1 (n := 0) (by decide); have := zne h_2 (n := 1) (by decide); have := zne h_3 (n := 2) (by decide); have := zne h_4 (n := 3) (by decide); have := zne h_6 (n := 4) (by decide); have := zne h_7 (n := 5) (by decide); omega) (by decide) ?_
              refine lv_bipush (v := (-102 : Int32)) hx hb dX4_about_85 (by decide) ?_
              exact zri hf hQ hP hD hS dX4_about_87
theorem tX4_about {S : zS} {x1 : Int32} {r : Int32 × zS} (hf : fX4_about S x1 = some r) : zMi l yX4_about wsX4_about rmX4_about D (zT cI cZ) A (wX a cI) [.ref (a 0), .int x1] S r :=
  zMi_of (by decide) rfl rfl (Nat.le_of_ble_eq_true rfl) (fun hC0 hQ hP hD hS _ hl => kX4_about hC0 hQ hf hP hD hS hl)
abbrev rmX4_count : Room := { frames := 3, cells := 0, slots := 0, locals := 64 }
theorem iwX4_count_4 : ∀ w ∈ wsX40, w ∈ wsX4_count := fun _ h => List.mem_cons_of_mem _ (List.mem_append_left _ (List.mem_append_left _ (List.mem_append_left _ (List.mem_append_left _ (List.mem_append_right _ h)))))
theorem iwX4_count_0 : ∀ w ∈ wsX00, w ∈ wsX4_count := fun _ h => List.mem_cons_of_mem _ (List.mem_append_left _ (List.mem_append_left _ (List.mem_append_left _ (List.mem_append_right _ h))))
theorem iwX4_count_3 : ∀ w ∈ wsX30, w ∈ wsX4_count := fun _ h => List.mem_cons_of_mem _ (List.mem_append_left _ (List.mem_append_left _ (List.mem_append_right _ h)))
theorem iwX4_count_1 : ∀ w ∈ wsX10, w ∈ wsX4_count := fun _ h => List.mem_cons_of_mem _ (List.mem_append_left _ (List.mem_append_right _ h))
theorem iwX4_count_2 : ∀ w ∈ wsX20, w ∈ wsX4_count := fun _ h => List.mem_cons_of_mem _ (List.mem_append_right _ h)
set_option maxHeartbeats 4000000 in
set_option maxRecDepth 100000 in
theorem kX4_count {r : Int32 × zS} (hC0 : zC p m c cX4_count 2 s args wsX4_count RX4 D cI cZ) (hQ : zRi p l e rmX4_count s m args below meth c cX4_count D A (wX a cI) Q r) {S : zS} {x1 : Int32} (hf : fX4_count S x1 = some r) {H : Heap} {locs : List Loc} (hP : va_P D vwCl (wX a cI S) H) (hD : va_D A (wX a cI S)) (hS : va_S A s.heap H locs) {ls : Array Slot} (hl : lv_has ls 2 [(0, .ref (a 0)), (1, .int x1)]) : W p l e rmX4_count s m args below meth c H locs 0 0 Q (F0 m 0 ls []) := by
  obtain ⟨hC, hK, hN⟩ := id hC0
  obtain ⟨hx, hb, hml, hown, hts⟩ := id hC
  have iw4 := iwX4_count_4
  have iw0 := iwX4_count_0
  have iw3 := iwX4_count_3
  have iw1 := iwX4_count_1
  have iw2 := iwX4_count_2
  unfold fX4_count at hf
  refine lv_iload_n hx hb dX4_count_0 rfl (lv_at hl 1 rfl) ?_
  by_cases h_1 : x1 = (0 : Int32)
  · have hf := zt h_1 hf
    refine lv_tableIn (off := 51) (tgt := 52) hx hb dX4_count_1 (by rw [h_1]; decide) (by rw [h_1]; decide) (by rw [h_1]; rfl) (by decide) ?_
    refine lv_aload_n hx hb dX4_count_52 rfl (lv_at hl 0 rfl) ?_
    refine gX4_entries hx hb hts iw4 hown hK hP (List.mem_of_getElem? (i := 1) rfl) dX4_count_53 ?_
    obtain ⟨y_1, S_1, hg_1, hf⟩ := obnd_some hf
    refine zci (va_runVN (As := []) (rest := []) hC (tX0_howMany hg_1) ⟨va_cnB 0 hts gX4_count_X0_howMany_n184 rfl rfl rfl (hN _ zN32) (hts _ (List.mem_of_getElem? (i := 6) rfl)) (by decide +kernel) ⟨Nat.le_of_ble_eq_true rfl, Nat.le_of_ble_eq_true rfl⟩, hts _ (List.mem_of_getElem? (i := 5) rfl), hts _ (List.mem_of_getElem? (i := 7) rfl)⟩ (zpV hP hK hD hN (rX_6 hK hP)) rfl rfl hl.1 rfl (lv_room (Nat.le_of_ble_eq_true rfl)) dX4_count_56 ⟨Nat.zero_le _, Nat.zero_le _⟩) hS (fun H locs hP hD hS => ?_)
    exact zri hf hQ hP hD hS dX4_count_59
  · have hf := zf h_1 hf
    by_cases h_2 : x1 = (1 : Int32)
    · have hf := zt h_2 hf
      refine lv_tableIn (off := 59) (tgt := 60) hx hb dX4_count_1 (by rw [h_2]; decide) (by rw [h_2]; decide) (by rw [h_2]; rfl) (by decide) ?_
      refine lv_aload_n hx hb dX4_count_60 rfl (lv_at hl 0 rfl) ?_
      refine gX4_routers hx hb hts iw4 hown hK hP (List.mem_of_getElem? (i := 2) rfl) dX4_count_61 ?_
      obtain ⟨y_2, S_2, hg_2, hf⟩ := obnd_some hf
      refine zci (va_runVN (As := []) (rest := []) hC (tX3_howMany hg_2) ⟨va_cnB 0 hts gX4_count_X3_howMany_n142 rfl rfl rfl (hN _ zN22) (hts _ (List.mem_of_getElem? (i := 11) rfl)) (by decide +kernel) ⟨Nat.le_of_ble_eq_true rfl, Nat.le_of_ble_eq_true rfl⟩, hts _ (List.mem_of_getElem? (i := 10) rfl), hts _ (List.mem_of_getElem? (i := 12) rfl)⟩ (zpV hP hK hD hN (rX_14 hK hP)) rfl rfl hl.1 rfl (lv_room (Nat.le_of_ble_eq_true rfl)) dX4_count_64 ⟨Nat.zero_le _, Nat.zero_le _⟩) hS (fun H locs hP hD hS => ?_)
      exact zri hf hQ hP hD hS dX4_count_67
    · have hf := zf h_2 hf
      by_cases h_3 : x1 = (2 : Int32)
      · have hf := zt h_3 hf
        refine lv_tableIn (off := 67) (tgt := 68) hx hb dX4_count_1 (by rw [h_3]; decide) (by rw [h_3]; decide) (by rw [h_3]; rfl) (by decide) ?_
        refine lv_aload_n hx hb dX4_count_68 rfl (lv_at hl 0 rfl) ?_
        refine gX4_kept hx hb hts iw4 hown hK hP (List.mem_of_getElem? (i := 3) rfl) dX4_count_69 ?_
        obtain ⟨y_3, S_3, hg_3, hf⟩ := obnd_some hf
        refine zci (va_runVN (As := []) (rest := []) hC (tX1_howMany hg_3) ⟨va_cnB 0 hts gX4_count_X1_howMany_n185 rfl rfl rfl (hN _ zN33) (hts _ (List.mem_of_getElem? (i := 16) rfl)) (by decide +kernel) ⟨Nat.le_of_ble_eq_true rfl, Nat.le_of_ble_eq_true rfl⟩, hts _ (List.mem_of_getElem? (i := 15) rfl), hts _ (List.mem_of_getElem? (i := 17) rfl)⟩ (zpV hP hK hD hN (rX_3 hK hP)) rfl rfl hl.1 rfl (lv_room (Nat.le_of_ble_eq_true rfl)) dX4_count_72 ⟨Nat.zero_le _, Nat.zero_le _⟩) hS (fun H locs hP hD hS => ?_)
        exact zri hf hQ hP hD hS dX4_count_75
      · have hf := zf h_3 hf
        by_cases h_4 : x1 = (3 : Int32)
        · have hf := zt h_4 hf
          refine lv_tableIn (off := 75) (tgt := 76) hx hb dX4_count_1 (by rw [h_4]; decide) (by rw [h_4]; decide) (by rw [h_4]; rfl) (by decide) ?_
          refine lv_aload_n hx hb dX4_count_76 rfl (lv_at hl 0 rfl) ?_
          refine gX4_entries hx hb hts iw4 hown hK hP (List.mem_of_getElem? (i := 1) rfl) dX4_count_77 ?_
          obtain ⟨y_4, S_4, hg_4, hf⟩ := obnd_some hf
          refine zci (va_runVN (As := []) (rest := []) hC (tX0_allWaiting hg_4) ⟨va_cnB 0 hts gX4_count_X0_allWaiting_n186 rfl rfl rfl (hN _ zN34) (hts _ (List.mem_of_getElem? (i := 6) rfl)) (by decide +kernel) ⟨Nat.le_of_ble_eq_true rfl, Nat.le_of_ble_eq_true rfl⟩, hts _ (List.mem_of_getElem? (i := 20) rfl), hts _ (List.mem_of_getElem? (i := 21) rfl)⟩ (zpV hP hK hD hN (rX_6 hK hP)) rfl rfl hl.1 rfl (lv_room (Nat.le_of_ble_eq_true rfl)) dX4_count_80 ⟨Nat.zero_le _, Nat.zero_le _⟩) hS (fun H locs hP hD hS => ?_)
          exact zri hf hQ hP hD hS dX4_count_83
        · have hf := zf h_4 hf
          by_cases h_5 : x1 = (4 : Int32)
          · have hf := zt h_5 hf
            refine lv_tableIn (off := 83) (tgt := 84) hx hb dX4_count_1 (by rw [h_5]; decide) (by rw [h_5]; decide) (by rw [h_5]; rfl) (by decide) ?_
            refine lv_aload_n hx hb dX4_count_84 rfl (lv_at hl 0 rfl) ?_
            refine gX4_entries hx hb hts iw4 hown hK hP (List.mem_of_getElem? (i := 1) rfl) dX4_count_85 ?_
            obtain ⟨y_5, S_5, hg_5, hf⟩ := obnd_some hf
            refine zci (va_runVN (As := []) (rest := []) hC (tX0_lostEver hg_5) ⟨va_cnB 0 hts gX4_count_X0_lostEver_n189 rfl rfl rfl (hN _ zN35) (hts _ (List.mem_of_getElem? (i := 6) rfl)) (by decide +kernel) ⟨Nat.le_of_ble_eq_true rfl, Nat.le_of_ble_eq_true rfl⟩, hts _ (List.mem_of_getElem? (i := 33) rfl), hts _ (List.mem_of_getElem? (i := 34) rfl)⟩ (zpV hP hK hD hN (rX_6 hK hP)) rfl rfl hl.1 rfl (lv_room (Nat.le_of_ble_eq_true rfl)) dX4_count_88 ⟨Nat.zero_le _, Nat.zero_le _⟩) hS (fun H locs hP hD hS => ?_)
            exact zri hf hQ hP hD hS dX4_count_91
          · have hf := zf h_5 hf
            by_cases h_6 : x1 = (5 : Int32)
            · have hf := zt h_6 hf
              refine lv_tableIn (off := 91) (tgt := 92) hx hb dX4_count_1 (by rw [h_6]; decide) (by rw [h_6]; decide) (by rw [h_6]; rfl) (by decide) ?_
              refine lv_aload_n hx hb dX4_count_92 rfl (lv_at hl 0 rfl) ?_
              refine gX4_outbox hx hb hts iw4 hown hK hP (List.mem_of_getElem? (i := 4) rfl) dX4_count_93 ?_
              obtain ⟨y_6, S_6, hg_6, hf⟩ := obnd_some hf
              refine zci (va_runVN (As := []) (rest := []) hC (tX2_lettersEver hg_6) ⟨va_cnB 0 hts gX4_count_X2_lettersEver_n192 rfl rfl rfl (hN _ zN36) (hts _ (List.mem_of_getElem? (i := 38) rfl)) (by decide +kernel) ⟨Nat.le_of_ble_eq_true rfl, Nat.le_of_ble_eq_true rfl⟩, hts _ (List.mem_of_getElem? (i := 37) rfl), hts _ (List.mem_of_getElem? (i := 39) rfl)⟩ (zpV hP hK hD hN (rX_1 hK hP)) rfl rfl hl.1 rfl (lv_room (Nat.le_of_ble_eq_true rfl)) dX4_count_96 ⟨Nat.zero_le _, Nat.zero_le _⟩) hS (fun H locs hP hD hS => ?_)
              exact zri hf hQ hP hD hS dX4_count_99
            · have hf := zf h_6 hf
              by_cases h_7 : x1 = (6 : Int32)
              · have hf := zt h_7 hf
                refine lv_tableIn (off := 99) (tgt := 100) hx hb dX4_count_1 (by rw [h_7]; decide) (by rw [h_7]; decide) (by rw [h_7]; rfl) (by decide) ?_
                refine lv_aload_n hx hb dX4_count_100 rfl (lv_at hl 0 rfl) ?_
                refine gX4_outbox hx hb hts iw4 hown hK hP (List.mem_of_getElem? (i := 4) rfl) dX4_count_101 ?_
                obtain ⟨y_7, S_7, hg_7, hf⟩ := obnd_some hf
                refine zci (va_runVN (As := []) (rest := []) hC (tX2_allEver hg_7) ⟨va_cnB 0 hts gX4_count_X2_allEver_n195 rfl rfl rfl (hN _ zN37) (hts _ (List.mem_of_getElem? (i := 38) rfl)) (by decide +kernel) ⟨Nat.le_of_ble_eq_true rfl, Nat.le_of_ble_eq_true rfl⟩, hts _ (List.mem_of_getElem? (i := 42) rfl), hts _ (List.mem_of_getElem? (i := 43) rfl)⟩ (zpV hP hK hD hN (rX_1 hK hP)) rfl rfl hl.1 rfl (lv_room (Nat.le_of_ble_eq_true rfl)) dX4_count_104 ⟨Nat.zero_le _, Nat.zero_le _⟩) hS (fun H locs hP hD hS => ?_)
                exact zri hf hQ hP hD hS dX4_count_107
              · have hf := zf h_7 hf
                by_cases h_8 : x1 = (7 : Int32)
                · have hf := zt h_8 hf
                  refine lv_tableIn (off := 107) (tgt := 108) hx hb dX4_count_1 (by rw [h_8]; decide) (by rw [h_8]; decide) (by rw [h_8]; rfl) (by decide) ?_
                  refine lv_aload_n hx hb dX4_count_108 rfl (lv_at hl 0 rfl) ?_
                  refine gX4_entries hx hb hts iw4 hown hK hP (List.mem_of_getElem? (i := 1) rfl) dX4_count_109 ?_
                  obtain ⟨y_8, S_8, hg_8, hf⟩ := obnd_some hf
                  refine zci (va_runVN (As := []) (rest := []) hC (tX0_goneEver hg_8) ⟨va_cnB 0 hts gX4_count_X0_goneEver_n198 rfl rfl rfl (hN _ zN38) (hts _ (List.mem_of_getElem? (i := 6) rfl)) (by decide +kernel) ⟨Nat.le_of_ble_eq_true rfl, Nat.le_of_ble_eq_true rfl⟩, hts _ (List.mem_of_getElem? (i := 46) rfl), hts _ (List.mem_of_getElem? (i := 47) rfl)⟩ (zpV hP hK hD hN (rX_6 hK hP)) rfl rfl hl.1 rfl (lv_room (Nat.le_of_ble_eq_true rfl)) dX4_count_112 ⟨Nat.zero_le _, Nat.zero_le _⟩) hS (fun H locs hP hD hS => ?_)
                  exact zri hf hQ hP hD hS dX4_count_115
                · have hf := zf h_8 hf
                  by_cases h_9 : x1 = (8 : Int32)
                  · have hf := zt h_9 hf
                    refine lv_tableIn (off := 115) (tgt := 116) hx hb dX4_count_1 (by rw [h_9]; decide) (by rw [h_9]; decide) (by rw [h_9]; rfl) (by decide) ?_
                    refine lv_aload_n hx hb dX4_count_116 rfl (lv_at hl 0 rfl) ?_
                    refine gX4_entries hx hb hts iw4 hown hK hP (List.mem_of_getElem? (i := 1) rfl) dX4_count_117 ?_
                    obtain ⟨y_9, S_9, hg_9, hf⟩ := obnd_some hf
                    refine zci (va_runVN (As := []) (rest := []) hC (tX0_allFresh hg_9) ⟨va_cnB 0 hts gX4_count_X0_allFresh_n201 rfl rfl rfl (hN _ zN39) (hts _ (List.mem_of_getElem? (i := 6) rfl)) (by decide +kernel) ⟨Nat.le_of_ble_eq_true rfl, Nat.le_of_ble_eq_true rfl⟩, hts _ (List.mem_of_getElem? (i := 50) rfl), hts _ (List.mem_of_getElem? (i := 51) rfl)⟩ (zpV hP hK hD hN (rX_6 hK hP)) rfl rfl hl.1 rfl (lv_room (Nat.le_of_ble_eq_true rfl)) dX4_count_120 ⟨Nat.zero_le _, Nat.zero_le _⟩) hS (fun H locs hP hD hS => ?_)
                    exact zri hf hQ hP hD hS dX4_count_123
                  · have hf := zf h_9 hf
                    refine lv_tableOut (tgt := 124) hx hb dX4_count_1 (by have := zne h_1 (n := 0) (by decide); have := zne h_2 (n := 1) (by decide); have := zne h_3 (n := 2) (by decide); have := zne h_4 (n := 3) (by decide); have := zne h_5 (n := 4) (by decide); have := zne h_6 (n := 5) (by decide); have := zne h_7 (n := 6) (by decide); have := zne h_8 (n := 7) (by decide); have := zne h_9 (n := 8) (by decide); omega) (by decide) ?_
                    refine lv_bipush (v := (-102 : Int32)) hx hb dX4_count_124 (by decide) ?_
                    exact zri hf hQ hP hD hS dX4_count_126
theorem tX4_count {S : zS} {x1 : Int32} {r : Int32 × zS} (hf : fX4_count S x1 = some r) : zMi l yX4_count wsX4_count rmX4_count D (zT cI cZ) A (wX a cI) [.ref (a 0), .int x1] S r :=
  zMi_of (by decide) rfl rfl (Nat.le_of_ble_eq_true rfl) (fun hC0 hQ hP hD hS _ hl => kX4_count hC0 hQ hf hP hD hS hl)
abbrev rmX4_mix : Room := { frames := 0, cells := 0, slots := 0, locals := 0 }
set_option maxHeartbeats 4000000 in
set_option maxRecDepth 100000 in
theorem kX4_mix {r : Int64 × zS} (hC0 : zC p m c cX4_mix 3 s args wsX4_mix RX4 D cI cZ) (hQ : zRl p l e rmX4_mix s m args below meth c cX4_mix D A (wX a cI) Q r) {S : zS} {x0 : Int64} {x2 : Int32} (hf : fX4_mix S x0 x2 = some r) {H : Heap} {locs : List Loc} (hP : va_P D vwCl (wX a cI S) H) (hD : va_D A (wX a cI S)) (hS : va_S A s.heap H locs) {ls : Array Slot} (hl : lv_has ls 3 [(0, .long x0), (2, .int x2)]) : W p l e rmX4_mix s m args below meth c H locs 0 0 Q (F0 m 0 ls []) := by
  obtain ⟨hC, hK, hN⟩ := id hC0
  obtain ⟨hx, hb, hml, hown, hts⟩ := id hC
  unfold fX4_mix at hf
  refine lv_ldc2 (v := (31)) hx hb hown (hts (.constantLong RX4 226 (31)) (List.mem_of_getElem? (i := 1) rfl)) dX4_mix_0 ?_
  refine lv_lload_n hx hb dX4_mix_3 rfl (lv_at hl 0 rfl) ?_
  refine lv_lmul hx hb dX4_mix_4 ?_
  refine lv_iload_n hx hb dX4_mix_5 rfl (lv_at hl 1 rfl) ?_
  refine lv_i2l hx hb dX4_mix_6 rfl ?_
  refine lv_ladd hx hb dX4_mix_7 ?_
  exact zrl hf hQ hP hD hS dX4_mix_8
theorem tX4_mix {S : zS} {x0 : Int64} {x2 : Int32} {r : Int64 × zS} (hf : fX4_mix S x0 x2 = some r) : zMl l yX4_mix wsX4_mix rmX4_mix D (zT cI cZ) A (wX a cI) [.long x0, .int x2] S r :=
  zMl_of (by decide) rfl rfl (Nat.le_of_ble_eq_true rfl) (fun hC0 hQ hP hD hS _ hl => kX4_mix hC0 hQ hf hP hD hS hl)
abbrev rmX4_mixEntry : Room := { frames := 4, cells := 0, slots := 0, locals := 86 }
theorem iwX4_mixEntry_4 : ∀ w ∈ wsX40, w ∈ wsX4_mixEntry := fun _ h => List.mem_cons_of_mem _ (List.mem_append_left _ (List.mem_append_left _ (List.mem_append_right _ h)))
theorem iwX4_mixEntry_0 : ∀ w ∈ wsX00, w ∈ wsX4_mixEntry := fun _ h => List.mem_cons_of_mem _ (List.mem_append_left _ (List.mem_append_right _ h))
theorem iwX4_mixEntry_3 : ∀ w ∈ wsX30, w ∈ wsX4_mixEntry := fun _ h => List.mem_cons_of_mem _ (List.mem_append_right _ h)
set_option maxHeartbeats 4000000 in
set_option maxRecDepth 100000 in
theorem kX4_mixEntry_46b {r : Int64 × zS} (hC0 : zC p m c cX4_mixEntry 8 s args wsX4_mixEntry RX4 D cI cZ) (hQ : zRl p l e rmX4_mixEntry s m args below meth c cX4_mixEntry D A (wX a cI) Q r) {F46 : zS → Int32 → Int64 → Int32 → Int32 → Option (Int64 × zS)} (hF46 : ∀ (S : zS) (x3 : Int32) (x4 : Int64) (x6 : Int32) (x7 : Int32), F46 S x3 x4 x6 x7 = some r → ∀ {H : Heap} {locs : List Loc}, va_P D vwCl (wX a cI S) H → va_D A (wX a cI S) → va_S A s.heap H locs → ∀ {ls : Array Slot}, lv_has ls 8 [(0, .ref (a 0)), (3, .int x3), (4, .long x4), (6, .int x6), (7, .int x7)] → W p l e rmX4_mixEntry s m args below meth c H locs 0 0 Q (F0 m 46 ls [])) {S : zS} {x3 : Int32} {x4 : Int64} {x6 : Int32} {x7 : Int32} (hf : bX4_mixEntry_46 F46 S x3 x4 x6 x7 = some r) {H : Heap} {locs : List Loc} (hP : va_P D vwCl (wX a cI S) H) (hD : va_D A (wX a cI S)) (hS : va_S A s.heap H locs) {ls : Array Slot} (hl : lv_has ls 8 [(0, .ref (a 0)), (3, .int x3), (4, .long x4), (6, .int x6), (7, .int x7)]) : W p l e rmX4_mixEntry s m args below meth c H locs 0 0 Q (F0 m 46 ls []) := by
  obtain ⟨hC, hK, hN⟩ := id hC0
  obtain ⟨hx, hb, hml, hown, hts⟩ := id hC
  have iw4 := iwX4_mixEntry_4
  have iw0 := iwX4_mixEntry_0
  have iw3 := iwX4_mixEntry_3
  unfold bX4_mixEntry_46 at hf
  refine lv_iload hx hb dX4_mixEntry_46 (lv_at hl 4 rfl) ?_
  refine lv_iload hx hb dX4_mixEntry_48 (lv_at hl 3 rfl) ?_
  refine lv_icmp_ge (tgt := 73) hx hb dX4_mixEntry_50 (by decide) (fun h_1 => ?_) (fun h_1 => ?_)
  · have hf := zt h_1 hf
    refine lv_lload hx hb dX4_mixEntry_73 (lv_at hl 2 rfl) ?_
    exact zrl hf hQ hP hD hS dX4_mixEntry_75
  · have hf := zf h_1 hf
    refine lv_lload hx hb dX4_mixEntry_53 (lv_at hl 2 rfl) ?_
    refine lv_aload_n hx hb dX4_mixEntry_55 rfl (lv_at hl 0 rfl) ?_
    refine lv_iload_n hx hb dX4_mixEntry_56 rfl (lv_at hl 1 rfl) ?_
    refine lv_iload hx hb dX4_mixEntry_57 (lv_at hl 4 rfl) ?_
    obtain ⟨y_1, S_1, hg_1, hf⟩ := obnd_some hf
    refine zci (va_runV (As := [.int x3, .int x7]) (rest := [.long x4]) hC (tX4_held hg_1) (cwV 2 hts gX4_mixEntry_X4_held rfl rfl rfl (by decide +kernel) ⟨Nat.le_of_ble_eq_true rfl, Nat.le_of_ble_eq_true rfl⟩) (zpV hP hK hD hN (rX_0 hK hP)) rfl rfl hl.1 rfl (lv_room (Nat.le_of_ble_eq_true rfl)) dX4_mixEntry_59 ⟨Nat.zero_le _, Nat.zero_le _⟩) hS (fun H locs hP hD hS => ?_)
    obtain ⟨y_2, S_2, hg_2, hf⟩ := obnd_some hf
    refine zcl (va_runS (As := [.long x4, .int y_1]) (rest := []) hC (tX4_mix hg_2) (va_cwS 2 hts gX4_mixEntry_X4_mix rfl rfl rfl (by decide +kernel) ⟨Nat.le_of_ble_eq_true rfl, Nat.le_of_ble_eq_true rfl⟩) (zpS hP hK hD hN) rfl rfl hl.1 rfl (lv_room (Nat.le_of_ble_eq_true rfl)) dX4_mixEntry_62 ⟨Nat.zero_le _, Nat.zero_le _⟩) hS (fun H locs hP hD hS => ?_)
    refine z_lstore hf hx hb (fun y => [(4, .long y), (0, .ref (a 0)), (3, .int x3), (6, .int x6), (7, .int x7)]) dX4_mixEntry_65 hl (by decide) (fun _ => rfl) (fun y_3 ls hf hl => ?_)
    refine z_iinc hf hx hb 4 (fun y => [(7, .int y), (4, .long y_3), (0, .ref (a 0)), (3, .int x3), (6, .int x6)]) dX4_mixEntry_67 hl rfl (by decide) (by decide) (fun _ => rfl) (fun y_4 ls hf hl => ?_)
    refine lv_goto (tgt := 46) hx hb dX4_mixEntry_70 (by decide) ?_
    exact hF46 _ _ _ _ _ hf hP hD hS (lv_sub hl [2, 3, 1, 4, 0] rfl)
theorem kX4_mixEntry_46 {r : Int64 × zS} (hC0 : zC p m c cX4_mixEntry 8 s args wsX4_mixEntry RX4 D cI cZ) (hQ : zRl p l e rmX4_mixEntry s m args below meth c cX4_mixEntry D A (wX a cI) Q r) (n : Nat) : ∀ (S : zS) (x3 : Int32) (x4 : Int64) (x6 : Int32) (x7 : Int32), fX4_mixEntry_46 n S x3 x4 x6 x7 = some r → ∀ {H : Heap} {locs : List Loc}, va_P D vwCl (wX a cI S) H → va_D A (wX a cI S) → va_S A s.heap H locs → ∀ {ls : Array Slot}, lv_has ls 8 [(0, .ref (a 0)), (3, .int x3), (4, .long x4), (6, .int x6), (7, .int x7)] → W p l e rmX4_mixEntry s m args below meth c H locs 0 0 Q (F0 m 46 ls []) := by
  induction n with
  | zero => intro S x3 x4 x6 x7 hf; cases hf
  | succ n ih => intro S x3 x4 x6 x7 hf; exact kX4_mixEntry_46b hC0 hQ ih hf
set_option maxHeartbeats 4000000 in
set_option maxRecDepth 100000 in
theorem kX4_mixEntry_6b {r : Int64 × zS} (hC0 : zC p m c cX4_mixEntry 8 s args wsX4_mixEntry RX4 D cI cZ) (hQ : zRl p l e rmX4_mixEntry s m args below meth c cX4_mixEntry D A (wX a cI) Q r) {F6 : zS → Int32 → Int64 → Int32 → Option (Int64 × zS)} (hF6 : ∀ (S : zS) (x3 : Int32) (x4 : Int64) (x6 : Int32), F6 S x3 x4 x6 = some r → ∀ {H : Heap} {locs : List Loc}, va_P D vwCl (wX a cI S) H → va_D A (wX a cI S) → va_S A s.heap H locs → ∀ {ls : Array Slot}, lv_has ls 8 [(0, .ref (a 0)), (3, .int x3), (4, .long x4), (6, .int x6)] → W p l e rmX4_mixEntry s m args below meth c H locs 0 0 Q (F0 m 6 ls [])) {S : zS} {x3 : Int32} {x4 : Int64} {x6 : Int32} (hf : bX4_mixEntry_6 F6 S x3 x4 x6 = some r) {H : Heap} {locs : List Loc} (hP : va_P D vwCl (wX a cI S) H) (hD : va_D A (wX a cI S)) (hS : va_S A s.heap H locs) {ls : Array Slot} (hl : lv_has ls 8 [(0, .ref (a 0)), (3, .int x3), (4, .long x4), (6, .int x6)]) : W p l e rmX4_mixEntry s m args below meth c H locs 0 0 Q (F0 m 6 ls []) := by
  obtain ⟨hC, hK, hN⟩ := id hC0
  obtain ⟨hx, hb, hml, hown, hts⟩ := id hC
  have iw4 := iwX4_mixEntry_4
  have iw0 := iwX4_mixEntry_0
  have iw3 := iwX4_mixEntry_3
  unfold bX4_mixEntry_6 at hf
  refine lv_iload hx hb dX4_mixEntry_6 (lv_at hl 3 rfl) ?_
  refine lv_bipush (v := (8 : Int32)) hx hb dX4_mixEntry_8 (by decide) ?_
  refine lv_icmp_ge (tgt := 33) hx hb dX4_mixEntry_10 (by decide) (fun h_1 => ?_) (fun h_1 => ?_)
  · have hf := zt h_1 hf
    refine lv_aload_n hx hb dX4_mixEntry_33 rfl (lv_at hl 0 rfl) ?_
    refine gX4_entries hx hb hts iw4 hown hK hP (List.mem_of_getElem? (i := 1) rfl) dX4_mixEntry_34 ?_
    refine lv_iload_n hx hb dX4_mixEntry_37 rfl (lv_at hl 1 rfl) ?_
    obtain ⟨y_1, S_1, hg_1, hf⟩ := obnd_some hf
    refine zci (va_runVN (As := [.int x3]) (rest := []) hC (tX0_waitingAt hg_1) ⟨va_cnB 1 hts gX4_mixEntry_X0_waitingAt_n234 rfl rfl rfl (hN _ zN40) (hts _ (List.mem_of_getElem? (i := 9) rfl)) (by decide +kernel) ⟨Nat.le_of_ble_eq_true rfl, Nat.le_of_ble_eq_true rfl⟩, hts _ (List.mem_of_getElem? (i := 39) rfl), hts _ (List.mem_of_getElem? (i := 40) rfl)⟩ (zpV hP hK hD hN (rX_6 hK hP)) rfl rfl hl.1 rfl (lv_room (Nat.le_of_ble_eq_true rfl)) dX4_mixEntry_38 ⟨Nat.zero_le _, Nat.zero_le _⟩) hS (fun H locs hP hD hS => ?_)
    refine z_istore hf hx hb (fun y => [(6, .int y), (0, .ref (a 0)), (3, .int x3), (4, .long x4)]) dX4_mixEntry_41 hl (by decide) (fun _ => rfl) (fun y_2 ls hf hl => ?_)
    refine lv_iconst (v := (0 : Int32)) hx hb dX4_mixEntry_43 (by decide) ?_
    refine z_istore hf hx hb (fun y => [(7, .int y), (6, .int y_2), (0, .ref (a 0)), (3, .int x3), (4, .long x4)]) dX4_mixEntry_44 hl (by decide) (fun _ => rfl) (fun y_3 ls hf hl => ?_)
    exact kX4_mixEntry_46 hC0 hQ 64 _ _ _ _ _ hf hP hD hS (lv_sub hl [2, 3, 4, 1, 0] rfl)
  · have hf := zf h_1 hf
    refine lv_lload hx hb dX4_mixEntry_13 (lv_at hl 2 rfl) ?_
    refine lv_aload_n hx hb dX4_mixEntry_15 rfl (lv_at hl 0 rfl) ?_
    refine lv_iload_n hx hb dX4_mixEntry_16 rfl (lv_at hl 1 rfl) ?_
    refine lv_iload hx hb dX4_mixEntry_17 (lv_at hl 3 rfl) ?_
    obtain ⟨y_4, S_2, hg_2, hf⟩ := obnd_some hf
    refine zci (va_runV (As := [.int x3, .int x6]) (rest := [.long x4]) hC (tX4_entry hg_2) (cwV 2 hts gX4_mixEntry_X4_entry rfl rfl rfl (by decide +kernel) ⟨Nat.le_of_ble_eq_true rfl, Nat.le_of_ble_eq_true rfl⟩) (zpV hP hK hD hN (rX_0 hK hP)) rfl rfl hl.1 rfl (lv_room (Nat.le_of_ble_eq_true rfl)) dX4_mixEntry_19 ⟨Nat.zero_le _, Nat.zero_le _⟩) hS (fun H locs hP hD hS => ?_)
    obtain ⟨y_5, S_3, hg_3, hf⟩ := obnd_some hf
    refine zcl (va_runS (As := [.long x4, .int y_4]) (rest := []) hC (tX4_mix hg_3) (va_cwS 2 hts gX4_mixEntry_X4_mix rfl rfl rfl (by decide +kernel) ⟨Nat.le_of_ble_eq_true rfl, Nat.le_of_ble_eq_true rfl⟩) (zpS hP hK hD hN) rfl rfl hl.1 rfl (lv_room (Nat.le_of_ble_eq_true rfl)) dX4_mixEntry_22 ⟨Nat.zero_le _, Nat.zero_le _⟩) hS (fun H locs hP hD hS => ?_)
    refine z_lstore hf hx hb (fun y => [(4, .long y), (0, .ref (a 0)), (3, .int x3), (6, .int x6)]) dX4_mixEntry_25 hl (by decide) (fun _ => rfl) (fun y_6 ls hf hl => ?_)
    refine z_iinc hf hx hb 3 (fun y => [(6, .int y), (4, .long y_6), (0, .ref (a 0)), (3, .int x3)]) dX4_mixEntry_27 hl rfl (by decide) (by decide) (fun _ => rfl) (fun y_7 ls hf hl => ?_)
    refine lv_goto (tgt := 6) hx hb dX4_mixEntry_30 (by decide) ?_
    exact hF6 _ _ _ _ hf hP hD hS (lv_sub hl [2, 3, 1, 0] rfl)
theorem kX4_mixEntry_6 {r : Int64 × zS} (hC0 : zC p m c cX4_mixEntry 8 s args wsX4_mixEntry RX4 D cI cZ) (hQ : zRl p l e rmX4_mixEntry s m args below meth c cX4_mixEntry D A (wX a cI) Q r) (n : Nat) : ∀ (S : zS) (x3 : Int32) (x4 : Int64) (x6 : Int32), fX4_mixEntry_6 n S x3 x4 x6 = some r → ∀ {H : Heap} {locs : List Loc}, va_P D vwCl (wX a cI S) H → va_D A (wX a cI S) → va_S A s.heap H locs → ∀ {ls : Array Slot}, lv_has ls 8 [(0, .ref (a 0)), (3, .int x3), (4, .long x4), (6, .int x6)] → W p l e rmX4_mixEntry s m args below meth c H locs 0 0 Q (F0 m 6 ls []) := by
  induction n with
  | zero => intro S x3 x4 x6 hf; cases hf
  | succ n ih => intro S x3 x4 x6 hf; exact kX4_mixEntry_6b hC0 hQ ih hf
set_option maxHeartbeats 4000000 in
set_option maxRecDepth 100000 in
theorem kX4_mixEntry {r : Int64 × zS} (hC0 : zC p m c cX4_mixEntry 8 s args wsX4_mixEntry RX4 D cI cZ) (hQ : zRl p l e rmX4_mixEntry s m args below meth c cX4_mixEntry D A (wX a cI) Q r) {S : zS} {x1 : Int64} {x3 : Int32} (hf : fX4_mixEntry S x1 x3 = some r) {H : Heap} {locs : List Loc} (hP : va_P D vwCl (wX a cI S) H) (hD : va_D A (wX a cI S)) (hS : va_S A s.heap H locs) {ls : Array Slot} (hl : lv_has ls 8 [(0, .ref (a 0)), (1, .long x1), (3, .int x3)]) : W p l e rmX4_mixEntry s m args below meth c H locs 0 0 Q (F0 m 0 ls []) := by
  obtain ⟨hC, hK, hN⟩ := id hC0
  obtain ⟨hx, hb, hml, hown, hts⟩ := id hC
  have iw4 := iwX4_mixEntry_4
  have iw0 := iwX4_mixEntry_0
  have iw3 := iwX4_mixEntry_3
  unfold fX4_mixEntry at hf
  refine lv_lload_n hx hb dX4_mixEntry_0 rfl (lv_at hl 1 rfl) ?_
  refine z_lstore hf hx hb (fun y => [(4, .long y), (0, .ref (a 0)), (1, .long x1), (3, .int x3)]) dX4_mixEntry_1 hl (by decide) (fun _ => rfl) (fun y_1 ls hf hl => ?_)
  refine lv_iconst (v := (0 : Int32)) hx hb dX4_mixEntry_3 (by decide) ?_
  refine z_istore hf hx hb (fun y => [(6, .int y), (4, .long y_1), (0, .ref (a 0)), (1, .long x1), (3, .int x3)]) dX4_mixEntry_4 hl (by decide) (fun _ => rfl) (fun y_2 ls hf hl => ?_)
  exact kX4_mixEntry_6 hC0 hQ 64 _ _ _ _ hf hP hD hS (lv_sub hl [2, 4, 1, 0] rfl)
theorem tX4_mixEntry {S : zS} {x1 : Int64} {x3 : Int32} {r : Int64 × zS} (hf : fX4_mixEntry S x1 x3 = some r) : zMl l yX4_mixEntry wsX4_mixEntry rmX4_mixEntry D (zT cI cZ) A (wX a cI) [.ref (a 0), .long x1, .int x3] S r :=
  zMl_of (by decide) rfl rfl (Nat.le_of_ble_eq_true rfl) (fun hC0 hQ hP hD hS _ hl => kX4_mixEntry hC0 hQ hf hP hD hS hl)
abbrev rmX4_mixEntries : Room := { frames := 5, cells := 0, slots := 0, locals := 113 }
theorem iwX4_mixEntries_4 : ∀ w ∈ wsX40, w ∈ wsX4_mixEntries := fun _ h => List.mem_cons_of_mem _ (List.mem_append_left _ (List.mem_append_left _ (List.mem_append_right _ h)))
theorem iwX4_mixEntries_0 : ∀ w ∈ wsX00, w ∈ wsX4_mixEntries := fun _ h => List.mem_cons_of_mem _ (List.mem_append_left _ (List.mem_append_right _ h))
theorem iwX4_mixEntries_3 : ∀ w ∈ wsX30, w ∈ wsX4_mixEntries := fun _ h => List.mem_cons_of_mem _ (List.mem_append_right _ h)
set_option maxHeartbeats 4000000 in
set_option maxRecDepth 100000 in
theorem kX4_mixEntries_39 {r : Int64 × zS} (hC0 : zC p m c cX4_mixEntries 6 s args wsX4_mixEntries RX4 D cI cZ) (hQ : zRl p l e rmX4_mixEntries s m args below meth c cX4_mixEntries D A (wX a cI) Q r) {F5 : zS → Int64 → Int32 → Option (Int64 × zS)} (hF5 : ∀ (S : zS) (x3 : Int64) (x5 : Int32), F5 S x3 x5 = some r → ∀ {H : Heap} {locs : List Loc}, va_P D vwCl (wX a cI S) H → va_D A (wX a cI S) → va_S A s.heap H locs → ∀ {ls : Array Slot}, lv_has ls 6 [(0, .ref (a 0)), (3, .long x3), (5, .int x5)] → W p l e rmX4_mixEntries s m args below meth c H locs 0 0 Q (F0 m 5 ls [])) {S : zS} {x5 : Int32} {t0 : Int64} (hf : fX4_mixEntries_39 F5 S x5 t0 = some r) {H : Heap} {locs : List Loc} (hP : va_P D vwCl (wX a cI S) H) (hD : va_D A (wX a cI S)) (hS : va_S A s.heap H locs) {ls : Array Slot} (hl : lv_has ls 6 [(0, .ref (a 0)), (5, .int x5)]) : W p l e rmX4_mixEntries s m args below meth c H locs 0 0 Q (F0 m 39 ls [.long t0]) := by
  obtain ⟨hC, hK, hN⟩ := id hC0
  obtain ⟨hx, hb, hml, hown, hts⟩ := id hC
  have iw4 := iwX4_mixEntries_4
  have iw0 := iwX4_mixEntries_0
  have iw3 := iwX4_mixEntries_3
  unfold fX4_mixEntries_39 at hf
  refine z_lstore_n hf hx hb (fun y => [(3, .long y), (0, .ref (a 0)), (5, .int x5)]) dX4_mixEntries_39 rfl hl (by decide) (fun _ => rfl) (fun y_1 ls hf hl => ?_)
  refine z_iinc hf hx hb 2 (fun y => [(5, .int y), (3, .long y_1), (0, .ref (a 0))]) dX4_mixEntries_40 hl rfl (by decide) (by decide) (fun _ => rfl) (fun y_2 ls hf hl => ?_)
  refine lv_goto (tgt := 5) hx hb dX4_mixEntries_43 (by decide) ?_
  exact hF5 _ _ _ hf hP hD hS (lv_sub hl [2, 1, 0] rfl)
set_option maxHeartbeats 4000000 in
set_option maxRecDepth 100000 in
theorem kX4_mixEntries_5b {r : Int64 × zS} (hC0 : zC p m c cX4_mixEntries 6 s args wsX4_mixEntries RX4 D cI cZ) (hQ : zRl p l e rmX4_mixEntries s m args below meth c cX4_mixEntries D A (wX a cI) Q r) {F5 : zS → Int64 → Int32 → Option (Int64 × zS)} (hF5 : ∀ (S : zS) (x3 : Int64) (x5 : Int32), F5 S x3 x5 = some r → ∀ {H : Heap} {locs : List Loc}, va_P D vwCl (wX a cI S) H → va_D A (wX a cI S) → va_S A s.heap H locs → ∀ {ls : Array Slot}, lv_has ls 6 [(0, .ref (a 0)), (3, .long x3), (5, .int x5)] → W p l e rmX4_mixEntries s m args below meth c H locs 0 0 Q (F0 m 5 ls [])) {S : zS} {x3 : Int64} {x5 : Int32} (hf : bX4_mixEntries_5 F5 S x3 x5 = some r) {H : Heap} {locs : List Loc} (hP : va_P D vwCl (wX a cI S) H) (hD : va_D A (wX a cI S)) (hS : va_S A s.heap H locs) {ls : Array Slot} (hl : lv_has ls 6 [(0, .ref (a 0)), (3, .long x3), (5, .int x5)]) : W p l e rmX4_mixEntries s m args below meth c H locs 0 0 Q (F0 m 5 ls []) := by
  obtain ⟨hC, hK, hN⟩ := id hC0
  obtain ⟨hx, hb, hml, hown, hts⟩ := id hC
  have iw4 := iwX4_mixEntries_4
  have iw0 := iwX4_mixEntries_0
  have iw3 := iwX4_mixEntries_3
  unfold bX4_mixEntries_5 at hf
  refine lv_iload hx hb dX4_mixEntries_5 (lv_at hl 2 rfl) ?_
  refine lv_bipush (v := (16 : Int32)) hx hb dX4_mixEntries_7 (by decide) ?_
  refine lv_icmp_ge (tgt := 46) hx hb dX4_mixEntries_9 (by decide) (fun h_1 => ?_) (fun h_1 => ?_)
  · have hf := zt h_1 hf
    refine lv_lload_n hx hb dX4_mixEntries_46 rfl (lv_at hl 1 rfl) ?_
    exact zrl hf hQ hP hD hS dX4_mixEntries_47
  · have hf := zf h_1 hf
    refine lv_aload_n hx hb dX4_mixEntries_12 rfl (lv_at hl 0 rfl) ?_
    refine gX4_entries hx hb hts iw4 hown hK hP (List.mem_of_getElem? (i := 1) rfl) dX4_mixEntries_13 ?_
    refine lv_iload hx hb dX4_mixEntries_16 (lv_at hl 2 rfl) ?_
    obtain ⟨y_1, S_1, hg_1, hf⟩ := obnd_some hf
    refine zci (va_runVN (As := [.int x5]) (rest := []) hC (tX0_has hg_1) ⟨va_cnB 1 hts gX4_mixEntries_X0_has_n115 rfl rfl rfl (hN _ zN15) (hts _ (List.mem_of_getElem? (i := 3) rfl)) (by decide +kernel) ⟨Nat.le_of_ble_eq_true rfl, Nat.le_of_ble_eq_true rfl⟩, hts _ (List.mem_of_getElem? (i := 2) rfl), hts _ (List.mem_of_getElem? (i := 4) rfl)⟩ (zpV hP hK hD hN (rX_6 hK hP)) rfl rfl hl.1 rfl (lv_room (Nat.le_of_ble_eq_true rfl)) dX4_mixEntries_18 ⟨Nat.zero_le _, Nat.zero_le _⟩) hS (fun H locs hP hD hS => ?_)
    refine lv_if_eq (tgt := 34) hx hb dX4_mixEntries_21 (by decide) (fun h_2 => ?_) (fun h_2 => ?_)
    · have hf := zt h_2 hf
      refine lv_lload_n hx hb dX4_mixEntries_34 rfl (lv_at hl 1 rfl) ?_
      refine lv_iconst (v := (-1 : Int32)) hx hb dX4_mixEntries_35 (by decide) ?_
      obtain ⟨y_2, S_2, hg_2, hf⟩ := obnd_some hf
      refine zcl (va_runS (As := [.long x3, .int (-1 : Int32)]) (rest := []) hC (tX4_mix hg_2) (va_cwS 2 hts gX4_mixEntries_X4_mix rfl rfl rfl (by decide +kernel) ⟨Nat.le_of_ble_eq_true rfl, Nat.le_of_ble_eq_true rfl⟩) (zpS hP hK hD hN) rfl rfl hl.1 rfl (lv_room (Nat.le_of_ble_eq_true rfl)) dX4_mixEntries_36 ⟨Nat.zero_le _, Nat.zero_le _⟩) hS (fun H locs hP hD hS => ?_)
      exact kX4_mixEntries_39 hC0 hQ hF5 hf hP hD hS (lv_sub hl [0, 2] rfl)
    · have hf := zf h_2 hf
      refine lv_aload_n hx hb dX4_mixEntries_24 rfl (lv_at hl 0 rfl) ?_
      refine lv_lload_n hx hb dX4_mixEntries_25 rfl (lv_at hl 1 rfl) ?_
      refine lv_iload hx hb dX4_mixEntries_26 (lv_at hl 2 rfl) ?_
      obtain ⟨y_3, S_3, hg_3, hf⟩ := obnd_some hf
      refine zcl (va_runV (As := [.long x3, .int x5]) (rest := []) hC (tX4_mixEntry hg_3) (cwV 2 hts gX4_mixEntries_X4_mixEntry rfl rfl rfl (by decide +kernel) ⟨Nat.le_of_ble_eq_true rfl, Nat.le_of_ble_eq_true rfl⟩) (zpV hP hK hD hN (rX_0 hK hP)) rfl rfl hl.1 rfl (lv_room (Nat.le_of_ble_eq_true rfl)) dX4_mixEntries_28 ⟨Nat.zero_le _, Nat.zero_le _⟩) hS (fun H locs hP hD hS => ?_)
      refine lv_goto (tgt := 39) hx hb dX4_mixEntries_31 (by decide) ?_
      exact kX4_mixEntries_39 hC0 hQ hF5 hf hP hD hS (lv_sub hl [0, 2] rfl)
theorem kX4_mixEntries_5 {r : Int64 × zS} (hC0 : zC p m c cX4_mixEntries 6 s args wsX4_mixEntries RX4 D cI cZ) (hQ : zRl p l e rmX4_mixEntries s m args below meth c cX4_mixEntries D A (wX a cI) Q r) (n : Nat) : ∀ (S : zS) (x3 : Int64) (x5 : Int32), fX4_mixEntries_5 n S x3 x5 = some r → ∀ {H : Heap} {locs : List Loc}, va_P D vwCl (wX a cI S) H → va_D A (wX a cI S) → va_S A s.heap H locs → ∀ {ls : Array Slot}, lv_has ls 6 [(0, .ref (a 0)), (3, .long x3), (5, .int x5)] → W p l e rmX4_mixEntries s m args below meth c H locs 0 0 Q (F0 m 5 ls []) := by
  induction n with
  | zero => intro S x3 x5 hf; cases hf
  | succ n ih => intro S x3 x5 hf; exact kX4_mixEntries_5b hC0 hQ ih hf
set_option maxHeartbeats 4000000 in
set_option maxRecDepth 100000 in
theorem kX4_mixEntries {r : Int64 × zS} (hC0 : zC p m c cX4_mixEntries 6 s args wsX4_mixEntries RX4 D cI cZ) (hQ : zRl p l e rmX4_mixEntries s m args below meth c cX4_mixEntries D A (wX a cI) Q r) {S : zS} {x1 : Int64} (hf : fX4_mixEntries S x1 = some r) {H : Heap} {locs : List Loc} (hP : va_P D vwCl (wX a cI S) H) (hD : va_D A (wX a cI S)) (hS : va_S A s.heap H locs) {ls : Array Slot} (hl : lv_has ls 6 [(0, .ref (a 0)), (1, .long x1)]) : W p l e rmX4_mixEntries s m args below meth c H locs 0 0 Q (F0 m 0 ls []) := by
  obtain ⟨hC, hK, hN⟩ := id hC0
  obtain ⟨hx, hb, hml, hown, hts⟩ := id hC
  have iw4 := iwX4_mixEntries_4
  have iw0 := iwX4_mixEntries_0
  have iw3 := iwX4_mixEntries_3
  unfold fX4_mixEntries at hf
  refine lv_lload_n hx hb dX4_mixEntries_0 rfl (lv_at hl 1 rfl) ?_
  refine z_lstore_n hf hx hb (fun y => [(3, .long y), (0, .ref (a 0)), (1, .long x1)]) dX4_mixEntries_1 rfl hl (by decide) (fun _ => rfl) (fun y_1 ls hf hl => ?_)
  refine lv_iconst (v := (0 : Int32)) hx hb dX4_mixEntries_2 (by decide) ?_
  refine z_istore hf hx hb (fun y => [(5, .int y), (3, .long y_1), (0, .ref (a 0)), (1, .long x1)]) dX4_mixEntries_3 hl (by decide) (fun _ => rfl) (fun y_2 ls hf hl => ?_)
  exact kX4_mixEntries_5 hC0 hQ 64 _ _ _ hf hP hD hS (lv_sub hl [2, 1, 0] rfl)
theorem tX4_mixEntries {S : zS} {x1 : Int64} {r : Int64 × zS} (hf : fX4_mixEntries S x1 = some r) : zMl l yX4_mixEntries wsX4_mixEntries rmX4_mixEntries D (zT cI cZ) A (wX a cI) [.ref (a 0), .long x1] S r :=
  zMl_of (by decide) rfl rfl (Nat.le_of_ble_eq_true rfl) (fun hC0 hQ hP hD hS _ hl => kX4_mixEntries hC0 hQ hf hP hD hS hl)
abbrev rmX4_mixRouters : Room := { frames := 4, cells := 0, slots := 0, locals := 93 }
theorem iwX4_mixRouters_4 : ∀ w ∈ wsX40, w ∈ wsX4_mixRouters := fun _ h => List.mem_cons_of_mem _ (List.mem_append_left _ (List.mem_append_left _ (List.mem_append_right _ h)))
theorem iwX4_mixRouters_3 : ∀ w ∈ wsX30, w ∈ wsX4_mixRouters := fun _ h => List.mem_cons_of_mem _ (List.mem_append_left _ (List.mem_append_right _ h))
theorem iwX4_mixRouters_0 : ∀ w ∈ wsX00, w ∈ wsX4_mixRouters := fun _ h => List.mem_cons_of_mem _ (List.mem_append_right _ h)
set_option maxHeartbeats 4000000 in
set_option maxRecDepth 100000 in
theorem kX4_mixRouters_24b {r : Int64 × zS} (hC0 : zC p m c cX4_mixRouters 8 s args wsX4_mixRouters RX4 D cI cZ) (hQ : zRl p l e rmX4_mixRouters s m args below meth c cX4_mixRouters D A (wX a cI) Q r) {F14 : zS → Int64 → Int32 → Int32 → Option (Int64 × zS)} (hF14 : ∀ (S : zS) (x3 : Int64) (x5 : Int32) (x6 : Int32), F14 S x3 x5 x6 = some r → ∀ {H : Heap} {locs : List Loc}, va_P D vwCl (wX a cI S) H → va_D A (wX a cI S) → va_S A s.heap H locs → ∀ {ls : Array Slot}, lv_has ls 8 [(0, .ref (a 0)), (3, .long x3), (5, .int x5), (6, .int x6)] → W p l e rmX4_mixRouters s m args below meth c H locs 0 0 Q (F0 m 14 ls [])) {F24 : zS → Int64 → Int32 → Int32 → Int32 → Option (Int64 × zS)} (hF24 : ∀ (S : zS) (x3 : Int64) (x5 : Int32) (x6 : Int32) (x7 : Int32), F24 S x3 x5 x6 x7 = some r → ∀ {H : Heap} {locs : List Loc}, va_P D vwCl (wX a cI S) H → va_D A (wX a cI S) → va_S A s.heap H locs → ∀ {ls : Array Slot}, lv_has ls 8 [(0, .ref (a 0)), (3, .long x3), (5, .int x5), (6, .int x6), (7, .int x7)] → W p l e rmX4_mixRouters s m args below meth c H locs 0 0 Q (F0 m 24 ls [])) {S : zS} {x3 : Int64} {x5 : Int32} {x6 : Int32} {x7 : Int32} (hf : bX4_mixRouters_24 F14 F24 S x3 x5 x6 x7 = some r) {H : Heap} {locs : List Loc} (hP : va_P D vwCl (wX a cI S) H) (hD : va_D A (wX a cI S)) (hS : va_S A s.heap H locs) {ls : Array Slot} (hl : lv_has ls 8 [(0, .ref (a 0)), (3, .long x3), (5, .int x5), (6, .int x6), (7, .int x7)]) : W p l e rmX4_mixRouters s m args below meth c H locs 0 0 Q (F0 m 24 ls []) := by
  obtain ⟨hC, hK, hN⟩ := id hC0
  obtain ⟨hx, hb, hml, hown, hts⟩ := id hC
  have iw4 := iwX4_mixRouters_4
  have iw3 := iwX4_mixRouters_3
  have iw0 := iwX4_mixRouters_0
  unfold bX4_mixRouters_24 at hf
  refine lv_iload hx hb dX4_mixRouters_24 (lv_at hl 4 rfl) ?_
  refine lv_iconst (v := (4 : Int32)) hx hb dX4_mixRouters_26 (by decide) ?_
  refine lv_icmp_ge (tgt := 49) hx hb dX4_mixRouters_27 (by decide) (fun h_1 => ?_) (fun h_1 => ?_)
  · have hf := zt h_1 hf
    refine z_iinc hf hx hb 3 (fun y => [(6, .int y), (0, .ref (a 0)), (3, .long x3), (5, .int x5), (7, .int x7)]) dX4_mixRouters_49 hl rfl (by decide) (by decide) (fun _ => rfl) (fun y_1 ls hf hl => ?_)
    refine lv_goto (tgt := 14) hx hb dX4_mixRouters_52 (by decide) ?_
    exact hF14 _ _ _ _ hf hP hD hS (lv_sub hl [1, 2, 3, 0] rfl)
  · have hf := zf h_1 hf
    refine lv_lload_n hx hb dX4_mixRouters_30 rfl (lv_at hl 1 rfl) ?_
    refine lv_aload_n hx hb dX4_mixRouters_31 rfl (lv_at hl 0 rfl) ?_
    refine lv_iload hx hb dX4_mixRouters_32 (lv_at hl 3 rfl) ?_
    refine lv_iload hx hb dX4_mixRouters_34 (lv_at hl 4 rfl) ?_
    obtain ⟨y_2, S_1, hg_1, hf⟩ := obnd_some hf
    refine zci (va_runV (As := [.int x6, .int x7]) (rest := [.long x3]) hC (tX4_router hg_1) (cwV 2 hts gX4_mixRouters_X4_router rfl rfl rfl (by decide +kernel) ⟨Nat.le_of_ble_eq_true rfl, Nat.le_of_ble_eq_true rfl⟩) (zpV hP hK hD hN (rX_0 hK hP)) rfl rfl hl.1 rfl (lv_room (Nat.le_of_ble_eq_true rfl)) dX4_mixRouters_36 ⟨Nat.zero_le _, Nat.zero_le _⟩) hS (fun H locs hP hD hS => ?_)
    obtain ⟨y_3, S_2, hg_2, hf⟩ := obnd_some hf
    refine zcl (va_runS (As := [.long x3, .int y_2]) (rest := []) hC (tX4_mix hg_2) (va_cwS 2 hts gX4_mixRouters_X4_mix rfl rfl rfl (by decide +kernel) ⟨Nat.le_of_ble_eq_true rfl, Nat.le_of_ble_eq_true rfl⟩) (zpS hP hK hD hN) rfl rfl hl.1 rfl (lv_room (Nat.le_of_ble_eq_true rfl)) dX4_mixRouters_39 ⟨Nat.zero_le _, Nat.zero_le _⟩) hS (fun H locs hP hD hS => ?_)
    refine z_lstore_n hf hx hb (fun y => [(3, .long y), (0, .ref (a 0)), (5, .int x5), (6, .int x6), (7, .int x7)]) dX4_mixRouters_42 rfl hl (by decide) (fun _ => rfl) (fun y_4 ls hf hl => ?_)
    refine z_iinc hf hx hb 4 (fun y => [(7, .int y), (3, .long y_4), (0, .ref (a 0)), (5, .int x5), (6, .int x6)]) dX4_mixRouters_43 hl rfl (by decide) (by decide) (fun _ => rfl) (fun y_5 ls hf hl => ?_)
    refine lv_goto (tgt := 24) hx hb dX4_mixRouters_46 (by decide) ?_
    exact hF24 _ _ _ _ _ hf hP hD hS (lv_sub hl [2, 1, 3, 4, 0] rfl)
theorem kX4_mixRouters_24 {r : Int64 × zS} (hC0 : zC p m c cX4_mixRouters 8 s args wsX4_mixRouters RX4 D cI cZ) (hQ : zRl p l e rmX4_mixRouters s m args below meth c cX4_mixRouters D A (wX a cI) Q r) {F14 : zS → Int64 → Int32 → Int32 → Option (Int64 × zS)} (hF14 : ∀ (S : zS) (x3 : Int64) (x5 : Int32) (x6 : Int32), F14 S x3 x5 x6 = some r → ∀ {H : Heap} {locs : List Loc}, va_P D vwCl (wX a cI S) H → va_D A (wX a cI S) → va_S A s.heap H locs → ∀ {ls : Array Slot}, lv_has ls 8 [(0, .ref (a 0)), (3, .long x3), (5, .int x5), (6, .int x6)] → W p l e rmX4_mixRouters s m args below meth c H locs 0 0 Q (F0 m 14 ls [])) (n : Nat) : ∀ (S : zS) (x3 : Int64) (x5 : Int32) (x6 : Int32) (x7 : Int32), fX4_mixRouters_24 F14 n S x3 x5 x6 x7 = some r → ∀ {H : Heap} {locs : List Loc}, va_P D vwCl (wX a cI S) H → va_D A (wX a cI S) → va_S A s.heap H locs → ∀ {ls : Array Slot}, lv_has ls 8 [(0, .ref (a 0)), (3, .long x3), (5, .int x5), (6, .int x6), (7, .int x7)] → W p l e rmX4_mixRouters s m args below meth c H locs 0 0 Q (F0 m 24 ls []) := by
  induction n with
  | zero => intro S x3 x5 x6 x7 hf; cases hf
  | succ n ih => intro S x3 x5 x6 x7 hf; exact kX4_mixRouters_24b hC0 hQ hF14 ih hf
set_option maxHeartbeats 4000000 in
set_option maxRecDepth 100000 in
theorem kX4_mixRouters_14b {r : Int64 × zS} (hC0 : zC p m c cX4_mixRouters 8 s args wsX4_mixRouters RX4 D cI cZ) (hQ : zRl p l e rmX4_mixRouters s m args below meth c cX4_mixRouters D A (wX a cI) Q r) {F14 : zS → Int64 → Int32 → Int32 → Option (Int64 × zS)} (hF14 : ∀ (S : zS) (x3 : Int64) (x5 : Int32) (x6 : Int32), F14 S x3 x5 x6 = some r → ∀ {H : Heap} {locs : List Loc}, va_P D vwCl (wX a cI S) H → va_D A (wX a cI S) → va_S A s.heap H locs → ∀ {ls : Array Slot}, lv_has ls 8 [(0, .ref (a 0)), (3, .long x3), (5, .int x5), (6, .int x6)] → W p l e rmX4_mixRouters s m args below meth c H locs 0 0 Q (F0 m 14 ls [])) {S : zS} {x3 : Int64} {x5 : Int32} {x6 : Int32} (hf : bX4_mixRouters_14 F14 S x3 x5 x6 = some r) {H : Heap} {locs : List Loc} (hP : va_P D vwCl (wX a cI S) H) (hD : va_D A (wX a cI S)) (hS : va_S A s.heap H locs) {ls : Array Slot} (hl : lv_has ls 8 [(0, .ref (a 0)), (3, .long x3), (5, .int x5), (6, .int x6)]) : W p l e rmX4_mixRouters s m args below meth c H locs 0 0 Q (F0 m 14 ls []) := by
  obtain ⟨hC, hK, hN⟩ := id hC0
  obtain ⟨hx, hb, hml, hown, hts⟩ := id hC
  have iw4 := iwX4_mixRouters_4
  have iw3 := iwX4_mixRouters_3
  have iw0 := iwX4_mixRouters_0
  unfold bX4_mixRouters_14 at hf
  refine lv_iload hx hb dX4_mixRouters_14 (lv_at hl 3 rfl) ?_
  refine lv_iload hx hb dX4_mixRouters_16 (lv_at hl 2 rfl) ?_
  refine lv_icmp_ge (tgt := 55) hx hb dX4_mixRouters_18 (by decide) (fun h_1 => ?_) (fun h_1 => ?_)
  · have hf := zt h_1 hf
    refine lv_lload_n hx hb dX4_mixRouters_55 rfl (lv_at hl 1 rfl) ?_
    exact zrl hf hQ hP hD hS dX4_mixRouters_56
  · have hf := zf h_1 hf
    refine lv_iconst (v := (0 : Int32)) hx hb dX4_mixRouters_21 (by decide) ?_
    refine z_istore hf hx hb (fun y => [(7, .int y), (0, .ref (a 0)), (3, .long x3), (5, .int x5), (6, .int x6)]) dX4_mixRouters_22 hl (by decide) (fun _ => rfl) (fun y_1 ls hf hl => ?_)
    exact kX4_mixRouters_24 hC0 hQ hF14 64 _ _ _ _ _ hf hP hD hS (lv_sub hl [1, 2, 3, 4, 0] rfl)
theorem kX4_mixRouters_14 {r : Int64 × zS} (hC0 : zC p m c cX4_mixRouters 8 s args wsX4_mixRouters RX4 D cI cZ) (hQ : zRl p l e rmX4_mixRouters s m args below meth c cX4_mixRouters D A (wX a cI) Q r) (n : Nat) : ∀ (S : zS) (x3 : Int64) (x5 : Int32) (x6 : Int32), fX4_mixRouters_14 n S x3 x5 x6 = some r → ∀ {H : Heap} {locs : List Loc}, va_P D vwCl (wX a cI S) H → va_D A (wX a cI S) → va_S A s.heap H locs → ∀ {ls : Array Slot}, lv_has ls 8 [(0, .ref (a 0)), (3, .long x3), (5, .int x5), (6, .int x6)] → W p l e rmX4_mixRouters s m args below meth c H locs 0 0 Q (F0 m 14 ls []) := by
  induction n with
  | zero => intro S x3 x5 x6 hf; cases hf
  | succ n ih => intro S x3 x5 x6 hf; exact kX4_mixRouters_14b hC0 hQ ih hf
set_option maxHeartbeats 4000000 in
set_option maxRecDepth 100000 in
theorem kX4_mixRouters {r : Int64 × zS} (hC0 : zC p m c cX4_mixRouters 8 s args wsX4_mixRouters RX4 D cI cZ) (hQ : zRl p l e rmX4_mixRouters s m args below meth c cX4_mixRouters D A (wX a cI) Q r) {S : zS} {x1 : Int64} (hf : fX4_mixRouters S x1 = some r) {H : Heap} {locs : List Loc} (hP : va_P D vwCl (wX a cI S) H) (hD : va_D A (wX a cI S)) (hS : va_S A s.heap H locs) {ls : Array Slot} (hl : lv_has ls 8 [(0, .ref (a 0)), (1, .long x1)]) : W p l e rmX4_mixRouters s m args below meth c H locs 0 0 Q (F0 m 0 ls []) := by
  obtain ⟨hC, hK, hN⟩ := id hC0
  obtain ⟨hx, hb, hml, hown, hts⟩ := id hC
  have iw4 := iwX4_mixRouters_4
  have iw3 := iwX4_mixRouters_3
  have iw0 := iwX4_mixRouters_0
  unfold fX4_mixRouters at hf
  refine lv_lload_n hx hb dX4_mixRouters_0 rfl (lv_at hl 1 rfl) ?_
  refine z_lstore_n hf hx hb (fun y => [(3, .long y), (0, .ref (a 0)), (1, .long x1)]) dX4_mixRouters_1 rfl hl (by decide) (fun _ => rfl) (fun y_1 ls hf hl => ?_)
  refine lv_aload_n hx hb dX4_mixRouters_2 rfl (lv_at hl 1 rfl) ?_
  refine gX4_routers hx hb hts iw4 hown hK hP (List.mem_of_getElem? (i := 1) rfl) dX4_mixRouters_3 ?_
  obtain ⟨y_2, S_1, hg_1, hf⟩ := obnd_some hf
  refine zci (va_runVN (As := []) (rest := []) hC (tX3_howMany hg_1) ⟨va_cnB 0 hts gX4_mixRouters_X3_howMany_n142 rfl rfl rfl (hN _ zN22) (hts _ (List.mem_of_getElem? (i := 3) rfl)) (by decide +kernel) ⟨Nat.le_of_ble_eq_true rfl, Nat.le_of_ble_eq_true rfl⟩, hts _ (List.mem_of_getElem? (i := 2) rfl), hts _ (List.mem_of_getElem? (i := 4) rfl)⟩ (zpV hP hK hD hN (rX_14 hK hP)) rfl rfl hl.1 rfl (lv_room (Nat.le_of_ble_eq_true rfl)) dX4_mixRouters_6 ⟨Nat.zero_le _, Nat.zero_le _⟩) hS (fun H locs hP hD hS => ?_)
  refine z_istore hf hx hb (fun y => [(5, .int y), (3, .long y_1), (0, .ref (a 0)), (1, .long x1)]) dX4_mixRouters_9 hl (by decide) (fun _ => rfl) (fun y_3 ls hf hl => ?_)
  refine lv_iconst (v := (0 : Int32)) hx hb dX4_mixRouters_11 (by decide) ?_
  refine z_istore hf hx hb (fun y => [(6, .int y), (5, .int y_3), (3, .long y_1), (0, .ref (a 0)), (1, .long x1)]) dX4_mixRouters_12 hl (by decide) (fun _ => rfl) (fun y_4 ls hf hl => ?_)
  exact kX4_mixRouters_14 hC0 hQ 64 _ _ _ _ hf hP hD hS (lv_sub hl [3, 2, 1, 0] rfl)
theorem tX4_mixRouters {S : zS} {x1 : Int64} {r : Int64 × zS} (hf : fX4_mixRouters S x1 = some r) : zMl l yX4_mixRouters wsX4_mixRouters rmX4_mixRouters D (zT cI cZ) A (wX a cI) [.ref (a 0), .long x1] S r :=
  zMl_of (by decide) rfl rfl (Nat.le_of_ble_eq_true rfl) (fun hC0 hQ hP hD hS _ hl => kX4_mixRouters hC0 hQ hf hP hD hS hl)
abbrev rmX4_mixOutbox : Room := { frames := 2, cells := 0, slots := 0, locals := 45 }
theorem iwX4_mixOutbox_4 : ∀ w ∈ wsX40, w ∈ wsX4_mixOutbox := fun _ h => List.mem_cons_of_mem _ (List.mem_append_left _ (List.mem_append_right _ h))
theorem iwX4_mixOutbox_2 : ∀ w ∈ wsX20, w ∈ wsX4_mixOutbox := fun _ h => List.mem_cons_of_mem _ (List.mem_append_right _ h)
set_option maxHeartbeats 4000000 in
set_option maxRecDepth 100000 in
theorem kX4_mixOutbox_24b {r : Int64 × zS} (hC0 : zC p m c cX4_mixOutbox 8 s args wsX4_mixOutbox RX4 D cI cZ) (hQ : zRl p l e rmX4_mixOutbox s m args below meth c cX4_mixOutbox D A (wX a cI) Q r) {F14 : zS → Int64 → Int32 → Int32 → Option (Int64 × zS)} (hF14 : ∀ (S : zS) (x3 : Int64) (x5 : Int32) (x6 : Int32), F14 S x3 x5 x6 = some r → ∀ {H : Heap} {locs : List Loc}, va_P D vwCl (wX a cI S) H → va_D A (wX a cI S) → va_S A s.heap H locs → ∀ {ls : Array Slot}, lv_has ls 8 [(0, .ref (a 0)), (3, .long x3), (5, .int x5), (6, .int x6)] → W p l e rmX4_mixOutbox s m args below meth c H locs 0 0 Q (F0 m 14 ls [])) {F24 : zS → Int64 → Int32 → Int32 → Int32 → Option (Int64 × zS)} (hF24 : ∀ (S : zS) (x3 : Int64) (x5 : Int32) (x6 : Int32) (x7 : Int32), F24 S x3 x5 x6 x7 = some r → ∀ {H : Heap} {locs : List Loc}, va_P D vwCl (wX a cI S) H → va_D A (wX a cI S) → va_S A s.heap H locs → ∀ {ls : Array Slot}, lv_has ls 8 [(0, .ref (a 0)), (3, .long x3), (5, .int x5), (6, .int x6), (7, .int x7)] → W p l e rmX4_mixOutbox s m args below meth c H locs 0 0 Q (F0 m 24 ls [])) {S : zS} {x3 : Int64} {x5 : Int32} {x6 : Int32} {x7 : Int32} (hf : bX4_mixOutbox_24 F14 F24 S x3 x5 x6 x7 = some r) {H : Heap} {locs : List Loc} (hP : va_P D vwCl (wX a cI S) H) (hD : va_D A (wX a cI S)) (hS : va_S A s.heap H locs) {ls : Array Slot} (hl : lv_has ls 8 [(0, .ref (a 0)), (3, .long x3), (5, .int x5), (6, .int x6), (7, .int x7)]) : W p l e rmX4_mixOutbox s m args below meth c H locs 0 0 Q (F0 m 24 ls []) := by
  obtain ⟨hC, hK, hN⟩ := id hC0
  obtain ⟨hx, hb, hml, hown, hts⟩ := id hC
  have iw4 := iwX4_mixOutbox_4
  have iw2 := iwX4_mixOutbox_2
  unfold bX4_mixOutbox_24 at hf
  refine lv_iload hx hb dX4_mixOutbox_24 (lv_at hl 4 rfl) ?_
  refine lv_iconst (v := (5 : Int32)) hx hb dX4_mixOutbox_26 (by decide) ?_
  refine lv_icmp_ge (tgt := 49) hx hb dX4_mixOutbox_27 (by decide) (fun h_1 => ?_) (fun h_1 => ?_)
  · have hf := zt h_1 hf
    refine z_iinc hf hx hb 3 (fun y => [(6, .int y), (0, .ref (a 0)), (3, .long x3), (5, .int x5), (7, .int x7)]) dX4_mixOutbox_49 hl rfl (by decide) (by decide) (fun _ => rfl) (fun y_1 ls hf hl => ?_)
    refine lv_goto (tgt := 14) hx hb dX4_mixOutbox_52 (by decide) ?_
    exact hF14 _ _ _ _ hf hP hD hS (lv_sub hl [1, 2, 3, 0] rfl)
  · have hf := zf h_1 hf
    refine lv_lload_n hx hb dX4_mixOutbox_30 rfl (lv_at hl 1 rfl) ?_
    refine lv_aload_n hx hb dX4_mixOutbox_31 rfl (lv_at hl 0 rfl) ?_
    refine lv_iload hx hb dX4_mixOutbox_32 (lv_at hl 3 rfl) ?_
    refine lv_iload hx hb dX4_mixOutbox_34 (lv_at hl 4 rfl) ?_
    obtain ⟨y_2, S_1, hg_1, hf⟩ := obnd_some hf
    refine zci (va_runV (As := [.int x6, .int x7]) (rest := [.long x3]) hC (tX4_out hg_1) (cwV 2 hts gX4_mixOutbox_X4_out rfl rfl rfl (by decide +kernel) ⟨Nat.le_of_ble_eq_true rfl, Nat.le_of_ble_eq_true rfl⟩) (zpV hP hK hD hN (rX_0 hK hP)) rfl rfl hl.1 rfl (lv_room (Nat.le_of_ble_eq_true rfl)) dX4_mixOutbox_36 ⟨Nat.zero_le _, Nat.zero_le _⟩) hS (fun H locs hP hD hS => ?_)
    obtain ⟨y_3, S_2, hg_2, hf⟩ := obnd_some hf
    refine zcl (va_runS (As := [.long x3, .int y_2]) (rest := []) hC (tX4_mix hg_2) (va_cwS 2 hts gX4_mixOutbox_X4_mix rfl rfl rfl (by decide +kernel) ⟨Nat.le_of_ble_eq_true rfl, Nat.le_of_ble_eq_true rfl⟩) (zpS hP hK hD hN) rfl rfl hl.1 rfl (lv_room (Nat.le_of_ble_eq_true rfl)) dX4_mixOutbox_39 ⟨Nat.zero_le _, Nat.zero_le _⟩) hS (fun H locs hP hD hS => ?_)
    refine z_lstore_n hf hx hb (fun y => [(3, .long y), (0, .ref (a 0)), (5, .int x5), (6, .int x6), (7, .int x7)]) dX4_mixOutbox_42 rfl hl (by decide) (fun _ => rfl) (fun y_4 ls hf hl => ?_)
    refine z_iinc hf hx hb 4 (fun y => [(7, .int y), (3, .long y_4), (0, .ref (a 0)), (5, .int x5), (6, .int x6)]) dX4_mixOutbox_43 hl rfl (by decide) (by decide) (fun _ => rfl) (fun y_5 ls hf hl => ?_)
    refine lv_goto (tgt := 24) hx hb dX4_mixOutbox_46 (by decide) ?_
    exact hF24 _ _ _ _ _ hf hP hD hS (lv_sub hl [2, 1, 3, 4, 0] rfl)
theorem kX4_mixOutbox_24 {r : Int64 × zS} (hC0 : zC p m c cX4_mixOutbox 8 s args wsX4_mixOutbox RX4 D cI cZ) (hQ : zRl p l e rmX4_mixOutbox s m args below meth c cX4_mixOutbox D A (wX a cI) Q r) {F14 : zS → Int64 → Int32 → Int32 → Option (Int64 × zS)} (hF14 : ∀ (S : zS) (x3 : Int64) (x5 : Int32) (x6 : Int32), F14 S x3 x5 x6 = some r → ∀ {H : Heap} {locs : List Loc}, va_P D vwCl (wX a cI S) H → va_D A (wX a cI S) → va_S A s.heap H locs → ∀ {ls : Array Slot}, lv_has ls 8 [(0, .ref (a 0)), (3, .long x3), (5, .int x5), (6, .int x6)] → W p l e rmX4_mixOutbox s m args below meth c H locs 0 0 Q (F0 m 14 ls [])) (n : Nat) : ∀ (S : zS) (x3 : Int64) (x5 : Int32) (x6 : Int32) (x7 : Int32), fX4_mixOutbox_24 F14 n S x3 x5 x6 x7 = some r → ∀ {H : Heap} {locs : List Loc}, va_P D vwCl (wX a cI S) H → va_D A (wX a cI S) → va_S A s.heap H locs → ∀ {ls : Array Slot}, lv_has ls 8 [(0, .ref (a 0)), (3, .long x3), (5, .int x5), (6, .int x6), (7, .int x7)] → W p l e rmX4_mixOutbox s m args below meth c H locs 0 0 Q (F0 m 24 ls []) := by
  induction n with
  | zero => intro S x3 x5 x6 x7 hf; cases hf
  | succ n ih => intro S x3 x5 x6 x7 hf; exact kX4_mixOutbox_24b hC0 hQ hF14 ih hf
set_option maxHeartbeats 4000000 in
set_option maxRecDepth 100000 in
theorem kX4_mixOutbox_14b {r : Int64 × zS} (hC0 : zC p m c cX4_mixOutbox 8 s args wsX4_mixOutbox RX4 D cI cZ) (hQ : zRl p l e rmX4_mixOutbox s m args below meth c cX4_mixOutbox D A (wX a cI) Q r) {F14 : zS → Int64 → Int32 → Int32 → Option (Int64 × zS)} (hF14 : ∀ (S : zS) (x3 : Int64) (x5 : Int32) (x6 : Int32), F14 S x3 x5 x6 = some r → ∀ {H : Heap} {locs : List Loc}, va_P D vwCl (wX a cI S) H → va_D A (wX a cI S) → va_S A s.heap H locs → ∀ {ls : Array Slot}, lv_has ls 8 [(0, .ref (a 0)), (3, .long x3), (5, .int x5), (6, .int x6)] → W p l e rmX4_mixOutbox s m args below meth c H locs 0 0 Q (F0 m 14 ls [])) {S : zS} {x3 : Int64} {x5 : Int32} {x6 : Int32} (hf : bX4_mixOutbox_14 F14 S x3 x5 x6 = some r) {H : Heap} {locs : List Loc} (hP : va_P D vwCl (wX a cI S) H) (hD : va_D A (wX a cI S)) (hS : va_S A s.heap H locs) {ls : Array Slot} (hl : lv_has ls 8 [(0, .ref (a 0)), (3, .long x3), (5, .int x5), (6, .int x6)]) : W p l e rmX4_mixOutbox s m args below meth c H locs 0 0 Q (F0 m 14 ls []) := by
  obtain ⟨hC, hK, hN⟩ := id hC0
  obtain ⟨hx, hb, hml, hown, hts⟩ := id hC
  have iw4 := iwX4_mixOutbox_4
  have iw2 := iwX4_mixOutbox_2
  unfold bX4_mixOutbox_14 at hf
  refine lv_iload hx hb dX4_mixOutbox_14 (lv_at hl 3 rfl) ?_
  refine lv_iload hx hb dX4_mixOutbox_16 (lv_at hl 2 rfl) ?_
  refine lv_icmp_ge (tgt := 55) hx hb dX4_mixOutbox_18 (by decide) (fun h_1 => ?_) (fun h_1 => ?_)
  · have hf := zt h_1 hf
    refine lv_lload_n hx hb dX4_mixOutbox_55 rfl (lv_at hl 1 rfl) ?_
    exact zrl hf hQ hP hD hS dX4_mixOutbox_56
  · have hf := zf h_1 hf
    refine lv_iconst (v := (0 : Int32)) hx hb dX4_mixOutbox_21 (by decide) ?_
    refine z_istore hf hx hb (fun y => [(7, .int y), (0, .ref (a 0)), (3, .long x3), (5, .int x5), (6, .int x6)]) dX4_mixOutbox_22 hl (by decide) (fun _ => rfl) (fun y_1 ls hf hl => ?_)
    exact kX4_mixOutbox_24 hC0 hQ hF14 64 _ _ _ _ _ hf hP hD hS (lv_sub hl [1, 2, 3, 4, 0] rfl)
theorem kX4_mixOutbox_14 {r : Int64 × zS} (hC0 : zC p m c cX4_mixOutbox 8 s args wsX4_mixOutbox RX4 D cI cZ) (hQ : zRl p l e rmX4_mixOutbox s m args below meth c cX4_mixOutbox D A (wX a cI) Q r) (n : Nat) : ∀ (S : zS) (x3 : Int64) (x5 : Int32) (x6 : Int32), fX4_mixOutbox_14 n S x3 x5 x6 = some r → ∀ {H : Heap} {locs : List Loc}, va_P D vwCl (wX a cI S) H → va_D A (wX a cI S) → va_S A s.heap H locs → ∀ {ls : Array Slot}, lv_has ls 8 [(0, .ref (a 0)), (3, .long x3), (5, .int x5), (6, .int x6)] → W p l e rmX4_mixOutbox s m args below meth c H locs 0 0 Q (F0 m 14 ls []) := by
  induction n with
  | zero => intro S x3 x5 x6 hf; cases hf
  | succ n ih => intro S x3 x5 x6 hf; exact kX4_mixOutbox_14b hC0 hQ ih hf
set_option maxHeartbeats 4000000 in
set_option maxRecDepth 100000 in
theorem kX4_mixOutbox {r : Int64 × zS} (hC0 : zC p m c cX4_mixOutbox 8 s args wsX4_mixOutbox RX4 D cI cZ) (hQ : zRl p l e rmX4_mixOutbox s m args below meth c cX4_mixOutbox D A (wX a cI) Q r) {S : zS} {x1 : Int64} (hf : fX4_mixOutbox S x1 = some r) {H : Heap} {locs : List Loc} (hP : va_P D vwCl (wX a cI S) H) (hD : va_D A (wX a cI S)) (hS : va_S A s.heap H locs) {ls : Array Slot} (hl : lv_has ls 8 [(0, .ref (a 0)), (1, .long x1)]) : W p l e rmX4_mixOutbox s m args below meth c H locs 0 0 Q (F0 m 0 ls []) := by
  obtain ⟨hC, hK, hN⟩ := id hC0
  obtain ⟨hx, hb, hml, hown, hts⟩ := id hC
  have iw4 := iwX4_mixOutbox_4
  have iw2 := iwX4_mixOutbox_2
  unfold fX4_mixOutbox at hf
  refine lv_lload_n hx hb dX4_mixOutbox_0 rfl (lv_at hl 1 rfl) ?_
  refine z_lstore_n hf hx hb (fun y => [(3, .long y), (0, .ref (a 0)), (1, .long x1)]) dX4_mixOutbox_1 rfl hl (by decide) (fun _ => rfl) (fun y_1 ls hf hl => ?_)
  refine lv_aload_n hx hb dX4_mixOutbox_2 rfl (lv_at hl 1 rfl) ?_
  refine gX4_outbox hx hb hts iw4 hown hK hP (List.mem_of_getElem? (i := 1) rfl) dX4_mixOutbox_3 ?_
  obtain ⟨y_2, S_1, hg_1, hf⟩ := obnd_some hf
  refine zci (va_runVN (As := []) (rest := []) hC (tX2_howMany hg_1) ⟨va_cnB 0 hts gX4_mixOutbox_X2_howMany_n243 rfl rfl rfl (hN _ zN41) (hts _ (List.mem_of_getElem? (i := 3) rfl)) (by decide +kernel) ⟨Nat.le_of_ble_eq_true rfl, Nat.le_of_ble_eq_true rfl⟩, hts _ (List.mem_of_getElem? (i := 2) rfl), hts _ (List.mem_of_getElem? (i := 4) rfl)⟩ (zpV hP hK hD hN (rX_1 hK hP)) rfl rfl hl.1 rfl (lv_room (Nat.le_of_ble_eq_true rfl)) dX4_mixOutbox_6 ⟨Nat.zero_le _, Nat.zero_le _⟩) hS (fun H locs hP hD hS => ?_)
  refine z_istore hf hx hb (fun y => [(5, .int y), (3, .long y_1), (0, .ref (a 0)), (1, .long x1)]) dX4_mixOutbox_9 hl (by decide) (fun _ => rfl) (fun y_3 ls hf hl => ?_)
  refine lv_iconst (v := (0 : Int32)) hx hb dX4_mixOutbox_11 (by decide) ?_
  refine z_istore hf hx hb (fun y => [(6, .int y), (5, .int y_3), (3, .long y_1), (0, .ref (a 0)), (1, .long x1)]) dX4_mixOutbox_12 hl (by decide) (fun _ => rfl) (fun y_4 ls hf hl => ?_)
  exact kX4_mixOutbox_14 hC0 hQ 64 _ _ _ _ hf hP hD hS (lv_sub hl [3, 2, 1, 0] rfl)
theorem tX4_mixOutbox {S : zS} {x1 : Int64} {r : Int64 × zS} (hf : fX4_mixOutbox S x1 = some r) : zMl l yX4_mixOutbox wsX4_mixOutbox rmX4_mixOutbox D (zT cI cZ) A (wX a cI) [.ref (a 0), .long x1] S r :=
  zMl_of (by decide) rfl rfl (Nat.le_of_ble_eq_true rfl) (fun hC0 hQ hP hD hS _ hl => kX4_mixOutbox hC0 hQ hf hP hD hS hl)
abbrev rmX4_digest : Room := { frames := 6, cells := 0, slots := 0, locals := 138 }
theorem iwX4_digest_4 : ∀ w ∈ wsX40, w ∈ wsX4_digest := fun _ h => List.mem_cons_of_mem _ (List.mem_append_left _ (List.mem_append_left _ (List.mem_append_left _ (List.mem_append_left _ (List.mem_append_right _ h)))))
theorem iwX4_digest_0 : ∀ w ∈ wsX00, w ∈ wsX4_digest := fun _ h => List.mem_cons_of_mem _ (List.mem_append_left _ (List.mem_append_left _ (List.mem_append_left _ (List.mem_append_right _ h))))
theorem iwX4_digest_3 : ∀ w ∈ wsX30, w ∈ wsX4_digest := fun _ h => List.mem_cons_of_mem _ (List.mem_append_left _ (List.mem_append_left _ (List.mem_append_right _ h)))
theorem iwX4_digest_1 : ∀ w ∈ wsX10, w ∈ wsX4_digest := fun _ h => List.mem_cons_of_mem _ (List.mem_append_left _ (List.mem_append_right _ h))
theorem iwX4_digest_2 : ∀ w ∈ wsX20, w ∈ wsX4_digest := fun _ h => List.mem_cons_of_mem _ (List.mem_append_right _ h)
set_option maxHeartbeats 4000000 in
set_option maxRecDepth 100000 in
theorem kX4_digest_74b {r : Int64 × zS} (hC0 : zC p m c cX4_digest 4 s args wsX4_digest RX4 D cI cZ) (hQ : zRl p l e rmX4_digest s m args below meth c cX4_digest D A (wX a cI) Q r) {F74 : zS → Int64 → Int32 → Option (Int64 × zS)} (hF74 : ∀ (S : zS) (x1 : Int64) (x3 : Int32), F74 S x1 x3 = some r → ∀ {H : Heap} {locs : List Loc}, va_P D vwCl (wX a cI S) H → va_D A (wX a cI S) → va_S A s.heap H locs → ∀ {ls : Array Slot}, lv_has ls 4 [(0, .ref (a 0)), (1, .long x1), (3, .int x3)] → W p l e rmX4_digest s m args below meth c H locs 0 0 Q (F0 m 74 ls [])) {S : zS} {x1 : Int64} {x3 : Int32} (hf : bX4_digest_74 F74 S x1 x3 = some r) {H : Heap} {locs : List Loc} (hP : va_P D vwCl (wX a cI S) H) (hD : va_D A (wX a cI S)) (hS : va_S A s.heap H locs) {ls : Array Slot} (hl : lv_has ls 4 [(0, .ref (a 0)), (1, .long x1), (3, .int x3)]) : W p l e rmX4_digest s m args below meth c H locs 0 0 Q (F0 m 74 ls []) := by
  obtain ⟨hC, hK, hN⟩ := id hC0
  obtain ⟨hx, hb, hml, hown, hts⟩ := id hC
  have iw4 := iwX4_digest_4
  have iw0 := iwX4_digest_0
  have iw3 := iwX4_digest_3
  have iw1 := iwX4_digest_1
  have iw2 := iwX4_digest_2
  unfold bX4_digest_74 at hf
  refine lv_iload_n hx hb dX4_digest_74 rfl (lv_at hl 2 rfl) ?_
  refine lv_bipush (v := (9 : Int32)) hx hb dX4_digest_75 (by decide) ?_
  refine lv_icmp_ge (tgt := 96) hx hb dX4_digest_77 (by decide) (fun h_1 => ?_) (fun h_1 => ?_)
  · have hf := zt h_1 hf
    refine lv_lload_n hx hb dX4_digest_96 rfl (lv_at hl 1 rfl) ?_
    exact zrl hf hQ hP hD hS dX4_digest_97
  · have hf := zf h_1 hf
    refine lv_lload_n hx hb dX4_digest_80 rfl (lv_at hl 1 rfl) ?_
    refine lv_aload_n hx hb dX4_digest_81 rfl (lv_at hl 0 rfl) ?_
    refine lv_iload_n hx hb dX4_digest_82 rfl (lv_at hl 2 rfl) ?_
    obtain ⟨y_1, S_1, hg_1, hf⟩ := obnd_some hf
    refine zci (va_runV (As := [.int x3]) (rest := [.long x1]) hC (tX4_count hg_1) (cwV 1 hts gX4_digest_X4_count rfl rfl rfl (by decide +kernel) ⟨Nat.le_of_ble_eq_true rfl, Nat.le_of_ble_eq_true rfl⟩) (zpV hP hK hD hN (rX_0 hK hP)) rfl rfl hl.1 rfl (lv_room (Nat.le_of_ble_eq_true rfl)) dX4_digest_83 ⟨Nat.zero_le _, Nat.zero_le _⟩) hS (fun H locs hP hD hS => ?_)
    obtain ⟨y_2, S_2, hg_2, hf⟩ := obnd_some hf
    refine zcl (va_runS (As := [.long x1, .int y_1]) (rest := []) hC (tX4_mix hg_2) (va_cwS 2 hts gX4_digest_X4_mix rfl rfl rfl (by decide +kernel) ⟨Nat.le_of_ble_eq_true rfl, Nat.le_of_ble_eq_true rfl⟩) (zpS hP hK hD hN) rfl rfl hl.1 rfl (lv_room (Nat.le_of_ble_eq_true rfl)) dX4_digest_86 ⟨Nat.zero_le _, Nat.zero_le _⟩) hS (fun H locs hP hD hS => ?_)
    refine z_lstore_n hf hx hb (fun y => [(1, .long y), (0, .ref (a 0)), (3, .int x3)]) dX4_digest_89 rfl hl (by decide) (fun _ => rfl) (fun y_3 ls hf hl => ?_)
    refine z_iinc hf hx hb 2 (fun y => [(3, .int y), (1, .long y_3), (0, .ref (a 0))]) dX4_digest_90 hl rfl (by decide) (by decide) (fun _ => rfl) (fun y_4 ls hf hl => ?_)
    refine lv_goto (tgt := 74) hx hb dX4_digest_93 (by decide) ?_
    exact hF74 _ _ _ hf hP hD hS (lv_sub hl [2, 1, 0] rfl)
theorem kX4_digest_74 {r : Int64 × zS} (hC0 : zC p m c cX4_digest 4 s args wsX4_digest RX4 D cI cZ) (hQ : zRl p l e rmX4_digest s m args below meth c cX4_digest D A (wX a cI) Q r) (n : Nat) : ∀ (S : zS) (x1 : Int64) (x3 : Int32), fX4_digest_74 n S x1 x3 = some r → ∀ {H : Heap} {locs : List Loc}, va_P D vwCl (wX a cI S) H → va_D A (wX a cI S) → va_S A s.heap H locs → ∀ {ls : Array Slot}, lv_has ls 4 [(0, .ref (a 0)), (1, .long x1), (3, .int x3)] → W p l e rmX4_digest s m args below meth c H locs 0 0 Q (F0 m 74 ls []) := by
  induction n with
  | zero => intro S x1 x3 hf; cases hf
  | succ n ih => intro S x1 x3 hf; exact kX4_digest_74b hC0 hQ ih hf
set_option maxHeartbeats 4000000 in
set_option maxRecDepth 100000 in
theorem kX4_digest_42b {r : Int64 × zS} (hC0 : zC p m c cX4_digest 4 s args wsX4_digest RX4 D cI cZ) (hQ : zRl p l e rmX4_digest s m args below meth c cX4_digest D A (wX a cI) Q r) {F42 : zS → Int64 → Int32 → Option (Int64 × zS)} (hF42 : ∀ (S : zS) (x1 : Int64) (x3 : Int32), F42 S x1 x3 = some r → ∀ {H : Heap} {locs : List Loc}, va_P D vwCl (wX a cI S) H → va_D A (wX a cI S) → va_S A s.heap H locs → ∀ {ls : Array Slot}, lv_has ls 4 [(0, .ref (a 0)), (1, .long x1), (3, .int x3)] → W p l e rmX4_digest s m args below meth c H locs 0 0 Q (F0 m 42 ls [])) {S : zS} {x1 : Int64} {x3 : Int32} (hf : bX4_digest_42 F42 S x1 x3 = some r) {H : Heap} {locs : List Loc} (hP : va_P D vwCl (wX a cI S) H) (hD : va_D A (wX a cI S)) (hS : va_S A s.heap H locs) {ls : Array Slot} (hl : lv_has ls 4 [(0, .ref (a 0)), (1, .long x1), (3, .int x3)]) : W p l e rmX4_digest s m args below meth c H locs 0 0 Q (F0 m 42 ls []) := by
  obtain ⟨hC, hK, hN⟩ := id hC0
  obtain ⟨hx, hb, hml, hown, hts⟩ := id hC
  have iw4 := iwX4_digest_4
  have iw0 := iwX4_digest_0
  have iw3 := iwX4_digest_3
  have iw1 := iwX4_digest_1
  have iw2 := iwX4_digest_2
  unfold bX4_digest_42 at hf
  refine lv_iload_n hx hb dX4_digest_42 rfl (lv_at hl 2 rfl) ?_
  refine lv_iconst (v := (4 : Int32)) hx hb dX4_digest_43 (by decide) ?_
  refine lv_icmp_ge (tgt := 66) hx hb dX4_digest_44 (by decide) (fun h_1 => ?_) (fun h_1 => ?_)
  · have hf := zt h_1 hf
    refine lv_aload_n hx hb dX4_digest_66 rfl (lv_at hl 0 rfl) ?_
    refine lv_lload_n hx hb dX4_digest_67 rfl (lv_at hl 1 rfl) ?_
    obtain ⟨y_1, S_1, hg_1, hf⟩ := obnd_some hf
    refine zcl (va_runV (As := [.long x1]) (rest := []) hC (tX4_mixOutbox hg_1) (cwV 1 hts gX4_digest_X4_mixOutbox rfl rfl rfl (by decide +kernel) ⟨Nat.le_of_ble_eq_true rfl, Nat.le_of_ble_eq_true rfl⟩) (zpV hP hK hD hN (rX_0 hK hP)) rfl rfl hl.1 rfl (lv_room (Nat.le_of_ble_eq_true rfl)) dX4_digest_68 ⟨Nat.zero_le _, Nat.zero_le _⟩) hS (fun H locs hP hD hS => ?_)
    refine z_lstore_n hf hx hb (fun y => [(1, .long y), (0, .ref (a 0)), (3, .int x3)]) dX4_digest_71 rfl hl (by decide) (fun _ => rfl) (fun y_2 ls hf hl => ?_)
    refine lv_iconst (v := (0 : Int32)) hx hb dX4_digest_72 (by decide) ?_
    refine z_istore_n hf hx hb (fun y => [(3, .int y), (1, .long y_2), (0, .ref (a 0))]) dX4_digest_73 rfl hl (by decide) (fun _ => rfl) (fun y_3 ls hf hl => ?_)
    exact kX4_digest_74 hC0 hQ 64 _ _ _ hf hP hD hS (lv_sub hl [2, 1, 0] rfl)
  · have hf := zf h_1 hf
    refine lv_lload_n hx hb dX4_digest_47 rfl (lv_at hl 1 rfl) ?_
    refine lv_aload_n hx hb dX4_digest_48 rfl (lv_at hl 0 rfl) ?_
    refine lv_bipush (v := (16 : Int32)) hx hb dX4_digest_49 (by decide) ?_
    refine lv_iload_n hx hb dX4_digest_51 rfl (lv_at hl 2 rfl) ?_
    refine lv_iadd hx hb dX4_digest_52 ?_
    obtain ⟨y_4, S_2, hg_2, hf⟩ := obnd_some hf
    refine zci (va_runV (As := [.int ((16 : Int32) + x3)]) (rest := [.long x1]) hC (tX4_hop hg_2) (cwV 1 hts gX4_digest_X4_hop rfl rfl rfl (by decide +kernel) ⟨Nat.le_of_ble_eq_true rfl, Nat.le_of_ble_eq_true rfl⟩) (zpV hP hK hD hN (rX_0 hK hP)) rfl rfl hl.1 rfl (lv_room (Nat.le_of_ble_eq_true rfl)) dX4_digest_53 ⟨Nat.zero_le _, Nat.zero_le _⟩) hS (fun H locs hP hD hS => ?_)
    obtain ⟨y_5, S_3, hg_3, hf⟩ := obnd_some hf
    refine zcl (va_runS (As := [.long x1, .int y_4]) (rest := []) hC (tX4_mix hg_3) (va_cwS 2 hts gX4_digest_X4_mix rfl rfl rfl (by decide +kernel) ⟨Nat.le_of_ble_eq_true rfl, Nat.le_of_ble_eq_true rfl⟩) (zpS hP hK hD hN) rfl rfl hl.1 rfl (lv_room (Nat.le_of_ble_eq_true rfl)) dX4_digest_56 ⟨Nat.zero_le _, Nat.zero_le _⟩) hS (fun H locs hP hD hS => ?_)
    refine z_lstore_n hf hx hb (fun y => [(1, .long y), (0, .ref (a 0)), (3, .int x3)]) dX4_digest_59 rfl hl (by decide) (fun _ => rfl) (fun y_6 ls hf hl => ?_)
    refine z_iinc hf hx hb 2 (fun y => [(3, .int y), (1, .long y_6), (0, .ref (a 0))]) dX4_digest_60 hl rfl (by decide) (by decide) (fun _ => rfl) (fun y_7 ls hf hl => ?_)
    refine lv_goto (tgt := 42) hx hb dX4_digest_63 (by decide) ?_
    exact hF42 _ _ _ hf hP hD hS (lv_sub hl [2, 1, 0] rfl)
theorem kX4_digest_42 {r : Int64 × zS} (hC0 : zC p m c cX4_digest 4 s args wsX4_digest RX4 D cI cZ) (hQ : zRl p l e rmX4_digest s m args below meth c cX4_digest D A (wX a cI) Q r) (n : Nat) : ∀ (S : zS) (x1 : Int64) (x3 : Int32), fX4_digest_42 n S x1 x3 = some r → ∀ {H : Heap} {locs : List Loc}, va_P D vwCl (wX a cI S) H → va_D A (wX a cI S) → va_S A s.heap H locs → ∀ {ls : Array Slot}, lv_has ls 4 [(0, .ref (a 0)), (1, .long x1), (3, .int x3)] → W p l e rmX4_digest s m args below meth c H locs 0 0 Q (F0 m 42 ls []) := by
  induction n with
  | zero => intro S x1 x3 hf; cases hf
  | succ n ih => intro S x1 x3 hf; exact kX4_digest_42b hC0 hQ ih hf
set_option maxHeartbeats 4000000 in
set_option maxRecDepth 100000 in
theorem kX4_digest_6b {r : Int64 × zS} (hC0 : zC p m c cX4_digest 4 s args wsX4_digest RX4 D cI cZ) (hQ : zRl p l e rmX4_digest s m args below meth c cX4_digest D A (wX a cI) Q r) {F6 : zS → Int64 → Int32 → Option (Int64 × zS)} (hF6 : ∀ (S : zS) (x1 : Int64) (x3 : Int32), F6 S x1 x3 = some r → ∀ {H : Heap} {locs : List Loc}, va_P D vwCl (wX a cI S) H → va_D A (wX a cI S) → va_S A s.heap H locs → ∀ {ls : Array Slot}, lv_has ls 4 [(0, .ref (a 0)), (1, .long x1), (3, .int x3)] → W p l e rmX4_digest s m args below meth c H locs 0 0 Q (F0 m 6 ls [])) {S : zS} {x1 : Int64} {x3 : Int32} (hf : bX4_digest_6 F6 S x1 x3 = some r) {H : Heap} {locs : List Loc} (hP : va_P D vwCl (wX a cI S) H) (hD : va_D A (wX a cI S)) (hS : va_S A s.heap H locs) {ls : Array Slot} (hl : lv_has ls 4 [(0, .ref (a 0)), (1, .long x1), (3, .int x3)]) : W p l e rmX4_digest s m args below meth c H locs 0 0 Q (F0 m 6 ls []) := by
  obtain ⟨hC, hK, hN⟩ := id hC0
  obtain ⟨hx, hb, hml, hown, hts⟩ := id hC
  have iw4 := iwX4_digest_4
  have iw0 := iwX4_digest_0
  have iw3 := iwX4_digest_3
  have iw1 := iwX4_digest_1
  have iw2 := iwX4_digest_2
  unfold bX4_digest_6 at hf
  refine lv_iload_n hx hb dX4_digest_6 rfl (lv_at hl 2 rfl) ?_
  refine lv_bipush (v := (6 : Int32)) hx hb dX4_digest_7 (by decide) ?_
  refine lv_icmp_ge (tgt := 28) hx hb dX4_digest_9 (by decide) (fun h_1 => ?_) (fun h_1 => ?_)
  · have hf := zt h_1 hf
    refine lv_aload_n hx hb dX4_digest_28 rfl (lv_at hl 0 rfl) ?_
    refine lv_lload_n hx hb dX4_digest_29 rfl (lv_at hl 1 rfl) ?_
    obtain ⟨y_1, S_1, hg_1, hf⟩ := obnd_some hf
    refine zcl (va_runV (As := [.long x1]) (rest := []) hC (tX4_mixEntries hg_1) (cwV 1 hts gX4_digest_X4_mixEntries rfl rfl rfl (by decide +kernel) ⟨Nat.le_of_ble_eq_true rfl, Nat.le_of_ble_eq_true rfl⟩) (zpV hP hK hD hN (rX_0 hK hP)) rfl rfl hl.1 rfl (lv_room (Nat.le_of_ble_eq_true rfl)) dX4_digest_30 ⟨Nat.zero_le _, Nat.zero_le _⟩) hS (fun H locs hP hD hS => ?_)
    refine z_lstore_n hf hx hb (fun y => [(1, .long y), (0, .ref (a 0)), (3, .int x3)]) dX4_digest_33 rfl hl (by decide) (fun _ => rfl) (fun y_2 ls hf hl => ?_)
    refine lv_aload_n hx hb dX4_digest_34 rfl (lv_at hl 1 rfl) ?_
    refine lv_lload_n hx hb dX4_digest_35 rfl (lv_at hl 0 rfl) ?_
    obtain ⟨y_3, S_2, hg_2, hf⟩ := obnd_some hf
    refine zcl (va_runV (As := [.long y_2]) (rest := []) hC (tX4_mixRouters hg_2) (cwV 1 hts gX4_digest_X4_mixRouters rfl rfl rfl (by decide +kernel) ⟨Nat.le_of_ble_eq_true rfl, Nat.le_of_ble_eq_true rfl⟩) (zpV hP hK hD hN (rX_0 hK hP)) rfl rfl hl.1 rfl (lv_room (Nat.le_of_ble_eq_true rfl)) dX4_digest_36 ⟨Nat.zero_le _, Nat.zero_le _⟩) hS (fun H locs hP hD hS => ?_)
    refine z_lstore_n hf hx hb (fun y => [(1, .long y), (0, .ref (a 0)), (3, .int x3)]) dX4_digest_39 rfl hl (by decide) (fun _ => rfl) (fun y_4 ls hf hl => ?_)
    refine lv_iconst (v := (0 : Int32)) hx hb dX4_digest_40 (by decide) ?_
    refine z_istore_n hf hx hb (fun y => [(3, .int y), (1, .long y_4), (0, .ref (a 0))]) dX4_digest_41 rfl hl (by decide) (fun _ => rfl) (fun y_5 ls hf hl => ?_)
    exact kX4_digest_42 hC0 hQ 64 _ _ _ hf hP hD hS (lv_sub hl [2, 1, 0] rfl)
  · have hf := zf h_1 hf
    refine lv_lload_n hx hb dX4_digest_12 rfl (lv_at hl 1 rfl) ?_
    refine lv_aload_n hx hb dX4_digest_13 rfl (lv_at hl 0 rfl) ?_
    refine lv_iload_n hx hb dX4_digest_14 rfl (lv_at hl 2 rfl) ?_
    obtain ⟨y_6, S_3, hg_3, hf⟩ := obnd_some hf
    refine zci (va_runV (As := [.int x3]) (rest := [.long x1]) hC (tX4_about hg_3) (cwV 1 hts gX4_digest_X4_about rfl rfl rfl (by decide +kernel) ⟨Nat.le_of_ble_eq_true rfl, Nat.le_of_ble_eq_true rfl⟩) (zpV hP hK hD hN (rX_0 hK hP)) rfl rfl hl.1 rfl (lv_room (Nat.le_of_ble_eq_true rfl)) dX4_digest_15 ⟨Nat.zero_le _, Nat.zero_le _⟩) hS (fun H locs hP hD hS => ?_)
    obtain ⟨y_7, S_4, hg_4, hf⟩ := obnd_some hf
    refine zcl (va_runS (As := [.long x1, .int y_6]) (rest := []) hC (tX4_mix hg_4) (va_cwS 2 hts gX4_digest_X4_mix rfl rfl rfl (by decide +kernel) ⟨Nat.le_of_ble_eq_true rfl, Nat.le_of_ble_eq_true rfl⟩) (zpS hP hK hD hN) rfl rfl hl.1 rfl (lv_room (Nat.le_of_ble_eq_true rfl)) dX4_digest_18 ⟨Nat.zero_le _, Nat.zero_le _⟩) hS (fun H locs hP hD hS => ?_)
    refine z_lstore_n hf hx hb (fun y => [(1, .long y), (0, .ref (a 0)), (3, .int x3)]) dX4_digest_21 rfl hl (by decide) (fun _ => rfl) (fun y_8 ls hf hl => ?_)
    refine z_iinc hf hx hb 2 (fun y => [(3, .int y), (1, .long y_8), (0, .ref (a 0))]) dX4_digest_22 hl rfl (by decide) (by decide) (fun _ => rfl) (fun y_9 ls hf hl => ?_)
    refine lv_goto (tgt := 6) hx hb dX4_digest_25 (by decide) ?_
    exact hF6 _ _ _ hf hP hD hS (lv_sub hl [2, 1, 0] rfl)
theorem kX4_digest_6 {r : Int64 × zS} (hC0 : zC p m c cX4_digest 4 s args wsX4_digest RX4 D cI cZ) (hQ : zRl p l e rmX4_digest s m args below meth c cX4_digest D A (wX a cI) Q r) (n : Nat) : ∀ (S : zS) (x1 : Int64) (x3 : Int32), fX4_digest_6 n S x1 x3 = some r → ∀ {H : Heap} {locs : List Loc}, va_P D vwCl (wX a cI S) H → va_D A (wX a cI S) → va_S A s.heap H locs → ∀ {ls : Array Slot}, lv_has ls 4 [(0, .ref (a 0)), (1, .long x1), (3, .int x3)] → W p l e rmX4_digest s m args below meth c H locs 0 0 Q (F0 m 6 ls []) := by
  induction n with
  | zero => intro S x1 x3 hf; cases hf
  | succ n ih => intro S x1 x3 hf; exact kX4_digest_6b hC0 hQ ih hf
set_option maxHeartbeats 4000000 in
set_option maxRecDepth 100000 in
theorem kX4_digest {r : Int64 × zS} (hC0 : zC p m c cX4_digest 4 s args wsX4_digest RX4 D cI cZ) (hQ : zRl p l e rmX4_digest s m args below meth c cX4_digest D A (wX a cI) Q r) {S : zS} (hf : fX4_digest S = some r) {H : Heap} {locs : List Loc} (hP : va_P D vwCl (wX a cI S) H) (hD : va_D A (wX a cI S)) (hS : va_S A s.heap H locs) {ls : Array Slot} (hl : lv_has ls 4 [(0, .ref (a 0))]) : W p l e rmX4_digest s m args below meth c H locs 0 0 Q (F0 m 0 ls []) := by
  obtain ⟨hC, hK, hN⟩ := id hC0
  obtain ⟨hx, hb, hml, hown, hts⟩ := id hC
  have iw4 := iwX4_digest_4
  have iw0 := iwX4_digest_0
  have iw3 := iwX4_digest_3
  have iw1 := iwX4_digest_1
  have iw2 := iwX4_digest_2
  unfold fX4_digest at hf
  refine lv_ldc2 (v := (1523)) hx hb hown (hts (.constantLong RX4 204 (1523)) (List.mem_of_getElem? (i := 1) rfl)) dX4_digest_0 ?_
  refine z_lstore_n hf hx hb (fun y => [(1, .long y), (0, .ref (a 0))]) dX4_digest_3 rfl hl (by decide) (fun _ => rfl) (fun y_1 ls hf hl => ?_)
  refine lv_iconst (v := (0 : Int32)) hx hb dX4_digest_4 (by decide) ?_
  refine z_istore_n hf hx hb (fun y => [(3, .int y), (1, .long y_1), (0, .ref (a 0))]) dX4_digest_5 rfl hl (by decide) (fun _ => rfl) (fun y_2 ls hf hl => ?_)
  exact kX4_digest_6 hC0 hQ 64 _ _ _ hf hP hD hS (lv_sub hl [2, 1, 0] rfl)
theorem tX4_digest {S : zS} {r : Int64 × zS} (hf : fX4_digest S = some r) : zMl l yX4_digest wsX4_digest rmX4_digest D (zT cI cZ) A (wX a cI) [.ref (a 0)] S r :=
  zMl_of (by decide) rfl rfl (Nat.le_of_ble_eq_true rfl) (fun hC0 hQ hP hD hS _ hl => kX4_digest hC0 hQ hf hP hD hS hl)
end KX6
