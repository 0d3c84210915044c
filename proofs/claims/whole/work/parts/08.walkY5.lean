section KY5
variable {p : Program} {l : Launch} {e : Env} {s : State} {m : MethodId} {args : Array Value} {below : List Frame} {meth : Method} {c : Code} {Q : State → Prop} {D : va_G} {a : Nat → Nat} {cI cZ : ClassId} {A : Nat → Prop}
abbrev rmX5_better : Room := { frames := 6, cells := 0, slots := 0, locals := 131 }
theorem iwX5_better_5 : ∀ w ∈ wsX50, w ∈ wsX5_better := fun _ h => List.mem_cons_of_mem _ (List.mem_append_right _ h)
set_option maxHeartbeats 4000000 in
set_option maxRecDepth 100000 in
theorem kX5_better {r : Int32 × zS} (hC0 : zC p m c cX5_better 4 s args wsX5_better RX5 D cI cZ) (hQ : zRi p l e rmX5_better s m args below meth c cX5_better D A (wM a cI cZ) Q r) {S : zS} {x1 : Int32} {x2 : Int32} {x3 : Int32} (hf : fX5_better S x1 x2 x3 = some r) {H : Heap} {locs : List Loc} (hP : va_P D vwCl (wM a cI cZ S) H) (hD : va_D A (wM a cI cZ S)) (hS : va_S A s.heap H locs) {ls : Array Slot} (hl : lv_has ls 4 [(0, .ref (a 0)), (1, .int x1), (2, .int x2), (3, .int x3)]) : W p l e rmX5_better s m args below meth c H locs 0 0 Q (F0 m 0 ls []) := by
  obtain ⟨hC, hK, hN⟩ := id hC0
  obtain ⟨hx, hb, hml, hown, hts⟩ := id hC
  have iw5 := iwX5_better_5
  unfold fX5_better at hf
  refine lv_iload_n hx hb dX5_better_0 rfl (lv_at hl 1 rfl) ?_
  obtain ⟨y_1, S_1, hg_1, hf⟩ := obnd_some hf
  refine zci (va_runS (As := [.int x1]) (rest := []) hC (tX5_isAddress hg_1) (va_cwS 1 hts gX5_better_X5_isAddress rfl rfl rfl (by decide +kernel) ⟨Nat.le_of_ble_eq_true rfl, Nat.le_of_ble_eq_true rfl⟩) (zpS hP hK hD hN) rfl rfl hl.1 rfl (lv_room (Nat.le_of_ble_eq_true rfl)) dX5_better_1 ⟨Nat.zero_le _, Nat.zero_le _⟩) hS (fun H locs hP hD hS => ?_)
  refine lv_if_eq (tgt := 21) hx hb dX5_better_4 (by decide) (fun h_1 => ?_) (fun h_1 => ?_)
  · have hf := zt h_1 hf
    refine lv_bipush (v := (-102 : Int32)) hx hb dX5_better_21 (by decide) ?_
    exact zri hf hQ hP hD hS dX5_better_23
  · have hf := zf h_1 hf
    refine lv_iload_n hx hb dX5_better_7 rfl (lv_at hl 2 rfl) ?_
    obtain ⟨y_2, S_2, hg_2, hf⟩ := obnd_some hf
    refine zci (va_runS (As := [.int x2]) (rest := []) hC (tX5_isGoal hg_2) (va_cwS 1 hts gX5_better_X5_isGoal rfl rfl rfl (by decide +kernel) ⟨Nat.le_of_ble_eq_true rfl, Nat.le_of_ble_eq_true rfl⟩) (zpS hP hK hD hN) rfl rfl hl.1 rfl (lv_room (Nat.le_of_ble_eq_true rfl)) dX5_better_8 ⟨Nat.zero_le _, Nat.zero_le _⟩) hS (fun H locs hP hD hS => ?_)
    refine lv_if_eq (tgt := 21) hx hb dX5_better_11 (by decide) (fun h_2 => ?_) (fun h_2 => ?_)
    · have hf := zt h_2 hf
      refine lv_bipush (v := (-102 : Int32)) hx hb dX5_better_21 (by decide) ?_
      exact zri hf hQ hP hD hS dX5_better_23
    · have hf := zf h_2 hf
      refine lv_iload_n hx hb dX5_better_14 rfl (lv_at hl 3 rfl) ?_
      obtain ⟨y_3, S_3, hg_3, hf⟩ := obnd_some hf
      refine zci (va_runS (As := [.int x3]) (rest := []) hC (tX5_isAddress hg_3) (va_cwS 1 hts gX5_better_X5_isAddress rfl rfl rfl (by decide +kernel) ⟨Nat.le_of_ble_eq_true rfl, Nat.le_of_ble_eq_true rfl⟩) (zpS hP hK hD hN) rfl rfl hl.1 rfl (lv_room (Nat.le_of_ble_eq_true rfl)) dX5_better_15 ⟨Nat.zero_le _, Nat.zero_le _⟩) hS (fun H locs hP hD hS => ?_)
      refine lv_if_ne (tgt := 24) hx hb dX5_better_18 (by decide) (fun h_3 => ?_) (fun h_3 => ?_)
      · have hf := zf h_3 hf
        refine lv_aload_n hx hb dX5_better_24 rfl (lv_at hl 0 rfl) ?_
        refine lv_iload_n hx hb dX5_better_25 rfl (lv_at hl 3 rfl) ?_
        obtain ⟨y_4, S_4, hg_4, hf⟩ := obnd_some hf
        refine zci (va_runV (As := [.int x3]) (rest := []) hC (tX5_isOurs hg_4) (cwV 1 hts gX5_better_X5_isOurs rfl rfl rfl (by decide +kernel) ⟨Nat.le_of_ble_eq_true rfl, Nat.le_of_ble_eq_true rfl⟩) (zpV hP hK hD hN (rM_0 hK hP)) rfl rfl hl.1 rfl (lv_room (Nat.le_of_ble_eq_true rfl)) dX5_better_26 ⟨Nat.zero_le _, Nat.zero_le _⟩) hS (fun H locs hP hD hS => ?_)
        refine lv_if_eq (tgt := 35) hx hb dX5_better_29 (by decide) (fun h_4 => ?_) (fun h_4 => ?_)
        · have hf := zt h_4 hf
          refine lv_aload_n hx hb dX5_better_35 rfl (lv_at hl 0 rfl) ?_
          refine lv_iload_n hx hb dX5_better_36 rfl (lv_at hl 2 rfl) ?_
          obtain ⟨y_5, S_5, hg_5, hf⟩ := obnd_some hf
          refine zci (va_runV (As := [.int x2]) (rest := []) hC (tX5_hopNow hg_5) (cwV 1 hts gX5_better_X5_hopNow rfl rfl rfl (by decide +kernel) ⟨Nat.le_of_ble_eq_true rfl, Nat.le_of_ble_eq_true rfl⟩) (zpV hP hK hD hN (rM_0 hK hP)) rfl rfl hl.1 rfl (lv_room (Nat.le_of_ble_eq_true rfl)) dX5_better_37 ⟨Nat.zero_le _, Nat.zero_le _⟩) hS (fun H locs hP hD hS => ?_)
          refine lv_iload_n hx hb dX5_better_40 rfl (lv_at hl 1 rfl) ?_
          refine lv_icmp_eq (tgt := 46) hx hb dX5_better_41 (by decide) (fun h_5 => ?_) (fun h_5 => ?_)
          · have hf := zt h_5 hf
            refine lv_aload_n hx hb dX5_better_46 rfl (lv_at hl 0 rfl) ?_
            refine lv_iload_n hx hb dX5_better_47 rfl (lv_at hl 2 rfl) ?_
            refine lv_iload_n hx hb dX5_better_48 rfl (lv_at hl 3 rfl) ?_
            obtain ⟨S_6, hg_6, hf⟩ := obnv_some hf
            refine zcv (va_runV (As := [.int x2, .int x3]) (rest := []) hC (tX5_keep hg_6) (cwV 2 hts gX5_better_X5_keep rfl rfl rfl (by decide +kernel) ⟨Nat.le_of_ble_eq_true rfl, Nat.le_of_ble_eq_true rfl⟩) (zpV hP hK hD hN (rM_0 hK hP)) rfl rfl hl.1 rfl (lv_room (Nat.le_of_ble_eq_true rfl)) dX5_better_49 ⟨Nat.zero_le _, Nat.zero_le _⟩) hS (fun H locs hP hD hS => ?_)
            refine lv_iconst (v := (1 : Int32)) hx hb dX5_better_52 (by decide) ?_
            exact zri hf hQ hP hD hS dX5_better_53
          · have hf := zf h_5 hf
            refine lv_iconst (v := (0 : Int32)) hx hb dX5_better_44 (by decide) ?_
            exact zri hf hQ hP hD hS dX5_better_45
        · have hf := zf h_4 hf
          refine lv_bipush (v := (-103 : Int32)) hx hb dX5_better_32 (by decide) ?_
          exact zri hf hQ hP hD hS dX5_better_34
      · have hf := zt h_3 hf
        refine lv_bipush (v := (-102 : Int32)) hx hb dX5_better_21 (by decide) ?_
        exact zri hf hQ hP hD hS dX5_better_23
theorem tX5_better {S : zS} {x1 : Int32} {x2 : Int32} {x3 : Int32} {r : Int32 × zS} (hf : fX5_better S x1 x2 x3 = some r) : zMi l yX5_better wsX5_better rmX5_better D (zT cI cZ) A (wM a cI cZ) [.ref (a 0), .int x1, .int x2, .int x3] S r :=
  zMi_of (by decide) rfl rfl (Nat.le_of_ble_eq_true rfl) (fun hC0 hQ hP hD hS _ hl => kX5_better hC0 hQ hf hP hD hS hl)
abbrev rmX5_isHop : Room := { frames := 0, cells := 0, slots := 0, locals := 0 }
theorem iwX5_isHop_5 : ∀ w ∈ wsX50, w ∈ wsX5_isHop := fun _ h => List.mem_cons_of_mem _ (List.mem_append_right _ h)
set_option maxHeartbeats 4000000 in
set_option maxRecDepth 100000 in
theorem kX5_isHop_31 {r : Int32 × zS} (hC0 : zC p m c cX5_isHop 4 s args wsX5_isHop RX5 D cI cZ) (hQ : zRz p l e rmX5_isHop s m args below meth c cX5_isHop D A (wM a cI cZ) Q r) {F4 : zS → Int32 → Int32 → Int32 → Option (Int32 × zS)} (hF4 : ∀ (S : zS) (x1 : Int32) (x2 : Int32) (x3 : Int32), F4 S x1 x2 x3 = some r → ∀ {H : Heap} {locs : List Loc}, va_P D vwCl (wM a cI cZ S) H → va_D A (wM a cI cZ S) → va_S A s.heap H locs → ∀ {ls : Array Slot}, lv_has ls 4 [(0, .ref (a 0)), (1, .int x1), (2, .int x2), (3, .int x3)] → W p l e rmX5_isHop s m args below meth c H locs 0 0 Q (F0 m 4 ls [])) {S : zS} {x1 : Int32} {x3 : Int32} {t0 : Int32} (hf : fX5_isHop_31 F4 S x1 x3 t0 = some r) {H : Heap} {locs : List Loc} (hP : va_P D vwCl (wM a cI cZ S) H) (hD : va_D A (wM a cI cZ S)) (hS : va_S A s.heap H locs) {ls : Array Slot} (hl : lv_has ls 4 [(0, .ref (a 0)), (1, .int x1), (3, .int x3)]) : W p l e rmX5_isHop s m args below meth c H locs 0 0 Q (F0 m 31 ls [.int t0]) := by
  obtain ⟨hC, hK, hN⟩ := id hC0
  obtain ⟨hx, hb, hml, hown, hts⟩ := id hC
  have iw5 := iwX5_isHop_5
  unfold fX5_isHop_31 at hf
  refine z_istore_n hf hx hb (fun y => [(2, .int y), (0, .ref (a 0)), (1, .int x1), (3, .int x3)]) dX5_isHop_31 rfl hl (by decide) (fun _ => rfl) (fun y_1 ls hf hl => ?_)
  refine z_iinc hf hx hb 3 (fun y => [(3, .int y), (2, .int y_1), (0, .ref (a 0)), (1, .int x1)]) dX5_isHop_32 hl rfl (by decide) (by decide) (fun _ => rfl) (fun y_2 ls hf hl => ?_)
  refine lv_goto (tgt := 4) hx hb dX5_isHop_35 (by decide) ?_
  exact hF4 _ _ _ _ hf hP hD hS (lv_sub hl [2, 3, 1, 0] rfl)
set_option maxHeartbeats 4000000 in
set_option maxRecDepth 100000 in
theorem kX5_isHop_26 {r : Int32 × zS} (hC0 : zC p m c cX5_isHop 4 s args wsX5_isHop RX5 D cI cZ) (hQ : zRz p l e rmX5_isHop s m args below meth c cX5_isHop D A (wM a cI cZ) Q r) {F4 : zS → Int32 → Int32 → Int32 → Option (Int32 × zS)} (hF4 : ∀ (S : zS) (x1 : Int32) (x2 : Int32) (x3 : Int32), F4 S x1 x2 x3 = some r → ∀ {H : Heap} {locs : List Loc}, va_P D vwCl (wM a cI cZ S) H → va_D A (wM a cI cZ S) → va_S A s.heap H locs → ∀ {ls : Array Slot}, lv_has ls 4 [(0, .ref (a 0)), (1, .int x1), (2, .int x2), (3, .int x3)] → W p l e rmX5_isHop s m args below meth c H locs 0 0 Q (F0 m 4 ls [])) {S : zS} {x1 : Int32} {x3 : Int32} (hf : fX5_isHop_26 F4 S x1 x3 = some r) {H : Heap} {locs : List Loc} (hP : va_P D vwCl (wM a cI cZ S) H) (hD : va_D A (wM a cI cZ S)) (hS : va_S A s.heap H locs) {ls : Array Slot} (hl : lv_has ls 4 [(0, .ref (a 0)), (1, .int x1), (3, .int x3)]) : W p l e rmX5_isHop s m args below meth c H locs 0 0 Q (F0 m 26 ls []) := by
  obtain ⟨hC, hK, hN⟩ := id hC0
  obtain ⟨hx, hb, hml, hown, hts⟩ := id hC
  have iw5 := iwX5_isHop_5
  unfold fX5_isHop_26 at hf
  refine lv_iconst (v := (1 : Int32)) hx hb dX5_isHop_26 (by decide) ?_
  refine lv_goto (tgt := 31) hx hb dX5_isHop_27 (by decide) ?_
  exact kX5_isHop_31 hC0 hQ hF4 hf hP hD hS (lv_sub hl [0, 1, 2] rfl)
set_option maxHeartbeats 4000000 in
set_option maxRecDepth 100000 in
theorem kX5_isHop_4b {r : Int32 × zS} (hC0 : zC p m c cX5_isHop 4 s args wsX5_isHop RX5 D cI cZ) (hQ : zRz p l e rmX5_isHop s m args below meth c cX5_isHop D A (wM a cI cZ) Q r) {F4 : zS → Int32 → Int32 → Int32 → Option (Int32 × zS)} (hF4 : ∀ (S : zS) (x1 : Int32) (x2 : Int32) (x3 : Int32), F4 S x1 x2 x3 = some r → ∀ {H : Heap} {locs : List Loc}, va_P D vwCl (wM a cI cZ S) H → va_D A (wM a cI cZ S) → va_S A s.heap H locs → ∀ {ls : Array Slot}, lv_has ls 4 [(0, .ref (a 0)), (1, .int x1), (2, .int x2), (3, .int x3)] → W p l e rmX5_isHop s m args below meth c H locs 0 0 Q (F0 m 4 ls [])) {S : zS} {x1 : Int32} {x2 : Int32} {x3 : Int32} (hf : bX5_isHop_4 F4 S x1 x2 x3 = some r) {H : Heap} {locs : List Loc} (hP : va_P D vwCl (wM a cI cZ S) H) (hD : va_D A (wM a cI cZ S)) (hS : va_S A s.heap H locs) {ls : Array Slot} (hl : lv_has ls 4 [(0, .ref (a 0)), (1, .int x1), (2, .int x2), (3, .int x3)]) : W p l e rmX5_isHop s m args below meth c H locs 0 0 Q (F0 m 4 ls []) := by
  obtain ⟨hC, hK, hN⟩ := id hC0
  obtain ⟨hx, hb, hml, hown, hts⟩ := id hC
  have iw5 := iwX5_isHop_5
  unfold bX5_isHop_4 at hf
  refine lv_iload_n hx hb dX5_isHop_4 rfl (lv_at hl 3 rfl) ?_
  refine lv_aload_n hx hb dX5_isHop_5 rfl (lv_at hl 0 rfl) ?_
  refine gM5_hops hx hb hts iw5 hown hK hP (List.mem_of_getElem? (i := 1) rfl) dX5_isHop_6 ?_
  refine lv_icmp_ge (tgt := 38) hx hb dX5_isHop_9 (by decide) (fun h_1 => ?_) (fun h_1 => ?_)
  · have hf := zt h_1 hf
    refine lv_iload_n hx hb dX5_isHop_38 rfl (lv_at hl 2 rfl) ?_
    obtain ⟨hz_1, hf⟩ := zbl_some hf
    exact zrz hf hz_1 hQ hP hD hS dX5_isHop_39
  · have hf := zf h_1 hf
    refine lv_iload_n hx hb dX5_isHop_12 rfl (lv_at hl 2 rfl) ?_
    refine lv_if_ne (tgt := 26) hx hb dX5_isHop_13 (by decide) (fun h_2 => ?_) (fun h_2 => ?_)
    · have hf := zf h_2 hf
      exact kX5_isHop_26 hC0 hQ hF4 hf hP hD hS (lv_sub hl [0, 1, 3] rfl)
    · have hf := zt h_2 hf
      refine lv_aload_n hx hb dX5_isHop_16 rfl (lv_at hl 0 rfl) ?_
      refine gM5_hopOf hx hb hts iw5 hown hK hP (List.mem_of_getElem? (i := 2) rfl) dX5_isHop_17 ?_
      refine lv_iload_n hx hb dX5_isHop_20 rfl (lv_at hl 3 rfl) ?_
      refine lM5_hopOf hf hx hb hK hP dX5_isHop_21 (fun hf => ?_)
      refine lv_iload_n hx hb dX5_isHop_22 rfl (lv_at hl 1 rfl) ?_
      refine lv_icmp_ne (tgt := 30) hx hb dX5_isHop_23 (by decide) (fun h_3 => ?_) (fun h_3 => ?_)
      · have hf := zf h_3 hf
        refine lv_iconst (v := (0 : Int32)) hx hb dX5_isHop_30 (by decide) ?_
        exact kX5_isHop_31 hC0 hQ hF4 hf hP hD hS (lv_sub hl [0, 1, 3] rfl)
      · have hf := zt h_3 hf
        exact kX5_isHop_26 hC0 hQ hF4 hf hP hD hS (lv_sub hl [0, 1, 3] rfl)
theorem kX5_isHop_4 {r : Int32 × zS} (hC0 : zC p m c cX5_isHop 4 s args wsX5_isHop RX5 D cI cZ) (hQ : zRz p l e rmX5_isHop s m args below meth c cX5_isHop D A (wM a cI cZ) Q r) (n : Nat) : ∀ (S : zS) (x1 : Int32) (x2 : Int32) (x3 : Int32), fX5_isHop_4 n S x1 x2 x3 = some r → ∀ {H : Heap} {locs : List Loc}, va_P D vwCl (wM a cI cZ S) H → va_D A (wM a cI cZ S) → va_S A s.heap H locs → ∀ {ls : Array Slot}, lv_has ls 4 [(0, .ref (a 0)), (1, .int x1), (2, .int x2), (3, .int x3)] → W p l e rmX5_isHop s m args below meth c H locs 0 0 Q (F0 m 4 ls []) := by
  induction n with
  | zero => intro S x1 x2 x3 hf; cases hf
  | succ n ih => intro S x1 x2 x3 hf; exact kX5_isHop_4b hC0 hQ ih hf
set_option maxHeartbeats 4000000 in
set_option maxRecDepth 100000 in
theorem kX5_isHop {r : Int32 × zS} (hC0 : zC p m c cX5_isHop 4 s args wsX5_isHop RX5 D cI cZ) (hQ : zRz p l e rmX5_isHop s m args below meth c cX5_isHop D A (wM a cI cZ) Q r) {S : zS} {x1 : Int32} (hf : fX5_isHop S x1 = some r) {H : Heap} {locs : List Loc} (hP : va_P D vwCl (wM a cI cZ S) H) (hD : va_D A (wM a cI cZ S)) (hS : va_S A s.heap H locs) {ls : Array Slot} (hl : lv_has ls 4 [(0, .ref (a 0)), (1, .int x1)]) : W p l e rmX5_isHop s m args below meth c H locs 0 0 Q (F0 m 0 ls []) := by
  obtain ⟨hC, hK, hN⟩ := id hC0
  obtain ⟨hx, hb, hml, hown, hts⟩ := id hC
  have iw5 := iwX5_isHop_5
  unfold fX5_isHop at hf
  refine lv_iconst (v := (0 : Int32)) hx hb dX5_isHop_0 (by decide) ?_
  refine z_istore_n hf hx hb (fun y => [(2, .int y), (0, .ref (a 0)), (1, .int x1)]) dX5_isHop_1 rfl hl (by decide) (fun _ => rfl) (fun y_1 ls hf hl => ?_)
  refine lv_iconst (v := (0 : Int32)) hx hb dX5_isHop_2 (by decide) ?_
  refine z_istore_n hf hx hb (fun y => [(3, .int y), (2, .int y_1), (0, .ref (a 0)), (1, .int x1)]) dX5_isHop_3 rfl hl (by decide) (fun _ => rfl) (fun y_2 ls hf hl => ?_)
  exact kX5_isHop_4 hC0 hQ 64 _ _ _ _ hf hP hD hS (lv_sub hl [2, 3, 1, 0] rfl)
theorem tX5_isHop {S : zS} {x1 : Int32} {r : Int32 × zS} (hf : fX5_isHop S x1 = some r) : zMi l yX5_isHop wsX5_isHop rmX5_isHop D (zT cI cZ) A (wM a cI cZ) [.ref (a 0), .int x1] S r :=
  zMz_of (by decide) rfl rfl (Nat.le_of_ble_eq_true rfl) (fun hC0 hQ hP hD hS _ hl => kX5_isHop hC0 hQ hf hP hD hS hl)
abbrev rmX5_claim : Room := { frames := 2, cells := 0, slots := 0, locals := 42 }
theorem iwX5_claim_5 : ∀ w ∈ wsX50, w ∈ wsX5_claim := fun _ h => List.mem_cons_of_mem _ (List.mem_append_right _ h)
set_option maxHeartbeats 4000000 in
set_option maxRecDepth 100000 in
theorem kX5_claim_53 {r : Int32 × zS} (hC0 : zC p m c cX5_claim 3 s args wsX5_claim RX5 D cI cZ) (hQ : zRi p l e rmX5_claim s m args below meth c cX5_claim D A (wM a cI cZ) Q r) {S : zS} {x1 : Int32} {t0 : Int32} (hf : fX5_claim_53 S x1 t0 = some r) {H : Heap} {locs : List Loc} (hP : va_P D vwCl (wM a cI cZ S) H) (hD : va_D A (wM a cI cZ S)) (hS : va_S A s.heap H locs) {ls : Array Slot} (hl : lv_has ls 3 [(0, .ref (a 0)), (1, .int x1)]) : W p l e rmX5_claim s m args below meth c H locs 0 0 Q (F0 m 53 ls [.int t0]) := by
  obtain ⟨hC, hK, hN⟩ := id hC0
  obtain ⟨hx, hb, hml, hown, hts⟩ := id hC
  have iw5 := iwX5_claim_5
  unfold fX5_claim_53 at hf
  refine z_istore_n hf hx hb (fun y => [(2, .int y), (0, .ref (a 0)), (1, .int x1)]) dX5_claim_53 rfl hl (by decide) (fun _ => rfl) (fun y_1 ls hf hl => ?_)
  refine lv_aload_n hx hb dX5_claim_54 rfl (lv_at hl 1 rfl) ?_
  refine gM5_own hx hb hts iw5 hown hK hP (List.mem_of_getElem? (i := 4) rfl) dX5_claim_55 ?_
  refine lv_iconst (v := (-1 : Int32)) hx hb dX5_claim_58 (by decide) ?_
  refine lv_icmp_ne (tgt := 74) hx hb dX5_claim_59 (by decide) (fun h_1 => ?_) (fun h_1 => ?_)
  · have hf := zf h_1 hf
    refine lv_bipush (v := (-103 : Int32)) hx hb dX5_claim_74 (by decide) ?_
    exact zri hf hQ hP hD hS dX5_claim_76
  · have hf := zt h_1 hf
    refine lv_aload_n hx hb dX5_claim_62 rfl (lv_at hl 1 rfl) ?_
    refine gM5_trial hx hb hts iw5 hown hK hP (List.mem_of_getElem? (i := 5) rfl) dX5_claim_63 ?_
    refine lv_iconst (v := (-1 : Int32)) hx hb dX5_claim_66 (by decide) ?_
    refine lv_icmp_ne (tgt := 74) hx hb dX5_claim_67 (by decide) (fun h_2 => ?_) (fun h_2 => ?_)
    · have hf := zf h_2 hf
      refine lv_bipush (v := (-103 : Int32)) hx hb dX5_claim_74 (by decide) ?_
      exact zri hf hQ hP hD hS dX5_claim_76
    · have hf := zt h_2 hf
      refine lv_iload_n hx hb dX5_claim_70 rfl (lv_at hl 0 rfl) ?_
      refine lv_if_eq (tgt := 77) hx hb dX5_claim_71 (by decide) (fun h_3 => ?_) (fun h_3 => ?_)
      · have hf := zt h_3 hf
        refine lv_aload_n hx hb dX5_claim_77 rfl (lv_at hl 1 rfl) ?_
        refine lv_iload_n hx hb dX5_claim_78 rfl (lv_at hl 2 rfl) ?_
        refine pM5_trial hf hx hb hts iw5 hown hK hP hD hS (List.mem_of_getElem? (i := 5) rfl) dX5_claim_79 (fun S_1 H locs hf hP hD hS => ?_)
        refine lv_aload_n hx hb dX5_claim_82 rfl (lv_at hl 1 rfl) ?_
        refine lv_aload_n hx hb dX5_claim_83 rfl (lv_at hl 1 rfl) ?_
        refine gM5_clock hx hb hts iw5 hown hK hP (List.mem_of_getElem? (i := 6) rfl) dX5_claim_84 ?_
        refine pM5_began hf hx hb hts iw5 hown hK hP hD hS (List.mem_of_getElem? (i := 7) rfl) dX5_claim_87 (fun S_2 H locs hf hP hD hS => ?_)
        refine lv_aload_n hx hb dX5_claim_90 rfl (lv_at hl 1 rfl) ?_
        refine lv_iconst (v := (4 : Int32)) hx hb dX5_claim_91 (by decide) ?_
        refine lv_iload_n hx hb dX5_claim_92 rfl (lv_at hl 2 rfl) ?_
        refine lv_iconst (v := (0 : Int32)) hx hb dX5_claim_93 (by decide) ?_
        refine lv_iconst (v := (0 : Int32)) hx hb dX5_claim_94 (by decide) ?_
        obtain ⟨S_3, hg_1, hf⟩ := obnv_some hf
        refine zcv (va_runV (As := [.int (4 : Int32), .int x1, .int (0 : Int32), .int (0 : Int32)]) (rest := []) hC (tX5_goOut hg_1) (cwV 4 hts gX5_claim_X5_goOut rfl rfl rfl (by decide +kernel) ⟨Nat.le_of_ble_eq_true rfl, Nat.le_of_ble_eq_true rfl⟩) (zpV hP hK hD hN (rM_0 hK hP)) rfl rfl hl.1 rfl (lv_room (Nat.le_of_ble_eq_true rfl)) dX5_claim_95 ⟨Nat.zero_le _, Nat.zero_le _⟩) hS (fun H locs hP hD hS => ?_)
        refine lv_aload_n hx hb dX5_claim_98 rfl (lv_at hl 1 rfl) ?_
        refine gM5_clock hx hb hts iw5 hown hK hP (List.mem_of_getElem? (i := 6) rfl) dX5_claim_99 ?_
        refine lv_bipush (v := (10 : Int32)) hx hb dX5_claim_102 (by decide) ?_
        refine lv_iadd hx hb dX5_claim_104 ?_
        exact zri hf hQ hP hD hS dX5_claim_105
      · have hf := zf h_3 hf
        refine lv_bipush (v := (-103 : Int32)) hx hb dX5_claim_74 (by decide) ?_
        exact zri hf hQ hP hD hS dX5_claim_76
set_option maxHeartbeats 4000000 in
set_option maxRecDepth 100000 in
theorem kX5_claim_48 {r : Int32 × zS} (hC0 : zC p m c cX5_claim 3 s args wsX5_claim RX5 D cI cZ) (hQ : zRi p l e rmX5_claim s m args below meth c cX5_claim D A (wM a cI cZ) Q r) {S : zS} {x1 : Int32} (hf : fX5_claim_48 S x1 = some r) {H : Heap} {locs : List Loc} (hP : va_P D vwCl (wM a cI cZ S) H) (hD : va_D A (wM a cI cZ S)) (hS : va_S A s.heap H locs) {ls : Array Slot} (hl : lv_has ls 3 [(0, .ref (a 0)), (1, .int x1)]) : W p l e rmX5_claim s m args below meth c H locs 0 0 Q (F0 m 48 ls []) := by
  obtain ⟨hC, hK, hN⟩ := id hC0
  obtain ⟨hx, hb, hml, hown, hts⟩ := id hC
  have iw5 := iwX5_claim_5
  unfold fX5_claim_48 at hf
  refine lv_iconst (v := (1 : Int32)) hx hb dX5_claim_48 (by decide) ?_
  refine lv_goto (tgt := 53) hx hb dX5_claim_49 (by decide) ?_
  exact kX5_claim_53 hC0 hQ hf hP hD hS (lv_sub hl [0, 1] rfl)
set_option maxHeartbeats 4000000 in
set_option maxRecDepth 100000 in
theorem kX5_claim {r : Int32 × zS} (hC0 : zC p m c cX5_claim 3 s args wsX5_claim RX5 D cI cZ) (hQ : zRi p l e rmX5_claim s m args below meth c cX5_claim D A (wM a cI cZ) Q r) {S : zS} {x1 : Int32} (hf : fX5_claim S x1 = some r) {H : Heap} {locs : List Loc} (hP : va_P D vwCl (wM a cI cZ S) H) (hD : va_D A (wM a cI cZ S)) (hS : va_S A s.heap H locs) {ls : Array Slot} (hl : lv_has ls 3 [(0, .ref (a 0)), (1, .int x1)]) : W p l e rmX5_claim s m args below meth c H locs 0 0 Q (F0 m 0 ls []) := by
  obtain ⟨hC, hK, hN⟩ := id hC0
  obtain ⟨hx, hb, hml, hown, hts⟩ := id hC
  have iw5 := iwX5_claim_5
  unfold fX5_claim at hf
  refine lv_iload_n hx hb dX5_claim_0 rfl (lv_at hl 1 rfl) ?_
  obtain ⟨y_1, S_1, hg_1, hf⟩ := obnd_some hf
  refine zci (va_runS (As := [.int x1]) (rest := []) hC (tX5_isAddress hg_1) (va_cwS 1 hts gX5_claim_X5_isAddress rfl rfl rfl (by decide +kernel) ⟨Nat.le_of_ble_eq_true rfl, Nat.le_of_ble_eq_true rfl⟩) (zpS hP hK hD hN) rfl rfl hl.1 rfl (lv_room (Nat.le_of_ble_eq_true rfl)) dX5_claim_1 ⟨Nat.zero_le _, Nat.zero_le _⟩) hS (fun H locs hP hD hS => ?_)
  refine lv_if_ne (tgt := 10) hx hb dX5_claim_4 (by decide) (fun h_1 => ?_) (fun h_1 => ?_)
  · have hf := zf h_1 hf
    refine lv_aload_n hx hb dX5_claim_10 rfl (lv_at hl 0 rfl) ?_
    refine gM5_isThere hx hb hts iw5 hown hK hP (List.mem_of_getElem? (i := 1) rfl) dX5_claim_11 ?_
    refine lv_iload_n hx hb dX5_claim_14 rfl (lv_at hl 1 rfl) ?_
    refine lM5_isThere hf hx hb hK hP dX5_claim_15 (fun hf => ?_)
    refine lv_if_ne (tgt := 48) hx hb dX5_claim_16 (by decide) (fun h_2 => ?_) (fun h_2 => ?_)
    · have hf := zf h_2 hf
      exact kX5_claim_48 hC0 hQ hf hP hD hS (lv_sub hl [0, 1] rfl)
    · have hf := zt h_2 hf
      refine lv_aload_n hx hb dX5_claim_19 rfl (lv_at hl 0 rfl) ?_
      refine gM5_isRouter hx hb hts iw5 hown hK hP (List.mem_of_getElem? (i := 2) rfl) dX5_claim_20 ?_
      refine lv_iload_n hx hb dX5_claim_23 rfl (lv_at hl 1 rfl) ?_
      refine lM5_isRouter hf hx hb hK hP dX5_claim_24 (fun hf => ?_)
      refine lv_if_ne (tgt := 48) hx hb dX5_claim_25 (by decide) (fun h_3 => ?_) (fun h_3 => ?_)
      · have hf := zf h_3 hf
        exact kX5_claim_48 hC0 hQ hf hP hD hS (lv_sub hl [0, 1] rfl)
      · have hf := zt h_3 hf
        refine lv_aload_n hx hb dX5_claim_28 rfl (lv_at hl 0 rfl) ?_
        refine lv_iload_n hx hb dX5_claim_29 rfl (lv_at hl 1 rfl) ?_
        obtain ⟨y_2, S_2, hg_2, hf⟩ := obnd_some hf
        refine zci (va_runV (As := [.int x1]) (rest := []) hC (tX5_isHop hg_2) (cwV 1 hts gX5_claim_X5_isHop rfl rfl rfl (by decide +kernel) ⟨Nat.le_of_ble_eq_true rfl, Nat.le_of_ble_eq_true rfl⟩) (zpV hP hK hD hN (rM_0 hK hP)) rfl rfl hl.1 rfl (lv_room (Nat.le_of_ble_eq_true rfl)) dX5_claim_30 ⟨Nat.zero_le _, Nat.zero_le _⟩) hS (fun H locs hP hD hS => ?_)
        refine lv_if_ne (tgt := 48) hx hb dX5_claim_33 (by decide) (fun h_4 => ?_) (fun h_4 => ?_)
        · have hf := zf h_4 hf
          exact kX5_claim_48 hC0 hQ hf hP hD hS (lv_sub hl [0, 1] rfl)
        · have hf := zt h_4 hf
          refine lv_aload_n hx hb dX5_claim_36 rfl (lv_at hl 0 rfl) ?_
          refine gM5_doubled hx hb hts iw5 hown hK hP (List.mem_of_getElem? (i := 3) rfl) dX5_claim_37 ?_
          refine lv_iload_n hx hb dX5_claim_40 rfl (lv_at hl 1 rfl) ?_
          refine lv_ishr hx hb dX5_claim_41 ?_
          refine lv_iconst (v := (1 : Int32)) hx hb dX5_claim_42 (by decide) ?_
          refine lv_iand hx hb dX5_claim_43 ?_
          refine lv_iconst (v := (1 : Int32)) hx hb dX5_claim_44 (by decide) ?_
          refine lv_icmp_ne (tgt := 52) hx hb dX5_claim_45 (by decide) (fun h_5 => ?_) (fun h_5 => ?_)
          · have hf := zf h_5 hf
            refine lv_iconst (v := (0 : Int32)) hx hb dX5_claim_52 (by decide) ?_
            exact kX5_claim_53 hC0 hQ hf hP hD hS (lv_sub hl [0, 1] rfl)
          · have hf := zt h_5 hf
            exact kX5_claim_48 hC0 hQ hf hP hD hS (lv_sub hl [0, 1] rfl)
  · have hf := zt h_1 hf
    refine lv_bipush (v := (-102 : Int32)) hx hb dX5_claim_7 (by decide) ?_
    exact zri hf hQ hP hD hS dX5_claim_9
theorem tX5_claim {S : zS} {x1 : Int32} {r : Int32 × zS} (hf : fX5_claim S x1 = some r) : zMi l yX5_claim wsX5_claim rmX5_claim D (zT cI cZ) A (wM a cI cZ) [.ref (a 0), .int x1] S r :=
  zMi_of (by decide) rfl rfl (Nat.le_of_ble_eq_true rfl) (fun hC0 hQ hP hD hS _ hl => kX5_claim hC0 hQ hf hP hD hS hl)
abbrev rmX5_give : Room := { frames := 0, cells := 0, slots := 0, locals := 0 }
theorem iwX5_give_5 : ∀ w ∈ wsX50, w ∈ wsX5_give := fun _ h => List.mem_cons_of_mem _ (List.mem_append_right _ h)
set_option maxHeartbeats 4000000 in
set_option maxRecDepth 100000 in
theorem kX5_give_38 {r : Int32 × zS} (hC0 : zC p m c cX5_give 2 s args wsX5_give RX5 D cI cZ) (hQ : zRi p l e rmX5_give s m args below meth c cX5_give D A (wM a cI cZ) Q r) {S : zS} {t0 : Int32} (hf : fX5_give_38 S t0 = some r) {H : Heap} {locs : List Loc} (hP : va_P D vwCl (wM a cI cZ S) H) (hD : va_D A (wM a cI cZ S)) (hS : va_S A s.heap H locs) {ls : Array Slot} (hl : lv_has ls 2 [(0, .ref (a 0))]) : W p l e rmX5_give s m args below meth c H locs 0 0 Q (F0 m 38 ls [.int t0]) := by
  obtain ⟨hC, hK, hN⟩ := id hC0
  obtain ⟨hx, hb, hml, hown, hts⟩ := id hC
  have iw5 := iwX5_give_5
  unfold fX5_give_38 at hf
  refine z_istore_n hf hx hb (fun y => [(1, .int y), (0, .ref (a 0))]) dX5_give_38 rfl hl (by decide) (fun _ => rfl) (fun y_1 ls hf hl => ?_)
  refine lv_aload_n hx hb dX5_give_39 rfl (lv_at hl 1 rfl) ?_
  refine lv_iconst (v := (-1 : Int32)) hx hb dX5_give_40 (by decide) ?_
  refine pM5_own hf hx hb hts iw5 hown hK hP hD hS (List.mem_of_getElem? (i := 1) rfl) dX5_give_41 (fun S_1 H locs hf hP hD hS => ?_)
  refine lv_aload_n hx hb dX5_give_44 rfl (lv_at hl 1 rfl) ?_
  refine lv_iconst (v := (-1 : Int32)) hx hb dX5_give_45 (by decide) ?_
  refine pM5_trial hf hx hb hts iw5 hown hK hP hD hS (List.mem_of_getElem? (i := 2) rfl) dX5_give_46 (fun S_2 H locs hf hP hD hS => ?_)
  refine lv_iload_n hx hb dX5_give_49 rfl (lv_at hl 0 rfl) ?_
  exact zri hf hQ hP hD hS dX5_give_50
set_option maxHeartbeats 4000000 in
set_option maxRecDepth 100000 in
theorem kX5_give_19 {r : Int32 × zS} (hC0 : zC p m c cX5_give 2 s args wsX5_give RX5 D cI cZ) (hQ : zRi p l e rmX5_give s m args below meth c cX5_give D A (wM a cI cZ) Q r) {S : zS} (hf : fX5_give_19 S = some r) {H : Heap} {locs : List Loc} (hP : va_P D vwCl (wM a cI cZ S) H) (hD : va_D A (wM a cI cZ S)) (hS : va_S A s.heap H locs) {ls : Array Slot} (hl : lv_has ls 2 [(0, .ref (a 0))]) : W p l e rmX5_give s m args below meth c H locs 0 0 Q (F0 m 19 ls []) := by
  obtain ⟨hC, hK, hN⟩ := id hC0
  obtain ⟨hx, hb, hml, hown, hts⟩ := id hC
  have iw5 := iwX5_give_5
  unfold fX5_give_19 at hf
  refine lv_aload_n hx hb dX5_give_19 rfl (lv_at hl 0 rfl) ?_
  refine gM5_own hx hb hts iw5 hown hK hP (List.mem_of_getElem? (i := 1) rfl) dX5_give_20 ?_
  refine lv_iconst (v := (-1 : Int32)) hx hb dX5_give_23 (by decide) ?_
  refine lv_icmp_ne (tgt := 34) hx hb dX5_give_24 (by decide) (fun h_1 => ?_) (fun h_1 => ?_)
  · have hf := zf h_1 hf
    refine lv_aload_n hx hb dX5_give_34 rfl (lv_at hl 0 rfl) ?_
    refine gM5_own hx hb hts iw5 hown hK hP (List.mem_of_getElem? (i := 1) rfl) dX5_give_35 ?_
    exact kX5_give_38 hC0 hQ hf hP hD hS (lv_sub hl [0] rfl)
  · have hf := zt h_1 hf
    refine lv_aload_n hx hb dX5_give_27 rfl (lv_at hl 0 rfl) ?_
    refine gM5_trial hx hb hts iw5 hown hK hP (List.mem_of_getElem? (i := 2) rfl) dX5_give_28 ?_
    refine lv_goto (tgt := 38) hx hb dX5_give_31 (by decide) ?_
    exact kX5_give_38 hC0 hQ hf hP hD hS (lv_sub hl [0] rfl)
set_option maxHeartbeats 4000000 in
set_option maxRecDepth 100000 in
theorem kX5_give {r : Int32 × zS} (hC0 : zC p m c cX5_give 2 s args wsX5_give RX5 D cI cZ) (hQ : zRi p l e rmX5_give s m args below meth c cX5_give D A (wM a cI cZ) Q r) {S : zS} (hf : fX5_give S = some r) {H : Heap} {locs : List Loc} (hP : va_P D vwCl (wM a cI cZ S) H) (hD : va_D A (wM a cI cZ S)) (hS : va_S A s.heap H locs) {ls : Array Slot} (hl : lv_has ls 2 [(0, .ref (a 0))]) : W p l e rmX5_give s m args below meth c H locs 0 0 Q (F0 m 0 ls []) := by
  obtain ⟨hC, hK, hN⟩ := id hC0
  obtain ⟨hx, hb, hml, hown, hts⟩ := id hC
  have iw5 := iwX5_give_5
  unfold fX5_give at hf
  refine lv_aload_n hx hb dX5_give_0 rfl (lv_at hl 0 rfl) ?_
  refine gM5_own hx hb hts iw5 hown hK hP (List.mem_of_getElem? (i := 1) rfl) dX5_give_1 ?_
  refine lv_iconst (v := (-1 : Int32)) hx hb dX5_give_4 (by decide) ?_
  refine lv_icmp_ne (tgt := 19) hx hb dX5_give_5 (by decide) (fun h_1 => ?_) (fun h_1 => ?_)
  · have hf := zf h_1 hf
    exact kX5_give_19 hC0 hQ hf hP hD hS (lv_sub hl [0] rfl)
  · have hf := zt h_1 hf
    refine lv_aload_n hx hb dX5_give_8 rfl (lv_at hl 0 rfl) ?_
    refine gM5_trial hx hb hts iw5 hown hK hP (List.mem_of_getElem? (i := 2) rfl) dX5_give_9 ?_
    refine lv_iconst (v := (-1 : Int32)) hx hb dX5_give_12 (by decide) ?_
    refine lv_icmp_ne (tgt := 19) hx hb dX5_give_13 (by decide) (fun h_2 => ?_) (fun h_2 => ?_)
    · have hf := zf h_2 hf
      exact kX5_give_19 hC0 hQ hf hP hD hS (lv_sub hl [0] rfl)
    · have hf := zt h_2 hf
      refine lv_bipush (v := (-103 : Int32)) hx hb dX5_give_16 (by decide) ?_
      exact zri hf hQ hP hD hS dX5_give_18
theorem tX5_give {S : zS} {r : Int32 × zS} (hf : fX5_give S = some r) : zMi l yX5_give wsX5_give rmX5_give D (zT cI cZ) A (wM a cI cZ) [.ref (a 0)] S r :=
  zMi_of (by decide) rfl rfl (Nat.le_of_ble_eq_true rfl) (fun hC0 hQ hP hD hS _ hl => kX5_give hC0 hQ hf hP hD hS hl)
abbrev rmX5_goneAt : Room := { frames := 0, cells := 0, slots := 0, locals := 0 }
theorem iwX5_goneAt_5 : ∀ w ∈ wsX50, w ∈ wsX5_goneAt := fun _ h => List.mem_cons_of_mem _ (List.mem_append_right _ h)
set_option maxHeartbeats 4000000 in
set_option maxRecDepth 100000 in
theorem kX5_goneAt {r : Int32 × zS} (hC0 : zC p m c cX5_goneAt 2 s args wsX5_goneAt RX5 D cI cZ) (hQ : zRi p l e rmX5_goneAt s m args below meth c cX5_goneAt D A (wM a cI cZ) Q r) {S : zS} {x1 : Int32} (hf : fX5_goneAt S x1 = some r) {H : Heap} {locs : List Loc} (hP : va_P D vwCl (wM a cI cZ S) H) (hD : va_D A (wM a cI cZ S)) (hS : va_S A s.heap H locs) {ls : Array Slot} (hl : lv_has ls 2 [(0, .ref (a 0)), (1, .int x1)]) : W p l e rmX5_goneAt s m args below meth c H locs 0 0 Q (F0 m 0 ls []) := by
  obtain ⟨hC, hK, hN⟩ := id hC0
  obtain ⟨hx, hb, hml, hown, hts⟩ := id hC
  have iw5 := iwX5_goneAt_5
  unfold fX5_goneAt at hf
  refine lv_aload_n hx hb dX5_goneAt_0 rfl (lv_at hl 0 rfl) ?_
  refine gM5_state hx hb hts iw5 hown hK hP (List.mem_of_getElem? (i := 1) rfl) dX5_goneAt_1 ?_
  refine lv_iload_n hx hb dX5_goneAt_4 rfl (lv_at hl 1 rfl) ?_
  refine lM5_state hf hx hb hK hP dX5_goneAt_5 (fun hf => ?_)
  by_cases h_1 : (S.2.1 1 (x1).toNatClampNeg) = (0 : Int32)
  · have hf := zt h_1 hf
    refine lv_tableIn (off := 34) (tgt := 40) hx hb dX5_goneAt_6 (by rw [h_1]; decide) (by rw [h_1]; decide) (by rw [h_1]; rfl) (by decide) ?_
    refine lv_aload_n hx hb dX5_goneAt_40 rfl (lv_at hl 0 rfl) ?_
    refine gM5_end hx hb hts iw5 hown hK hP (List.mem_of_getElem? (i := 2) rfl) dX5_goneAt_41 ?_
    refine lv_iload_n hx hb dX5_goneAt_44 rfl (lv_at hl 1 rfl) ?_
    refine lM5_end hf hx hb hK hP dX5_goneAt_45 (fun hf => ?_)
    refine lv_bipush (v := (6 : Int32)) hx hb dX5_goneAt_46 (by decide) ?_
    refine lv_iconst (v := (3 : Int32)) hx hb dX5_goneAt_48 (by decide) ?_
    refine lv_aload_n hx hb dX5_goneAt_49 rfl (lv_at hl 0 rfl) ?_
    refine gM5_tries hx hb hts iw5 hown hK hP (List.mem_of_getElem? (i := 3) rfl) dX5_goneAt_50 ?_
    refine lv_iload_n hx hb dX5_goneAt_53 rfl (lv_at hl 1 rfl) ?_
    refine lM5_tries hf hx hb hK hP dX5_goneAt_54 (fun hf => ?_)
    refine lv_isub hx hb dX5_goneAt_55 ?_
    refine lv_imul hx hb dX5_goneAt_56 ?_
    refine lv_iadd hx hb dX5_goneAt_57 ?_
    exact zri hf hQ hP hD hS dX5_goneAt_58
  · have hf := zf h_1 hf
    by_cases h_2 : (S.2.1 1 (x1).toNatClampNeg) = (1 : Int32)
    · have hf := zt h_2 hf
      refine lv_tableIn (off := 81) (tgt := 87) hx hb dX5_goneAt_6 (by rw [h_2]; decide) (by rw [h_2]; decide) (by rw [h_2]; rfl) (by decide) ?_
      refine lv_iconst (v := (-1 : Int32)) hx hb dX5_goneAt_87 (by decide) ?_
      exact zri hf hQ hP hD hS dX5_goneAt_88
    · have hf := zf h_2 hf
      by_cases h_3 : (S.2.1 1 (x1).toNatClampNeg) = (2 : Int32)
      · have hf := zt h_3 hf
        refine lv_tableIn (off := 81) (tgt := 87) hx hb dX5_goneAt_6 (by rw [h_3]; decide) (by rw [h_3]; decide) (by rw [h_3]; rfl) (by decide) ?_
        refine lv_iconst (v := (-1 : Int32)) hx hb dX5_goneAt_87 (by decide) ?_
        exact zri hf hQ hP hD hS dX5_goneAt_88
      · have hf := zf h_3 hf
        by_cases h_4 : (S.2.1 1 (x1).toNatClampNeg) = (3 : Int32)
        · have hf := zt h_4 hf
          refine lv_tableIn (off := 53) (tgt := 59) hx hb dX5_goneAt_6 (by rw [h_4]; decide) (by rw [h_4]; decide) (by rw [h_4]; rfl) (by decide) ?_
          refine lv_aload_n hx hb dX5_goneAt_59 rfl (lv_at hl 0 rfl) ?_
          refine gM5_end hx hb hts iw5 hown hK hP (List.mem_of_getElem? (i := 2) rfl) dX5_goneAt_60 ?_
          refine lv_iload_n hx hb dX5_goneAt_63 rfl (lv_at hl 1 rfl) ?_
          refine lM5_end hf hx hb hK hP dX5_goneAt_64 (fun hf => ?_)
          refine lv_bipush (v := (12 : Int32)) hx hb dX5_goneAt_65 (by decide) ?_
          refine lv_iadd hx hb dX5_goneAt_67 ?_
          exact zri hf hQ hP hD hS dX5_goneAt_68
        · have hf := zf h_4 hf
          by_cases h_5 : (S.2.1 1 (x1).toNatClampNeg) = (4 : Int32)
          · have hf := zt h_5 hf
            refine lv_tableIn (off := 63) (tgt := 69) hx hb dX5_goneAt_6 (by rw [h_5]; decide) (by rw [h_5]; decide) (by rw [h_5]; rfl) (by decide) ?_
            refine lv_aload_n hx hb dX5_goneAt_69 rfl (lv_at hl 0 rfl) ?_
            refine gM5_end hx hb hts iw5 hown hK hP (List.mem_of_getElem? (i := 2) rfl) dX5_goneAt_70 ?_
            refine lv_iload_n hx hb dX5_goneAt_73 rfl (lv_at hl 1 rfl) ?_
            refine lM5_end hf hx hb hK hP dX5_goneAt_74 (fun hf => ?_)
            refine lv_iconst (v := (4 : Int32)) hx hb dX5_goneAt_75 (by decide) ?_
            refine lv_iconst (v := (3 : Int32)) hx hb dX5_goneAt_76 (by decide) ?_
            refine lv_aload_n hx hb dX5_goneAt_77 rfl (lv_at hl 0 rfl) ?_
            refine gM5_tries hx hb hts iw5 hown hK hP (List.mem_of_getElem? (i := 3) rfl) dX5_goneAt_78 ?_
            refine lv_iload_n hx hb dX5_goneAt_81 rfl (lv_at hl 1 rfl) ?_
            refine lM5_tries hf hx hb hK hP dX5_goneAt_82 (fun hf => ?_)
            refine lv_isub hx hb dX5_goneAt_83 ?_
            refine lv_imul hx hb dX5_goneAt_84 ?_
            refine lv_iadd hx hb dX5_goneAt_85 ?_
            exact zri hf hQ hP hD hS dX5_goneAt_86
          · have hf := zf h_5 hf
            refine lv_tableOut (tgt := 87) hx hb dX5_goneAt_6 (by have := zne h_1 (n := 0) (by decide); have := zne h_2 (n := 1) (by decide); have := zne h_3 (n := 2) (by decide); have := zne h_4 (n := 3) (by decide); have := zne h_5 (n := 4) (by decide); omega) (by decide) ?_
            refine lv_iconst (v := (-1 : Int32)) hx hb dX5_goneAt_87 (by decide) ?_
            exact zri hf hQ hP hD hS dX5_goneAt_88
theorem tX5_goneAt {S : zS} {x1 : Int32} {r : Int32 × zS} (hf : fX5_goneAt S x1 = some r) : zMi l yX5_goneAt wsX5_goneAt rmX5_goneAt D (zT cI cZ) A (wM a cI cZ) [.ref (a 0), .int x1] S r :=
  zMi_of (by decide) rfl rfl (Nat.le_of_ble_eq_true rfl) (fun hC0 hQ hP hD hS _ hl => kX5_goneAt hC0 hQ hf hP hD hS hl)
abbrev rmX5_entryNow : Room := { frames := 1, cells := 0, slots := 0, locals := 21 }
theorem iwX5_entryNow_5 : ∀ w ∈ wsX50, w ∈ wsX5_entryNow := fun _ h => List.mem_cons_of_mem _ (List.mem_append_right _ h)
set_option maxHeartbeats 4000000 in
set_option maxRecDepth 100000 in
theorem kX5_entryNow {r : Int32 × zS} (hC0 : zC p m c cX5_entryNow 3 s args wsX5_entryNow RX5 D cI cZ) (hQ : zRi p l e rmX5_entryNow s m args below meth c cX5_entryNow D A (wM a cI cZ) Q r) {S : zS} {x1 : Int32} {x2 : Int32} (hf : fX5_entryNow S x1 x2 = some r) {H : Heap} {locs : List Loc} (hP : va_P D vwCl (wM a cI cZ S) H) (hD : va_D A (wM a cI cZ S)) (hS : va_S A s.heap H locs) {ls : Array Slot} (hl : lv_has ls 3 [(0, .ref (a 0)), (1, .int x1), (2, .int x2)]) : W p l e rmX5_entryNow s m args below meth c H locs 0 0 Q (F0 m 0 ls []) := by
  obtain ⟨hC, hK, hN⟩ := id hC0
  obtain ⟨hx, hb, hml, hown, hts⟩ := id hC
  have iw5 := iwX5_entryNow_5
  unfold fX5_entryNow at hf
  refine lv_iload_n hx hb dX5_entryNow_0 rfl (lv_at hl 2 rfl) ?_
  by_cases h_1 : x2 = (0 : Int32)
  · have hf := zt h_1 hf
    refine lv_tableIn (off := 43) (tgt := 44) hx hb dX5_entryNow_1 (by rw [h_1]; decide) (by rw [h_1]; decide) (by rw [h_1]; rfl) (by decide) ?_
    refine lv_aload_n hx hb dX5_entryNow_44 rfl (lv_at hl 0 rfl) ?_
    refine gM5_state hx hb hts iw5 hown hK hP (List.mem_of_getElem? (i := 1) rfl) dX5_entryNow_45 ?_
    refine lv_iload_n hx hb dX5_entryNow_48 rfl (lv_at hl 1 rfl) ?_
    refine lM5_state hf hx hb hK hP dX5_entryNow_49 (fun hf => ?_)
    exact zri hf hQ hP hD hS dX5_entryNow_50
  · have hf := zf h_1 hf
    by_cases h_2 : x2 = (1 : Int32)
    · have hf := zt h_2 hf
      refine lv_tableIn (off := 50) (tgt := 51) hx hb dX5_entryNow_1 (by rw [h_2]; decide) (by rw [h_2]; decide) (by rw [h_2]; rfl) (by decide) ?_
      refine lv_aload_n hx hb dX5_entryNow_51 rfl (lv_at hl 0 rfl) ?_
      refine gM5_state hx hb hts iw5 hown hK hP (List.mem_of_getElem? (i := 1) rfl) dX5_entryNow_52 ?_
      refine lv_iload_n hx hb dX5_entryNow_55 rfl (lv_at hl 1 rfl) ?_
      refine lM5_state hf hx hb hK hP dX5_entryNow_56 (fun hf => ?_)
      refine lv_if_ne (tgt := 64) hx hb dX5_entryNow_57 (by decide) (fun h_3 => ?_) (fun h_3 => ?_)
      · have hf := zf h_3 hf
        refine lv_aload_n hx hb dX5_entryNow_64 rfl (lv_at hl 0 rfl) ?_
        refine gM5_mark hx hb hts iw5 hown hK hP (List.mem_of_getElem? (i := 2) rfl) dX5_entryNow_65 ?_
        refine lv_iload_n hx hb dX5_entryNow_68 rfl (lv_at hl 1 rfl) ?_
        refine lM5_mark hf hx hb hK hP dX5_entryNow_69 (fun hf => ?_)
        exact zri hf hQ hP hD hS dX5_entryNow_70
      · have hf := zt h_3 hf
        refine lv_iconst (v := (0 : Int32)) hx hb dX5_entryNow_60 (by decide) ?_
        refine lv_goto (tgt := 70) hx hb dX5_entryNow_61 (by decide) ?_
        exact zri hf hQ hP hD hS dX5_entryNow_70
    · have hf := zf h_2 hf
      by_cases h_4 : x2 = (2 : Int32)
      · have hf := zt h_4 hf
        refine lv_tableIn (off := 70) (tgt := 71) hx hb dX5_entryNow_1 (by rw [h_4]; decide) (by rw [h_4]; decide) (by rw [h_4]; rfl) (by decide) ?_
        refine lv_aload_n hx hb dX5_entryNow_71 rfl (lv_at hl 0 rfl) ?_
        refine gM5_end hx hb hts iw5 hown hK hP (List.mem_of_getElem? (i := 3) rfl) dX5_entryNow_72 ?_
        refine lv_iload_n hx hb dX5_entryNow_75 rfl (lv_at hl 1 rfl) ?_
        refine lM5_end hf hx hb hK hP dX5_entryNow_76 (fun hf => ?_)
        exact zri hf hQ hP hD hS dX5_entryNow_77
      · have hf := zf h_4 hf
        by_cases h_5 : x2 = (3 : Int32)
        · have hf := zt h_5 hf
          refine lv_tableIn (off := 77) (tgt := 78) hx hb dX5_entryNow_1 (by rw [h_5]; decide) (by rw [h_5]; decide) (by rw [h_5]; rfl) (by decide) ?_
          refine lv_aload_n hx hb dX5_entryNow_78 rfl (lv_at hl 0 rfl) ?_
          refine gM5_tries hx hb hts iw5 hown hK hP (List.mem_of_getElem? (i := 4) rfl) dX5_entryNow_79 ?_
          refine lv_iload_n hx hb dX5_entryNow_82 rfl (lv_at hl 1 rfl) ?_
          refine lM5_tries hf hx hb hK hP dX5_entryNow_83 (fun hf => ?_)
          exact zri hf hQ hP hD hS dX5_entryNow_84
        · have hf := zf h_5 hf
          by_cases h_6 : x2 = (4 : Int32)
          · have hf := zt h_6 hf
            refine lv_tableIn (off := 84) (tgt := 85) hx hb dX5_entryNow_1 (by rw [h_6]; decide) (by rw [h_6]; decide) (by rw [h_6]; rfl) (by decide) ?_
            refine lv_aload_n hx hb dX5_entryNow_85 rfl (lv_at hl 0 rfl) ?_
            refine gM5_heldMany hx hb hts iw5 hown hK hP (List.mem_of_getElem? (i := 5) rfl) dX5_entryNow_86 ?_
            refine lv_iload_n hx hb dX5_entryNow_89 rfl (lv_at hl 1 rfl) ?_
            refine lM5_heldMany hf hx hb hK hP dX5_entryNow_90 (fun hf => ?_)
            exact zri hf hQ hP hD hS dX5_entryNow_91
          · have hf := zf h_6 hf
            by_cases h_7 : x2 = (5 : Int32)
            · have hf := zt h_7 hf
              refine lv_tableIn (off := 91) (tgt := 92) hx hb dX5_entryNow_1 (by rw [h_7]; decide) (by rw [h_7]; decide) (by rw [h_7]; rfl) (by decide) ?_
              refine lv_aload_n hx hb dX5_entryNow_92 rfl (lv_at hl 0 rfl) ?_
              refine gM5_isRouter hx hb hts iw5 hown hK hP (List.mem_of_getElem? (i := 6) rfl) dX5_entryNow_93 ?_
              refine lv_iload_n hx hb dX5_entryNow_96 rfl (lv_at hl 1 rfl) ?_
              refine lM5_isRouter hf hx hb hK hP dX5_entryNow_97 (fun hf => ?_)
              refine lv_if_eq (tgt := 105) hx hb dX5_entryNow_98 (by decide) (fun h_8 => ?_) (fun h_8 => ?_)
              · have hf := zt h_8 hf
                refine lv_iconst (v := (0 : Int32)) hx hb dX5_entryNow_105 (by decide) ?_
                exact zri hf hQ hP hD hS dX5_entryNow_106
              · have hf := zf h_8 hf
                refine lv_iconst (v := (1 : Int32)) hx hb dX5_entryNow_101 (by decide) ?_
                refine lv_goto (tgt := 106) hx hb dX5_entryNow_102 (by decide) ?_
                exact zri hf hQ hP hD hS dX5_entryNow_106
            · have hf := zf h_7 hf
              by_cases h_9 : x2 = (6 : Int32)
              · have hf := zt h_9 hf
                refine lv_tableIn (off := 106) (tgt := 107) hx hb dX5_entryNow_1 (by rw [h_9]; decide) (by rw [h_9]; decide) (by rw [h_9]; rfl) (by decide) ?_
                refine lv_aload_n hx hb dX5_entryNow_107 rfl (lv_at hl 0 rfl) ?_
                refine gM5_used hx hb hts iw5 hown hK hP (List.mem_of_getElem? (i := 7) rfl) dX5_entryNow_108 ?_
                refine lv_iload_n hx hb dX5_entryNow_111 rfl (lv_at hl 1 rfl) ?_
                refine lM5_used hf hx hb hK hP dX5_entryNow_112 (fun hf => ?_)
                exact zri hf hQ hP hD hS dX5_entryNow_113
              · have hf := zf h_9 hf
                refine lv_tableOut (tgt := 114) hx hb dX5_entryNow_1 (by have := zne h_1 (n := 0) (by decide); have := zne h_2 (n := 1) (by decide); have := zne h_4 (n := 2) (by decide); have := zne h_5 (n := 3) (by decide); have := zne h_6 (n := 4) (by decide); have := zne h_7 (n := 5) (by decide); have := zne h_9 (n := 6) (by decide); omega) (by decide) ?_
                refine lv_aload_n hx hb dX5_entryNow_114 rfl (lv_at hl 0 rfl) ?_
                refine lv_iload_n hx hb dX5_entryNow_115 rfl (lv_at hl 1 rfl) ?_
                obtain ⟨y_1, S_1, hg_1, hf⟩ := obnd_some hf
                refine zci (va_runV (As := [.int x1]) (rest := []) hC (tX5_goneAt hg_1) (cwV 1 hts gX5_entryNow_X5_goneAt rfl rfl rfl (by decide +kernel) ⟨Nat.le_of_ble_eq_true rfl, Nat.le_of_ble_eq_true rfl⟩) (zpV hP hK hD hN (rM_0 hK hP)) rfl rfl hl.1 rfl (lv_room (Nat.le_of_ble_eq_true rfl)) dX5_entryNow_116 ⟨Nat.zero_le _, Nat.zero_le _⟩) hS (fun H locs hP hD hS => ?_)
                exact zri hf hQ hP hD hS dX5_entryNow_119
theorem tX5_entryNow {S : zS} {x1 : Int32} {x2 : Int32} {r : Int32 × zS} (hf : fX5_entryNow S x1 x2 = some r) : zMi l yX5_entryNow wsX5_entryNow rmX5_entryNow D (zT cI cZ) A (wM a cI cZ) [.ref (a 0), .int x1, .int x2] S r :=
  zMi_of (by decide) rfl rfl (Nat.le_of_ble_eq_true rfl) (fun hC0 hQ hP hD hS _ hl => kX5_entryNow hC0 hQ hf hP hD hS hl)
abbrev rmX5_isEntry : Room := { frames := 2, cells := 0, slots := 0, locals := 42 }
theorem iwX5_isEntry_5 : ∀ w ∈ wsX50, w ∈ wsX5_isEntry := fun _ h => List.mem_cons_of_mem _ (List.mem_append_right _ h)
set_option maxHeartbeats 4000000 in
set_option maxRecDepth 100000 in
theorem kX5_isEntry {r : Int32 × zS} (hC0 : zC p m c cX5_isEntry 2 s args wsX5_isEntry RX5 D cI cZ) (hQ : zRz p l e rmX5_isEntry s m args below meth c cX5_isEntry D A (wM a cI cZ) Q r) {S : zS} {x1 : Int32} (hf : fX5_isEntry S x1 = some r) {H : Heap} {locs : List Loc} (hP : va_P D vwCl (wM a cI cZ S) H) (hD : va_D A (wM a cI cZ S)) (hS : va_S A s.heap H locs) {ls : Array Slot} (hl : lv_has ls 2 [(0, .ref (a 0)), (1, .int x1)]) : W p l e rmX5_isEntry s m args below meth c H locs 0 0 Q (F0 m 0 ls []) := by
  obtain ⟨hC, hK, hN⟩ := id hC0
  obtain ⟨hx, hb, hml, hown, hts⟩ := id hC
  have iw5 := iwX5_isEntry_5
  unfold fX5_isEntry at hf
  refine lv_iload_n hx hb dX5_isEntry_0 rfl (lv_at hl 1 rfl) ?_
  obtain ⟨y_1, S_1, hg_1, hf⟩ := obnd_some hf
  refine zci (va_runS (As := [.int x1]) (rest := []) hC (tX5_isAddress hg_1) (va_cwS 1 hts gX5_isEntry_X5_isAddress rfl rfl rfl (by decide +kernel) ⟨Nat.le_of_ble_eq_true rfl, Nat.le_of_ble_eq_true rfl⟩) (zpS hP hK hD hN) rfl rfl hl.1 rfl (lv_room (Nat.le_of_ble_eq_true rfl)) dX5_isEntry_1 ⟨Nat.zero_le _, Nat.zero_le _⟩) hS (fun H locs hP hD hS => ?_)
  refine lv_if_eq (tgt := 20) hx hb dX5_isEntry_4 (by decide) (fun h_1 => ?_) (fun h_1 => ?_)
  · have hf := zt h_1 hf
    refine lv_iconst (v := (0 : Int32)) hx hb dX5_isEntry_20 (by decide) ?_
    exact zrz hf (Or.inl rfl) hQ hP hD hS dX5_isEntry_21
  · have hf := zf h_1 hf
    refine lv_aload_n hx hb dX5_isEntry_7 rfl (lv_at hl 0 rfl) ?_
    refine gM5_isThere hx hb hts iw5 hown hK hP (List.mem_of_getElem? (i := 1) rfl) dX5_isEntry_8 ?_
    refine lv_iload_n hx hb dX5_isEntry_11 rfl (lv_at hl 1 rfl) ?_
    refine lM5_isThere hf hx hb hK hP dX5_isEntry_12 (fun hf => ?_)
    refine lv_if_eq (tgt := 20) hx hb dX5_isEntry_13 (by decide) (fun h_2 => ?_) (fun h_2 => ?_)
    · have hf := zt h_2 hf
      refine lv_iconst (v := (0 : Int32)) hx hb dX5_isEntry_20 (by decide) ?_
      exact zrz hf (Or.inl rfl) hQ hP hD hS dX5_isEntry_21
    · have hf := zf h_2 hf
      refine lv_iconst (v := (1 : Int32)) hx hb dX5_isEntry_16 (by decide) ?_
      refine lv_goto (tgt := 21) hx hb dX5_isEntry_17 (by decide) ?_
      exact zrz hf (Or.inr rfl) hQ hP hD hS dX5_isEntry_21
theorem tX5_isEntry {S : zS} {x1 : Int32} {r : Int32 × zS} (hf : fX5_isEntry S x1 = some r) : zMi l yX5_isEntry wsX5_isEntry rmX5_isEntry D (zT cI cZ) A (wM a cI cZ) [.ref (a 0), .int x1] S r :=
  zMz_of (by decide) rfl rfl (Nat.le_of_ble_eq_true rfl) (fun hC0 hQ hP hD hS _ hl => kX5_isEntry hC0 hQ hf hP hD hS hl)
abbrev rmX5_entry : Room := { frames := 3, cells := 0, slots := 0, locals := 63 }
theorem iwX5_entry_5 : ∀ w ∈ wsX50, w ∈ wsX5_entry := fun _ h => List.mem_cons_of_mem _ (List.mem_append_right _ h)
set_option maxHeartbeats 4000000 in
set_option maxRecDepth 100000 in
theorem kX5_entry {r : Int32 × zS} (hC0 : zC p m c cX5_entry 3 s args wsX5_entry RX5 D cI cZ) (hQ : zRi p l e rmX5_entry s m args below meth c cX5_entry D A (wM a cI cZ) Q r) {S : zS} {x1 : Int32} {x2 : Int32} (hf : fX5_entry S x1 x2 = some r) {H : Heap} {locs : List Loc} (hP : va_P D vwCl (wM a cI cZ S) H) (hD : va_D A (wM a cI cZ S)) (hS : va_S A s.heap H locs) {ls : Array Slot} (hl : lv_has ls 3 [(0, .ref (a 0)), (1, .int x1), (2, .int x2)]) : W p l e rmX5_entry s m args below meth c H locs 0 0 Q (F0 m 0 ls []) := by
  obtain ⟨hC, hK, hN⟩ := id hC0
  obtain ⟨hx, hb, hml, hown, hts⟩ := id hC
  have iw5 := iwX5_entry_5
  unfold fX5_entry at hf
  refine lv_aload_n hx hb dX5_entry_0 rfl (lv_at hl 0 rfl) ?_
  refine lv_iload_n hx hb dX5_entry_1 rfl (lv_at hl 1 rfl) ?_
  obtain ⟨y_1, S_1, hg_1, hf⟩ := obnd_some hf
  refine zci (va_runV (As := [.int x1]) (rest := []) hC (tX5_isEntry hg_1) (cwV 1 hts gX5_entry_X5_isEntry rfl rfl rfl (by decide +kernel) ⟨Nat.le_of_ble_eq_true rfl, Nat.le_of_ble_eq_true rfl⟩) (zpV hP hK hD hN (rM_0 hK hP)) rfl rfl hl.1 rfl (lv_room (Nat.le_of_ble_eq_true rfl)) dX5_entry_2 ⟨Nat.zero_le _, Nat.zero_le _⟩) hS (fun H locs hP hD hS => ?_)
  refine lv_if_ne (tgt := 13) hx hb dX5_entry_5 (by decide) (fun h_1 => ?_) (fun h_1 => ?_)
  · have hf := zf h_1 hf
    refine lv_iload_n hx hb dX5_entry_13 rfl (lv_at hl 2 rfl) ?_
    refine lv_iconst (v := (0 : Int32)) hx hb dX5_entry_14 (by decide) ?_
    refine lv_bipush (v := (7 : Int32)) hx hb dX5_entry_15 (by decide) ?_
    obtain ⟨y_2, S_2, hg_2, hf⟩ := obnd_some hf
    refine zci (va_runS (As := [.int x2, .int (0 : Int32), .int (7 : Int32)]) (rest := []) hC (tX5_within hg_2) (va_cwS 3 hts gX5_entry_X5_within rfl rfl rfl (by decide +kernel) ⟨Nat.le_of_ble_eq_true rfl, Nat.le_of_ble_eq_true rfl⟩) (zpS hP hK hD hN) rfl rfl hl.1 rfl (lv_room (Nat.le_of_ble_eq_true rfl)) dX5_entry_17 ⟨Nat.zero_le _, Nat.zero_le _⟩) hS (fun H locs hP hD hS => ?_)
    refine lv_if_eq (tgt := 32) hx hb dX5_entry_20 (by decide) (fun h_2 => ?_) (fun h_2 => ?_)
    · have hf := zt h_2 hf
      refine lv_bipush (v := (-102 : Int32)) hx hb dX5_entry_32 (by decide) ?_
      exact zri hf hQ hP hD hS dX5_entry_34
    · have hf := zf h_2 hf
      refine lv_aload_n hx hb dX5_entry_23 rfl (lv_at hl 0 rfl) ?_
      refine lv_iload_n hx hb dX5_entry_24 rfl (lv_at hl 1 rfl) ?_
      refine lv_iload_n hx hb dX5_entry_25 rfl (lv_at hl 2 rfl) ?_
      obtain ⟨y_3, S_3, hg_3, hf⟩ := obnd_some hf
      refine zci (va_runV (As := [.int x1, .int x2]) (rest := []) hC (tX5_entryNow hg_3) (cwV 2 hts gX5_entry_X5_entryNow rfl rfl rfl (by decide +kernel) ⟨Nat.le_of_ble_eq_true rfl, Nat.le_of_ble_eq_true rfl⟩) (zpV hP hK hD hN (rM_0 hK hP)) rfl rfl hl.1 rfl (lv_room (Nat.le_of_ble_eq_true rfl)) dX5_entry_26 ⟨Nat.zero_le _, Nat.zero_le _⟩) hS (fun H locs hP hD hS => ?_)
      refine lv_goto (tgt := 34) hx hb dX5_entry_29 (by decide) ?_
      exact zri hf hQ hP hD hS dX5_entry_34
  · have hf := zt h_1 hf
    refine lv_bipush (v := (-101 : Int32)) hx hb dX5_entry_8 (by decide) ?_
    refine lv_goto (tgt := 34) hx hb dX5_entry_10 (by decide) ?_
    exact zri hf hQ hP hD hS dX5_entry_34
theorem tX5_entry {S : zS} {x1 : Int32} {x2 : Int32} {r : Int32 × zS} (hf : fX5_entry S x1 x2 = some r) : zMi l yX5_entry wsX5_entry rmX5_entry D (zT cI cZ) A (wM a cI cZ) [.ref (a 0), .int x1, .int x2] S r :=
  zMi_of (by decide) rfl rfl (Nat.le_of_ble_eq_true rfl) (fun hC0 hQ hP hD hS _ hl => kX5_entry hC0 hQ hf hP hD hS hl)
abbrev rmX5_held : Room := { frames := 3, cells := 0, slots := 0, locals := 63 }
theorem iwX5_held_5 : ∀ w ∈ wsX50, w ∈ wsX5_held := fun _ h => List.mem_cons_of_mem _ (List.mem_append_right _ h)
set_option maxHeartbeats 4000000 in
set_option maxRecDepth 100000 in
theorem kX5_held {r : Int32 × zS} (hC0 : zC p m c cX5_held 3 s args wsX5_held RX5 D cI cZ) (hQ : zRi p l e rmX5_held s m args below meth c cX5_held D A (wM a cI cZ) Q r) {S : zS} {x1 : Int32} {x2 : Int32} (hf : fX5_held S x1 x2 = some r) {H : Heap} {locs : List Loc} (hP : va_P D vwCl (wM a cI cZ S) H) (hD : va_D A (wM a cI cZ S)) (hS : va_S A s.heap H locs) {ls : Array Slot} (hl : lv_has ls 3 [(0, .ref (a 0)), (1, .int x1), (2, .int x2)]) : W p l e rmX5_held s m args below meth c H locs 0 0 Q (F0 m 0 ls []) := by
  obtain ⟨hC, hK, hN⟩ := id hC0
  obtain ⟨hx, hb, hml, hown, hts⟩ := id hC
  have iw5 := iwX5_held_5
  unfold fX5_held at hf
  refine lv_aload_n hx hb dX5_held_0 rfl (lv_at hl 0 rfl) ?_
  refine lv_iload_n hx hb dX5_held_1 rfl (lv_at hl 1 rfl) ?_
  obtain ⟨y_1, S_1, hg_1, hf⟩ := obnd_some hf
  refine zci (va_runV (As := [.int x1]) (rest := []) hC (tX5_isEntry hg_1) (cwV 1 hts gX5_held_X5_isEntry rfl rfl rfl (by decide +kernel) ⟨Nat.le_of_ble_eq_true rfl, Nat.le_of_ble_eq_true rfl⟩) (zpV hP hK hD hN (rM_0 hK hP)) rfl rfl hl.1 rfl (lv_room (Nat.le_of_ble_eq_true rfl)) dX5_held_2 ⟨Nat.zero_le _, Nat.zero_le _⟩) hS (fun H locs hP hD hS => ?_)
  refine lv_if_eq (tgt := 37) hx hb dX5_held_5 (by decide) (fun h_1 => ?_) (fun h_1 => ?_)
  · have hf := zt h_1 hf
    refine lv_bipush (v := (-101 : Int32)) hx hb dX5_held_37 (by decide) ?_
    exact zri hf hQ hP hD hS dX5_held_39
  · have hf := zf h_1 hf
    refine lv_iload_n hx hb dX5_held_8 rfl (lv_at hl 2 rfl) ?_
    refine lv_iconst (v := (0 : Int32)) hx hb dX5_held_9 (by decide) ?_
    refine lv_aload_n hx hb dX5_held_10 rfl (lv_at hl 0 rfl) ?_
    refine gM5_heldMany hx hb hts iw5 hown hK hP (List.mem_of_getElem? (i := 1) rfl) dX5_held_11 ?_
    refine lv_iload_n hx hb dX5_held_14 rfl (lv_at hl 1 rfl) ?_
    refine lM5_heldMany hf hx hb hK hP dX5_held_15 (fun hf => ?_)
    refine lv_iconst (v := (1 : Int32)) hx hb dX5_held_16 (by decide) ?_
    refine lv_isub hx hb dX5_held_17 ?_
    obtain ⟨y_2, S_2, hg_2, hf⟩ := obnd_some hf
    refine zci (va_runS (As := [.int x2, .int (0 : Int32), .int ((S_1.2.1 6 (x1).toNatClampNeg) - (1 : Int32))]) (rest := []) hC (tX5_within hg_2) (va_cwS 3 hts gX5_held_X5_within rfl rfl rfl (by decide +kernel) ⟨Nat.le_of_ble_eq_true rfl, Nat.le_of_ble_eq_true rfl⟩) (zpS hP hK hD hN) rfl rfl hl.1 rfl (lv_room (Nat.le_of_ble_eq_true rfl)) dX5_held_18 ⟨Nat.zero_le _, Nat.zero_le _⟩) hS (fun H locs hP hD hS => ?_)
    refine lv_if_eq (tgt := 37) hx hb dX5_held_21 (by decide) (fun h_2 => ?_) (fun h_2 => ?_)
    · have hf := zt h_2 hf
      refine lv_bipush (v := (-101 : Int32)) hx hb dX5_held_37 (by decide) ?_
      exact zri hf hQ hP hD hS dX5_held_39
    · have hf := zf h_2 hf
      refine lv_aload_n hx hb dX5_held_24 rfl (lv_at hl 0 rfl) ?_
      refine gM5_heldAt hx hb hts iw5 hown hK hP (List.mem_of_getElem? (i := 2) rfl) dX5_held_25 ?_
      refine lv_iconst (v := (3 : Int32)) hx hb dX5_held_28 (by decide) ?_
      refine lv_iload_n hx hb dX5_held_29 rfl (lv_at hl 1 rfl) ?_
      refine lv_imul hx hb dX5_held_30 ?_
      refine lv_iload_n hx hb dX5_held_31 rfl (lv_at hl 2 rfl) ?_
      refine lv_iadd hx hb dX5_held_32 ?_
      refine lM5_heldAt hf hx hb hK hP dX5_held_33 (fun hf => ?_)
      refine lv_goto (tgt := 39) hx hb dX5_held_34 (by decide) ?_
      exact zri hf hQ hP hD hS dX5_held_39
theorem tX5_held {S : zS} {x1 : Int32} {x2 : Int32} {r : Int32 × zS} (hf : fX5_held S x1 x2 = some r) : zMi l yX5_held wsX5_held rmX5_held D (zT cI cZ) A (wM a cI cZ) [.ref (a 0), .int x1, .int x2] S r :=
  zMi_of (by decide) rfl rfl (Nat.le_of_ble_eq_true rfl) (fun hC0 hQ hP hD hS _ hl => kX5_held hC0 hQ hf hP hD hS hl)
abbrev rmX5_routerNow : Room := { frames := 1, cells := 0, slots := 0, locals := 21 }
theorem iwX5_routerNow_5 : ∀ w ∈ wsX50, w ∈ wsX5_routerNow := fun _ h => List.mem_cons_of_mem _ (List.mem_append_right _ h)
set_option maxHeartbeats 4000000 in
set_option maxRecDepth 100000 in
theorem kX5_routerNow {r : Int32 × zS} (hC0 : zC p m c cX5_routerNow 3 s args wsX5_routerNow RX5 D cI cZ) (hQ : zRi p l e rmX5_routerNow s m args below meth c cX5_routerNow D A (wM a cI cZ) Q r) {S : zS} {x1 : Int32} {x2 : Int32} (hf : fX5_routerNow S x1 x2 = some r) {H : Heap} {locs : List Loc} (hP : va_P D vwCl (wM a cI cZ S) H) (hD : va_D A (wM a cI cZ S)) (hS : va_S A s.heap H locs) {ls : Array Slot} (hl : lv_has ls 3 [(0, .ref (a 0)), (1, .int x1), (2, .int x2)]) : W p l e rmX5_routerNow s m args below meth c H locs 0 0 Q (F0 m 0 ls []) := by
  obtain ⟨hC, hK, hN⟩ := id hC0
  obtain ⟨hx, hb, hml, hown, hts⟩ := id hC
  have iw5 := iwX5_routerNow_5
  unfold fX5_routerNow at hf
  refine lv_iload_n hx hb dX5_routerNow_0 rfl (lv_at hl 2 rfl) ?_
  refine lv_if_ne (tgt := 8) hx hb dX5_routerNow_1 (by decide) (fun h_1 => ?_) (fun h_1 => ?_)
  · have hf := zf h_1 hf
    refine lv_iload_n hx hb dX5_routerNow_8 rfl (lv_at hl 2 rfl) ?_
    refine lv_iconst (v := (1 : Int32)) hx hb dX5_routerNow_9 (by decide) ?_
    refine lv_icmp_ne (tgt := 22) hx hb dX5_routerNow_10 (by decide) (fun h_2 => ?_) (fun h_2 => ?_)
    · have hf := zf h_2 hf
      refine lv_iload_n hx hb dX5_routerNow_22 rfl (lv_at hl 2 rfl) ?_
      refine lv_iconst (v := (2 : Int32)) hx hb dX5_routerNow_23 (by decide) ?_
      refine lv_icmp_ne (tgt := 36) hx hb dX5_routerNow_24 (by decide) (fun h_3 => ?_) (fun h_3 => ?_)
      · have hf := zf h_3 hf
        refine lv_aload_n hx hb dX5_routerNow_36 rfl (lv_at hl 0 rfl) ?_
        refine lv_iload_n hx hb dX5_routerNow_37 rfl (lv_at hl 1 rfl) ?_
        obtain ⟨y_1, S_1, hg_1, hf⟩ := obnd_some hf
        refine zci (va_runV (As := [.int x1]) (rest := []) hC (tX5_isGood hg_1) (cwV 1 hts gX5_routerNow_X5_isGood rfl rfl rfl (by decide +kernel) ⟨Nat.le_of_ble_eq_true rfl, Nat.le_of_ble_eq_true rfl⟩) (zpV hP hK hD hN (rM_0 hK hP)) rfl rfl hl.1 rfl (lv_room (Nat.le_of_ble_eq_true rfl)) dX5_routerNow_38 ⟨Nat.zero_le _, Nat.zero_le _⟩) hS (fun H locs hP hD hS => ?_)
        refine lv_if_eq (tgt := 48) hx hb dX5_routerNow_41 (by decide) (fun h_4 => ?_) (fun h_4 => ?_)
        · have hf := zt h_4 hf
          refine lv_iconst (v := (0 : Int32)) hx hb dX5_routerNow_48 (by decide) ?_
          exact zri hf hQ hP hD hS dX5_routerNow_49
        · have hf := zf h_4 hf
          refine lv_iconst (v := (1 : Int32)) hx hb dX5_routerNow_44 (by decide) ?_
          refine lv_goto (tgt := 49) hx hb dX5_routerNow_45 (by decide) ?_
          exact zri hf hQ hP hD hS dX5_routerNow_49
      · have hf := zt h_3 hf
        refine lv_aload_n hx hb dX5_routerNow_27 rfl (lv_at hl 0 rfl) ?_
        refine gM5_until hx hb hts iw5 hown hK hP (List.mem_of_getElem? (i := 2) rfl) dX5_routerNow_28 ?_
        refine lv_iload_n hx hb dX5_routerNow_31 rfl (lv_at hl 1 rfl) ?_
        refine lM5_until hf hx hb hK hP dX5_routerNow_32 (fun hf => ?_)
        refine lv_goto (tgt := 49) hx hb dX5_routerNow_33 (by decide) ?_
        exact zri hf hQ hP hD hS dX5_routerNow_49
    · have hf := zt h_2 hf
      refine lv_aload_n hx hb dX5_routerNow_13 rfl (lv_at hl 0 rfl) ?_
      refine gM5_rank hx hb hts iw5 hown hK hP (List.mem_of_getElem? (i := 1) rfl) dX5_routerNow_14 ?_
      refine lv_iload_n hx hb dX5_routerNow_17 rfl (lv_at hl 1 rfl) ?_
      refine lM5_rank hf hx hb hK hP dX5_routerNow_18 (fun hf => ?_)
      refine lv_goto (tgt := 49) hx hb dX5_routerNow_19 (by decide) ?_
      exact zri hf hQ hP hD hS dX5_routerNow_49
  · have hf := zt h_1 hf
    refine lv_iload_n hx hb dX5_routerNow_4 rfl (lv_at hl 1 rfl) ?_
    refine lv_goto (tgt := 49) hx hb dX5_routerNow_5 (by decide) ?_
    exact zri hf hQ hP hD hS dX5_routerNow_49
theorem tX5_routerNow {S : zS} {x1 : Int32} {x2 : Int32} {r : Int32 × zS} (hf : fX5_routerNow S x1 x2 = some r) : zMi l yX5_routerNow wsX5_routerNow rmX5_routerNow D (zT cI cZ) A (wM a cI cZ) [.ref (a 0), .int x1, .int x2] S r :=
  zMi_of (by decide) rfl rfl (Nat.le_of_ble_eq_true rfl) (fun hC0 hQ hP hD hS _ hl => kX5_routerNow hC0 hQ hf hP hD hS hl)
abbrev rmX5_router : Room := { frames := 4, cells := 0, slots := 0, locals := 88 }
theorem iwX5_router_5 : ∀ w ∈ wsX50, w ∈ wsX5_router := fun _ h => List.mem_cons_of_mem _ (List.mem_append_right _ h)
set_option maxHeartbeats 4000000 in
set_option maxRecDepth 100000 in
theorem kX5_router {r : Int32 × zS} (hC0 : zC p m c cX5_router 3 s args wsX5_router RX5 D cI cZ) (hQ : zRi p l e rmX5_router s m args below meth c cX5_router D A (wM a cI cZ) Q r) {S : zS} {x1 : Int32} {x2 : Int32} (hf : fX5_router S x1 x2 = some r) {H : Heap} {locs : List Loc} (hP : va_P D vwCl (wM a cI cZ S) H) (hD : va_D A (wM a cI cZ S)) (hS : va_S A s.heap H locs) {ls : Array Slot} (hl : lv_has ls 3 [(0, .ref (a 0)), (1, .int x1), (2, .int x2)]) : W p l e rmX5_router s m args below meth c H locs 0 0 Q (F0 m 0 ls []) := by
  obtain ⟨hC, hK, hN⟩ := id hC0
  obtain ⟨hx, hb, hml, hown, hts⟩ := id hC
  have iw5 := iwX5_router_5
  unfold fX5_router at hf
  refine lv_iload_n hx hb dX5_router_0 rfl (lv_at hl 1 rfl) ?_
  refine lv_iconst (v := (0 : Int32)) hx hb dX5_router_1 (by decide) ?_
  refine lv_aload_n hx hb dX5_router_2 rfl (lv_at hl 0 rfl) ?_
  obtain ⟨y_1, S_1, hg_1, hf⟩ := obnd_some hf
  refine zci (va_runV (As := []) (rest := [.int (0 : Int32), .int x1]) hC (tX5_routers hg_1) (cwV 0 hts gX5_router_X5_routers rfl rfl rfl (by decide +kernel) ⟨Nat.le_of_ble_eq_true rfl, Nat.le_of_ble_eq_true rfl⟩) (zpV hP hK hD hN (rM_0 hK hP)) rfl rfl hl.1 rfl (lv_room (Nat.le_of_ble_eq_true rfl)) dX5_router_3 ⟨Nat.zero_le _, Nat.zero_le _⟩) hS (fun H locs hP hD hS => ?_)
  refine lv_iconst (v := (1 : Int32)) hx hb dX5_router_6 (by decide) ?_
  refine lv_isub hx hb dX5_router_7 ?_
  obtain ⟨y_2, S_2, hg_2, hf⟩ := obnd_some hf
  refine zci (va_runS (As := [.int x1, .int (0 : Int32), .int (y_1 - (1 : Int32))]) (rest := []) hC (tX5_within hg_2) (va_cwS 3 hts gX5_router_X5_within rfl rfl rfl (by decide +kernel) ⟨Nat.le_of_ble_eq_true rfl, Nat.le_of_ble_eq_true rfl⟩) (zpS hP hK hD hN) rfl rfl hl.1 rfl (lv_room (Nat.le_of_ble_eq_true rfl)) dX5_router_8 ⟨Nat.zero_le _, Nat.zero_le _⟩) hS (fun H locs hP hD hS => ?_)
  refine lv_if_ne (tgt := 17) hx hb dX5_router_11 (by decide) (fun h_1 => ?_) (fun h_1 => ?_)
  · have hf := zf h_1 hf
    refine lv_iload_n hx hb dX5_router_17 rfl (lv_at hl 2 rfl) ?_
    refine lv_iconst (v := (0 : Int32)) hx hb dX5_router_18 (by decide) ?_
    refine lv_iconst (v := (3 : Int32)) hx hb dX5_router_19 (by decide) ?_
    obtain ⟨y_3, S_3, hg_3, hf⟩ := obnd_some hf
    refine zci (va_runS (As := [.int x2, .int (0 : Int32), .int (3 : Int32)]) (rest := []) hC (tX5_within hg_3) (va_cwS 3 hts gX5_router_X5_within rfl rfl rfl (by decide +kernel) ⟨Nat.le_of_ble_eq_true rfl, Nat.le_of_ble_eq_true rfl⟩) (zpS hP hK hD hN) rfl rfl hl.1 rfl (lv_room (Nat.le_of_ble_eq_true rfl)) dX5_router_20 ⟨Nat.zero_le _, Nat.zero_le _⟩) hS (fun H locs hP hD hS => ?_)
    refine lv_if_eq (tgt := 39) hx hb dX5_router_23 (by decide) (fun h_2 => ?_) (fun h_2 => ?_)
    · have hf := zt h_2 hf
      refine lv_bipush (v := (-102 : Int32)) hx hb dX5_router_39 (by decide) ?_
      exact zri hf hQ hP hD hS dX5_router_41
    · have hf := zf h_2 hf
      refine lv_aload_n hx hb dX5_router_26 rfl (lv_at hl 0 rfl) ?_
      refine lv_aload_n hx hb dX5_router_27 rfl (lv_at hl 0 rfl) ?_
      refine lv_iload_n hx hb dX5_router_28 rfl (lv_at hl 1 rfl) ?_
      obtain ⟨y_4, S_4, hg_4, hf⟩ := obnd_some hf
      refine zci (va_runV (As := [.int x1]) (rest := [.ref (a 0)]) hC (tX5_routerAt hg_4) (cwV 1 hts gX5_router_X5_routerAt rfl rfl rfl (by decide +kernel) ⟨Nat.le_of_ble_eq_true rfl, Nat.le_of_ble_eq_true rfl⟩) (zpV hP hK hD hN (rM_0 hK hP)) rfl rfl hl.1 rfl (lv_room (Nat.le_of_ble_eq_true rfl)) dX5_router_29 ⟨Nat.zero_le _, Nat.zero_le _⟩) hS (fun H locs hP hD hS => ?_)
      refine lv_iload_n hx hb dX5_router_32 rfl (lv_at hl 2 rfl) ?_
      obtain ⟨y_5, S_5, hg_5, hf⟩ := obnd_some hf
      refine zci (va_runV (As := [.int y_4, .int x2]) (rest := []) hC (tX5_routerNow hg_5) (cwV 2 hts gX5_router_X5_routerNow rfl rfl rfl (by decide +kernel) ⟨Nat.le_of_ble_eq_true rfl, Nat.le_of_ble_eq_true rfl⟩) (zpV hP hK hD hN (rM_0 hK hP)) rfl rfl hl.1 rfl (lv_room (Nat.le_of_ble_eq_true rfl)) dX5_router_33 ⟨Nat.zero_le _, Nat.zero_le _⟩) hS (fun H locs hP hD hS => ?_)
      refine lv_goto (tgt := 41) hx hb dX5_router_36 (by decide) ?_
      exact zri hf hQ hP hD hS dX5_router_41
  · have hf := zt h_1 hf
    refine lv_bipush (v := (-101 : Int32)) hx hb dX5_router_14 (by decide) ?_
    exact zri hf hQ hP hD hS dX5_router_16
theorem tX5_router {S : zS} {x1 : Int32} {x2 : Int32} {r : Int32 × zS} (hf : fX5_router S x1 x2 = some r) : zMi l yX5_router wsX5_router rmX5_router D (zT cI cZ) A (wM a cI cZ) [.ref (a 0), .int x1, .int x2] S r :=
  zMi_of (by decide) rfl rfl (Nat.le_of_ble_eq_true rfl) (fun hC0 hQ hP hD hS _ hl => kX5_router hC0 hQ hf hP hD hS hl)
end KY5
