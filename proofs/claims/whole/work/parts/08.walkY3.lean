section KY3
variable {p : Program} {l : Launch} {e : Env} {s : State} {m : MethodId} {args : Array Value} {below : List Frame} {meth : Method} {c : Code} {Q : State → Prop} {D : va_G} {a : Nat → Nat} {cI cZ : ClassId} {A : Nat → Prop}
abbrev rmX5_keptFor : Room := { frames := 0, cells := 0, slots := 0, locals := 0 }
theorem iwX5_keptFor_5 : ∀ w ∈ wsX50, w ∈ wsX5_keptFor := fun _ h => List.mem_cons_of_mem _ (List.mem_append_right _ h)
set_option maxHeartbeats 4000000 in
set_option maxRecDepth 100000 in
theorem kX5_keptFor_2b {r : Int32 × zS} (hC0 : zC p m c cX5_keptFor 3 s args wsX5_keptFor RX5 D cI cZ) (hQ : zRi p l e rmX5_keptFor s m args below meth c cX5_keptFor D A (wM a cI cZ) Q r) {F2 : zS → Int32 → Int32 → Option (Int32 × zS)} (hF2 : ∀ (S : zS) (x1 : Int32) (x2 : Int32), F2 S x1 x2 = some r → ∀ {H : Heap} {locs : List Loc}, va_P D vwCl (wM a cI cZ S) H → va_D A (wM a cI cZ S) → va_S A s.heap H locs → ∀ {ls : Array Slot}, lv_has ls 3 [(0, .ref (a 0)), (1, .int x1), (2, .int x2)] → W p l e rmX5_keptFor s m args below meth c H locs 0 0 Q (F0 m 2 ls [])) {S : zS} {x1 : Int32} {x2 : Int32} (hf : bX5_keptFor_2 F2 S x1 x2 = some r) {H : Heap} {locs : List Loc} (hP : va_P D vwCl (wM a cI cZ S) H) (hD : va_D A (wM a cI cZ S)) (hS : va_S A s.heap H locs) {ls : Array Slot} (hl : lv_has ls 3 [(0, .ref (a 0)), (1, .int x1), (2, .int x2)]) : W p l e rmX5_keptFor s m args below meth c H locs 0 0 Q (F0 m 2 ls []) := by
  obtain ⟨hC, hK, hN⟩ := id hC0
  obtain ⟨hx, hb, hml, hown, hts⟩ := id hC
  have iw5 := iwX5_keptFor_5
  unfold bX5_keptFor_2 at hf
  refine lv_iload_n hx hb dX5_keptFor_2 rfl (lv_at hl 2 rfl) ?_
  refine lv_aload_n hx hb dX5_keptFor_3 rfl (lv_at hl 0 rfl) ?_
  refine gM5_hops hx hb hts iw5 hown hK hP (List.mem_of_getElem? (i := 1) rfl) dX5_keptFor_4 ?_
  refine lv_icmp_ge (tgt := 26) hx hb dX5_keptFor_7 (by decide) (fun h_1 => ?_) (fun h_1 => ?_)
  · have hf := zt h_1 hf
    refine lv_iload_n hx hb dX5_keptFor_26 rfl (lv_at hl 2 rfl) ?_
    exact zri hf hQ hP hD hS dX5_keptFor_27
  · have hf := zf h_1 hf
    refine lv_aload_n hx hb dX5_keptFor_10 rfl (lv_at hl 0 rfl) ?_
    refine gM5_goalOf hx hb hts iw5 hown hK hP (List.mem_of_getElem? (i := 2) rfl) dX5_keptFor_11 ?_
    refine lv_iload_n hx hb dX5_keptFor_14 rfl (lv_at hl 2 rfl) ?_
    refine lM5_goalOf hf hx hb hK hP dX5_keptFor_15 (fun hf => ?_)
    refine lv_iload_n hx hb dX5_keptFor_16 rfl (lv_at hl 1 rfl) ?_
    refine lv_icmp_eq (tgt := 26) hx hb dX5_keptFor_17 (by decide) (fun h_2 => ?_) (fun h_2 => ?_)
    · have hf := zt h_2 hf
      refine lv_iload_n hx hb dX5_keptFor_26 rfl (lv_at hl 2 rfl) ?_
      exact zri hf hQ hP hD hS dX5_keptFor_27
    · have hf := zf h_2 hf
      refine z_iinc hf hx hb 2 (fun y => [(2, .int y), (0, .ref (a 0)), (1, .int x1)]) dX5_keptFor_20 hl rfl (by decide) (by decide) (fun _ => rfl) (fun y_1 ls hf hl => ?_)
      refine lv_goto (tgt := 2) hx hb dX5_keptFor_23 (by decide) ?_
      exact hF2 _ _ _ hf hP hD hS (lv_sub hl [1, 2, 0] rfl)
theorem kX5_keptFor_2 {r : Int32 × zS} (hC0 : zC p m c cX5_keptFor 3 s args wsX5_keptFor RX5 D cI cZ) (hQ : zRi p l e rmX5_keptFor s m args below meth c cX5_keptFor D A (wM a cI cZ) Q r) (n : Nat) : ∀ (S : zS) (x1 : Int32) (x2 : Int32), fX5_keptFor_2 n S x1 x2 = some r → ∀ {H : Heap} {locs : List Loc}, va_P D vwCl (wM a cI cZ S) H → va_D A (wM a cI cZ S) → va_S A s.heap H locs → ∀ {ls : Array Slot}, lv_has ls 3 [(0, .ref (a 0)), (1, .int x1), (2, .int x2)] → W p l e rmX5_keptFor s m args below meth c H locs 0 0 Q (F0 m 2 ls []) := by
  induction n with
  | zero => intro S x1 x2 hf; cases hf
  | succ n ih => intro S x1 x2 hf; exact kX5_keptFor_2b hC0 hQ ih hf
set_option maxHeartbeats 4000000 in
set_option maxRecDepth 100000 in
theorem kX5_keptFor {r : Int32 × zS} (hC0 : zC p m c cX5_keptFor 3 s args wsX5_keptFor RX5 D cI cZ) (hQ : zRi p l e rmX5_keptFor s m args below meth c cX5_keptFor D A (wM a cI cZ) Q r) {S : zS} {x1 : Int32} (hf : fX5_keptFor S x1 = some r) {H : Heap} {locs : List Loc} (hP : va_P D vwCl (wM a cI cZ S) H) (hD : va_D A (wM a cI cZ S)) (hS : va_S A s.heap H locs) {ls : Array Slot} (hl : lv_has ls 3 [(0, .ref (a 0)), (1, .int x1)]) : W p l e rmX5_keptFor s m args below meth c H locs 0 0 Q (F0 m 0 ls []) := by
  obtain ⟨hC, hK, hN⟩ := id hC0
  obtain ⟨hx, hb, hml, hown, hts⟩ := id hC
  have iw5 := iwX5_keptFor_5
  unfold fX5_keptFor at hf
  refine lv_iconst (v := (0 : Int32)) hx hb dX5_keptFor_0 (by decide) ?_
  refine z_istore_n hf hx hb (fun y => [(2, .int y), (0, .ref (a 0)), (1, .int x1)]) dX5_keptFor_1 rfl hl (by decide) (fun _ => rfl) (fun y_1 ls hf hl => ?_)
  exact kX5_keptFor_2 hC0 hQ 64 _ _ _ hf hP hD hS (lv_sub hl [1, 2, 0] rfl)
theorem tX5_keptFor {S : zS} {x1 : Int32} {r : Int32 × zS} (hf : fX5_keptFor S x1 = some r) : zMi l yX5_keptFor wsX5_keptFor rmX5_keptFor D (zT cI cZ) A (wM a cI cZ) [.ref (a 0), .int x1] S r :=
  zMi_of (by decide) rfl rfl (Nat.le_of_ble_eq_true rfl) (fun hC0 hQ hP hD hS _ hl => kX5_keptFor hC0 hQ hf hP hD hS hl)
abbrev rmX5_isByTurn : Room := { frames := 4, cells := 0, slots := 0, locals := 88 }
theorem iwX5_isByTurn_5 : ∀ w ∈ wsX50, w ∈ wsX5_isByTurn := fun _ h => List.mem_cons_of_mem _ (List.mem_append_right _ h)
set_option maxHeartbeats 4000000 in
set_option maxRecDepth 100000 in
theorem kX5_isByTurn {r : Int32 × zS} (hC0 : zC p m c cX5_isByTurn 2 s args wsX5_isByTurn RX5 D cI cZ) (hQ : zRz p l e rmX5_isByTurn s m args below meth c cX5_isByTurn D A (wM a cI cZ) Q r) {S : zS} {x1 : Int32} (hf : fX5_isByTurn S x1 = some r) {H : Heap} {locs : List Loc} (hP : va_P D vwCl (wM a cI cZ S) H) (hD : va_D A (wM a cI cZ S)) (hS : va_S A s.heap H locs) {ls : Array Slot} (hl : lv_has ls 2 [(0, .ref (a 0)), (1, .int x1)]) : W p l e rmX5_isByTurn s m args below meth c H locs 0 0 Q (F0 m 0 ls []) := by
  obtain ⟨hC, hK, hN⟩ := id hC0
  obtain ⟨hx, hb, hml, hown, hts⟩ := id hC
  have iw5 := iwX5_isByTurn_5
  unfold fX5_isByTurn at hf
  refine lv_aload_n hx hb dX5_isByTurn_0 rfl (lv_at hl 0 rfl) ?_
  refine lv_iload_n hx hb dX5_isByTurn_1 rfl (lv_at hl 1 rfl) ?_
  obtain ⟨y_1, S_1, hg_1, hf⟩ := obnd_some hf
  refine zci (va_runV (As := [.int x1]) (rest := []) hC (tX5_keptFor hg_1) (cwV 1 hts gX5_isByTurn_X5_keptFor rfl rfl rfl (by decide +kernel) ⟨Nat.le_of_ble_eq_true rfl, Nat.le_of_ble_eq_true rfl⟩) (zpV hP hK hD hN (rM_0 hK hP)) rfl rfl hl.1 rfl (lv_room (Nat.le_of_ble_eq_true rfl)) dX5_isByTurn_2 ⟨Nat.zero_le _, Nat.zero_le _⟩) hS (fun H locs hP hD hS => ?_)
  refine lv_aload_n hx hb dX5_isByTurn_5 rfl (lv_at hl 0 rfl) ?_
  refine gM5_hops hx hb hts iw5 hown hK hP (List.mem_of_getElem? (i := 1) rfl) dX5_isByTurn_6 ?_
  refine lv_icmp_ne (tgt := 35) hx hb dX5_isByTurn_9 (by decide) (fun h_1 => ?_) (fun h_1 => ?_)
  · have hf := zf h_1 hf
    refine lv_iconst (v := (0 : Int32)) hx hb dX5_isByTurn_35 (by decide) ?_
    exact zrz hf (Or.inl rfl) hQ hP hD hS dX5_isByTurn_36
  · have hf := zt h_1 hf
    refine lv_aload_n hx hb dX5_isByTurn_12 rfl (lv_at hl 0 rfl) ?_
    obtain ⟨y_2, S_2, hg_2, hf⟩ := obnd_some hf
    refine zci (va_runV (As := []) (rest := []) hC (tX5_routers hg_2) (cwV 0 hts gX5_isByTurn_X5_routers rfl rfl rfl (by decide +kernel) ⟨Nat.le_of_ble_eq_true rfl, Nat.le_of_ble_eq_true rfl⟩) (zpV hP hK hD hN (rM_0 hK hP)) rfl rfl hl.1 rfl (lv_room (Nat.le_of_ble_eq_true rfl)) dX5_isByTurn_13 ⟨Nat.zero_le _, Nat.zero_le _⟩) hS (fun H locs hP hD hS => ?_)
    refine lv_if_le (tgt := 35) hx hb dX5_isByTurn_16 (by decide) (fun h_2 => ?_) (fun h_2 => ?_)
    · have hf := zt h_2 hf
      refine lv_iconst (v := (0 : Int32)) hx hb dX5_isByTurn_35 (by decide) ?_
      exact zrz hf (Or.inl rfl) hQ hP hD hS dX5_isByTurn_36
    · have hf := zf h_2 hf
      refine lv_aload_n hx hb dX5_isByTurn_19 rfl (lv_at hl 0 rfl) ?_
      refine lv_aload_n hx hb dX5_isByTurn_20 rfl (lv_at hl 0 rfl) ?_
      refine lv_iconst (v := (0 : Int32)) hx hb dX5_isByTurn_21 (by decide) ?_
      obtain ⟨y_3, S_3, hg_3, hf⟩ := obnd_some hf
      refine zci (va_runV (As := [.int (0 : Int32)]) (rest := [.ref (a 0)]) hC (tX5_routerAt hg_3) (cwV 1 hts gX5_isByTurn_X5_routerAt rfl rfl rfl (by decide +kernel) ⟨Nat.le_of_ble_eq_true rfl, Nat.le_of_ble_eq_true rfl⟩) (zpV hP hK hD hN (rM_0 hK hP)) rfl rfl hl.1 rfl (lv_room (Nat.le_of_ble_eq_true rfl)) dX5_isByTurn_22 ⟨Nat.zero_le _, Nat.zero_le _⟩) hS (fun H locs hP hD hS => ?_)
      obtain ⟨y_4, S_4, hg_4, hf⟩ := obnd_some hf
      refine zci (va_runV (As := [.int y_3]) (rest := []) hC (tX5_isGood hg_4) (cwV 1 hts gX5_isByTurn_X5_isGood rfl rfl rfl (by decide +kernel) ⟨Nat.le_of_ble_eq_true rfl, Nat.le_of_ble_eq_true rfl⟩) (zpV hP hK hD hN (rM_0 hK hP)) rfl rfl hl.1 rfl (lv_room (Nat.le_of_ble_eq_true rfl)) dX5_isByTurn_25 ⟨Nat.zero_le _, Nat.zero_le _⟩) hS (fun H locs hP hD hS => ?_)
      refine lv_if_ne (tgt := 35) hx hb dX5_isByTurn_28 (by decide) (fun h_3 => ?_) (fun h_3 => ?_)
      · have hf := zf h_3 hf
        refine lv_iconst (v := (0 : Int32)) hx hb dX5_isByTurn_35 (by decide) ?_
        exact zrz hf (Or.inl rfl) hQ hP hD hS dX5_isByTurn_36
      · have hf := zt h_3 hf
        refine lv_iconst (v := (1 : Int32)) hx hb dX5_isByTurn_31 (by decide) ?_
        refine lv_goto (tgt := 36) hx hb dX5_isByTurn_32 (by decide) ?_
        exact zrz hf (Or.inr rfl) hQ hP hD hS dX5_isByTurn_36
theorem tX5_isByTurn {S : zS} {x1 : Int32} {r : Int32 × zS} (hf : fX5_isByTurn S x1 = some r) : zMi l yX5_isByTurn wsX5_isByTurn rmX5_isByTurn D (zT cI cZ) A (wM a cI cZ) [.ref (a 0), .int x1] S r :=
  zMz_of (by decide) rfl rfl (Nat.le_of_ble_eq_true rfl) (fun hC0 hQ hP hD hS _ hl => kX5_isByTurn hC0 hQ hf hP hD hS hl)
abbrev rmX5_hopNow : Room := { frames := 5, cells := 0, slots := 0, locals := 109 }
theorem iwX5_hopNow_5 : ∀ w ∈ wsX50, w ∈ wsX5_hopNow := fun _ h => List.mem_cons_of_mem _ (List.mem_append_right _ h)
set_option maxHeartbeats 4000000 in
set_option maxRecDepth 100000 in
theorem kX5_hopNow {r : Int32 × zS} (hC0 : zC p m c cX5_hopNow 3 s args wsX5_hopNow RX5 D cI cZ) (hQ : zRi p l e rmX5_hopNow s m args below meth c cX5_hopNow D A (wM a cI cZ) Q r) {S : zS} {x1 : Int32} (hf : fX5_hopNow S x1 = some r) {H : Heap} {locs : List Loc} (hP : va_P D vwCl (wM a cI cZ S) H) (hD : va_D A (wM a cI cZ S)) (hS : va_S A s.heap H locs) {ls : Array Slot} (hl : lv_has ls 3 [(0, .ref (a 0)), (1, .int x1)]) : W p l e rmX5_hopNow s m args below meth c H locs 0 0 Q (F0 m 0 ls []) := by
  obtain ⟨hC, hK, hN⟩ := id hC0
  obtain ⟨hx, hb, hml, hown, hts⟩ := id hC
  have iw5 := iwX5_hopNow_5
  unfold fX5_hopNow at hf
  refine lv_aload_n hx hb dX5_hopNow_0 rfl (lv_at hl 0 rfl) ?_
  refine lv_iload_n hx hb dX5_hopNow_1 rfl (lv_at hl 1 rfl) ?_
  obtain ⟨y_1, S_1, hg_1, hf⟩ := obnd_some hf
  refine zci (va_runV (As := [.int x1]) (rest := []) hC (tX5_keptFor hg_1) (cwV 1 hts gX5_hopNow_X5_keptFor rfl rfl rfl (by decide +kernel) ⟨Nat.le_of_ble_eq_true rfl, Nat.le_of_ble_eq_true rfl⟩) (zpV hP hK hD hN (rM_0 hK hP)) rfl rfl hl.1 rfl (lv_room (Nat.le_of_ble_eq_true rfl)) dX5_hopNow_2 ⟨Nat.zero_le _, Nat.zero_le _⟩) hS (fun H locs hP hD hS => ?_)
  refine z_istore_n hf hx hb (fun y => [(2, .int y), (0, .ref (a 0)), (1, .int x1)]) dX5_hopNow_5 rfl hl (by decide) (fun _ => rfl) (fun y_2 ls hf hl => ?_)
  refine lv_iload_n hx hb dX5_hopNow_6 rfl (lv_at hl 0 rfl) ?_
  refine lv_aload_n hx hb dX5_hopNow_7 rfl (lv_at hl 1 rfl) ?_
  refine gM5_hops hx hb hts iw5 hown hK hP (List.mem_of_getElem? (i := 1) rfl) dX5_hopNow_8 ?_
  refine lv_icmp_ge (tgt := 21) hx hb dX5_hopNow_11 (by decide) (fun h_1 => ?_) (fun h_1 => ?_)
  · have hf := zt h_1 hf
    refine lv_aload_n hx hb dX5_hopNow_21 rfl (lv_at hl 1 rfl) ?_
    obtain ⟨y_3, S_2, hg_2, hf⟩ := obnd_some hf
    refine zci (va_runV (As := []) (rest := []) hC (tX5_routers hg_2) (cwV 0 hts gX5_hopNow_X5_routers rfl rfl rfl (by decide +kernel) ⟨Nat.le_of_ble_eq_true rfl, Nat.le_of_ble_eq_true rfl⟩) (zpV hP hK hD hN (rM_0 hK hP)) rfl rfl hl.1 rfl (lv_room (Nat.le_of_ble_eq_true rfl)) dX5_hopNow_22 ⟨Nat.zero_le _, Nat.zero_le _⟩) hS (fun H locs hP hD hS => ?_)
    refine lv_if_ne (tgt := 30) hx hb dX5_hopNow_25 (by decide) (fun h_2 => ?_) (fun h_2 => ?_)
    · have hf := zf h_2 hf
      refine lv_aload_n hx hb dX5_hopNow_30 rfl (lv_at hl 1 rfl) ?_
      refine lv_iload_n hx hb dX5_hopNow_31 rfl (lv_at hl 2 rfl) ?_
      obtain ⟨y_4, S_3, hg_3, hf⟩ := obnd_some hf
      refine zci (va_runV (As := [.int x1]) (rest := []) hC (tX5_isByTurn hg_3) (cwV 1 hts gX5_hopNow_X5_isByTurn rfl rfl rfl (by decide +kernel) ⟨Nat.le_of_ble_eq_true rfl, Nat.le_of_ble_eq_true rfl⟩) (zpV hP hK hD hN (rM_0 hK hP)) rfl rfl hl.1 rfl (lv_room (Nat.le_of_ble_eq_true rfl)) dX5_hopNow_32 ⟨Nat.zero_le _, Nat.zero_le _⟩) hS (fun H locs hP hD hS => ?_)
      refine lv_if_eq (tgt := 45) hx hb dX5_hopNow_35 (by decide) (fun h_3 => ?_) (fun h_3 => ?_)
      · have hf := zt h_3 hf
        refine lv_aload_n hx hb dX5_hopNow_45 rfl (lv_at hl 1 rfl) ?_
        refine lv_iconst (v := (0 : Int32)) hx hb dX5_hopNow_46 (by decide) ?_
        obtain ⟨y_5, S_4, hg_4, hf⟩ := obnd_some hf
        refine zci (va_runV (As := [.int (0 : Int32)]) (rest := []) hC (tX5_routerAt hg_4) (cwV 1 hts gX5_hopNow_X5_routerAt rfl rfl rfl (by decide +kernel) ⟨Nat.le_of_ble_eq_true rfl, Nat.le_of_ble_eq_true rfl⟩) (zpV hP hK hD hN (rM_0 hK hP)) rfl rfl hl.1 rfl (lv_room (Nat.le_of_ble_eq_true rfl)) dX5_hopNow_47 ⟨Nat.zero_le _, Nat.zero_le _⟩) hS (fun H locs hP hD hS => ?_)
        exact zri hf hQ hP hD hS dX5_hopNow_50
      · have hf := zf h_3 hf
        refine lv_aload_n hx hb dX5_hopNow_38 rfl (lv_at hl 1 rfl) ?_
        obtain ⟨y_6, S_5, hg_5, hf⟩ := obnd_some hf
        refine zci (va_runV (As := []) (rest := []) hC (tX5_inTurn hg_5) (cwV 0 hts gX5_hopNow_X5_inTurn rfl rfl rfl (by decide +kernel) ⟨Nat.le_of_ble_eq_true rfl, Nat.le_of_ble_eq_true rfl⟩) (zpV hP hK hD hN (rM_0 hK hP)) rfl rfl hl.1 rfl (lv_room (Nat.le_of_ble_eq_true rfl)) dX5_hopNow_39 ⟨Nat.zero_le _, Nat.zero_le _⟩) hS (fun H locs hP hD hS => ?_)
        refine lv_goto (tgt := 50) hx hb dX5_hopNow_42 (by decide) ?_
        exact zri hf hQ hP hD hS dX5_hopNow_50
    · have hf := zt h_2 hf
      refine lv_iconst (v := (-1 : Int32)) hx hb dX5_hopNow_28 (by decide) ?_
      exact zri hf hQ hP hD hS dX5_hopNow_29
  · have hf := zf h_1 hf
    refine lv_aload_n hx hb dX5_hopNow_14 rfl (lv_at hl 1 rfl) ?_
    refine gM5_hopOf hx hb hts iw5 hown hK hP (List.mem_of_getElem? (i := 2) rfl) dX5_hopNow_15 ?_
    refine lv_iload_n hx hb dX5_hopNow_18 rfl (lv_at hl 0 rfl) ?_
    refine lM5_hopOf hf hx hb hK hP dX5_hopNow_19 (fun hf => ?_)
    exact zri hf hQ hP hD hS dX5_hopNow_20
theorem tX5_hopNow {S : zS} {x1 : Int32} {r : Int32 × zS} (hf : fX5_hopNow S x1 = some r) : zMi l yX5_hopNow wsX5_hopNow rmX5_hopNow D (zT cI cZ) A (wM a cI cZ) [.ref (a 0), .int x1] S r :=
  zMi_of (by decide) rfl rfl (Nat.le_of_ble_eq_true rfl) (fun hC0 hQ hP hD hS _ hl => kX5_hopNow hC0 hQ hf hP hD hS hl)
abbrev rmX5_tryOn : Room := { frames := 2, cells := 0, slots := 0, locals := 44 }
theorem iwX5_tryOn_5 : ∀ w ∈ wsX50, w ∈ wsX5_tryOn := fun _ h => List.mem_cons_of_mem _ (List.mem_append_right _ h)
set_option maxHeartbeats 4000000 in
set_option maxRecDepth 100000 in
theorem kX5_tryOn_89 {r : zS} (hC0 : zC p m c cX5_tryOn 3 s args wsX5_tryOn RX5 D cI cZ) (hQ : zRv p l e rmX5_tryOn s m args below meth c cX5_tryOn D A (wM a cI cZ) Q r) {S : zS} {t1 : Int32} {t2 : Int32} {t3 : Int32} (hf : fX5_tryOn_89 S t1 t2 t3 = some r) {H : Heap} {locs : List Loc} (hP : va_P D vwCl (wM a cI cZ S) H) (hD : va_D A (wM a cI cZ S)) (hS : va_S A s.heap H locs) {ls : Array Slot} (hl : lv_has ls 3 []) : W p l e rmX5_tryOn s m args below meth c H locs 0 0 Q (F0 m 89 ls [.int t3, .int t2, .int t1, .ref (a 4)]) := by
  obtain ⟨hC, hK, hN⟩ := id hC0
  obtain ⟨hx, hb, hml, hown, hts⟩ := id hC
  have iw5 := iwX5_tryOn_5
  unfold fX5_tryOn_89 at hf
  refine lv_iadd hx hb dX5_tryOn_89 ?_
  refine sM5_end hf hx hb hK hP hD hS dX5_tryOn_90 (fun S_1 H locs hf hP hD hS => ?_)
  exact zrv hf hQ hP hD hS dX5_tryOn_91
set_option maxHeartbeats 4000000 in
set_option maxRecDepth 100000 in
theorem kX5_tryOn_56 {r : zS} (hC0 : zC p m c cX5_tryOn 3 s args wsX5_tryOn RX5 D cI cZ) (hQ : zRv p l e rmX5_tryOn s m args below meth c cX5_tryOn D A (wM a cI cZ) Q r) {S : zS} {x1 : Int32} {x2 : Int32} {t1 : Int32} {t2 : Int32} {t3 : Int32} (hf : fX5_tryOn_56 S x1 x2 t1 t2 t3 = some r) {H : Heap} {locs : List Loc} (hP : va_P D vwCl (wM a cI cZ S) H) (hD : va_D A (wM a cI cZ S)) (hS : va_S A s.heap H locs) {ls : Array Slot} (hl : lv_has ls 3 [(0, .ref (a 0)), (1, .int x1), (2, .int x2)]) : W p l e rmX5_tryOn s m args below meth c H locs 0 0 Q (F0 m 56 ls [.int t3, .int t2, .int t1, .ref (a 0)]) := by
  obtain ⟨hC, hK, hN⟩ := id hC0
  obtain ⟨hx, hb, hml, hown, hts⟩ := id hC
  have iw5 := iwX5_tryOn_5
  unfold fX5_tryOn_56 at hf
  refine lv_iconst (v := (0 : Int32)) hx hb dX5_tryOn_56 (by decide) ?_
  obtain ⟨S_1, hg_1, hf⟩ := obnv_some hf
  refine zcv (va_runV (As := [.int t1, .int t2, .int t3, .int (0 : Int32)]) (rest := []) hC (tX5_goOut hg_1) (cwV 4 hts gX5_tryOn_X5_goOut rfl rfl rfl (by decide +kernel) ⟨Nat.le_of_ble_eq_true rfl, Nat.le_of_ble_eq_true rfl⟩) (zpV hP hK hD hN (rM_0 hK hP)) rfl rfl hl.1 rfl (lv_room (Nat.le_of_ble_eq_true rfl)) dX5_tryOn_57 ⟨Nat.zero_le _, Nat.zero_le _⟩) hS (fun H locs hP hD hS => ?_)
  refine lv_aload_n hx hb dX5_tryOn_60 rfl (lv_at hl 0 rfl) ?_
  refine gM5_tries hx hb hts iw5 hown hK hP (List.mem_of_getElem? (i := 1) rfl) dX5_tryOn_61 ?_
  refine lv_iload_n hx hb dX5_tryOn_64 rfl (lv_at hl 1 rfl) ?_
  refine lv_dup2_11 hx hb dX5_tryOn_65 rfl rfl ?_
  refine lM5_tries hf hx hb hK hP dX5_tryOn_66 (fun hf => ?_)
  refine lv_iconst (v := (1 : Int32)) hx hb dX5_tryOn_67 (by decide) ?_
  refine lv_iadd hx hb dX5_tryOn_68 ?_
  refine sM5_tries hf hx hb hK hP hD hS dX5_tryOn_69 (fun S_2 H locs hf hP hD hS => ?_)
  refine lv_aload_n hx hb dX5_tryOn_70 rfl (lv_at hl 0 rfl) ?_
  refine gM5_end hx hb hts iw5 hown hK hP (List.mem_of_getElem? (i := 4) rfl) dX5_tryOn_71 ?_
  refine lv_iload_n hx hb dX5_tryOn_74 rfl (lv_at hl 1 rfl) ?_
  refine lv_aload_n hx hb dX5_tryOn_75 rfl (lv_at hl 0 rfl) ?_
  refine gM5_clock hx hb hts iw5 hown hK hP (List.mem_of_getElem? (i := 5) rfl) dX5_tryOn_76 ?_
  refine lv_iload_n hx hb dX5_tryOn_79 rfl (lv_at hl 2 rfl) ?_
  refine lv_if_eq (tgt := 88) hx hb dX5_tryOn_80 (by decide) (fun h_1 => ?_) (fun h_1 => ?_)
  · have hf := zt h_1 hf
    refine lv_iconst (v := (4 : Int32)) hx hb dX5_tryOn_88 (by decide) ?_
    exact kX5_tryOn_89 hC0 hQ hf hP hD hS (lv_sub hl [] rfl)
  · have hf := zf h_1 hf
    refine lv_bipush (v := (6 : Int32)) hx hb dX5_tryOn_83 (by decide) ?_
    refine lv_goto (tgt := 89) hx hb dX5_tryOn_85 (by decide) ?_
    exact kX5_tryOn_89 hC0 hQ hf hP hD hS (lv_sub hl [] rfl)
set_option maxHeartbeats 4000000 in
set_option maxRecDepth 100000 in
theorem kX5_tryOn_41 {r : zS} (hC0 : zC p m c cX5_tryOn 3 s args wsX5_tryOn RX5 D cI cZ) (hQ : zRv p l e rmX5_tryOn s m args below meth c cX5_tryOn D A (wM a cI cZ) Q r) {S : zS} {x1 : Int32} {x2 : Int32} {t1 : Int32} (hf : fX5_tryOn_41 S x1 x2 t1 = some r) {H : Heap} {locs : List Loc} (hP : va_P D vwCl (wM a cI cZ S) H) (hD : va_D A (wM a cI cZ S)) (hS : va_S A s.heap H locs) {ls : Array Slot} (hl : lv_has ls 3 [(0, .ref (a 0)), (1, .int x1), (2, .int x2)]) : W p l e rmX5_tryOn s m args below meth c H locs 0 0 Q (F0 m 41 ls [.int t1, .ref (a 0)]) := by
  obtain ⟨hC, hK, hN⟩ := id hC0
  obtain ⟨hx, hb, hml, hown, hts⟩ := id hC
  have iw5 := iwX5_tryOn_5
  unfold fX5_tryOn_41 at hf
  refine lv_iload_n hx hb dX5_tryOn_41 rfl (lv_at hl 1 rfl) ?_
  refine lv_iload_n hx hb dX5_tryOn_42 rfl (lv_at hl 2 rfl) ?_
  refine lv_if_eq (tgt := 50) hx hb dX5_tryOn_43 (by decide) (fun h_1 => ?_) (fun h_1 => ?_)
  · have hf := zt h_1 hf
    refine lv_aload_n hx hb dX5_tryOn_50 rfl (lv_at hl 0 rfl) ?_
    refine gM5_mark hx hb hts iw5 hown hK hP (List.mem_of_getElem? (i := 3) rfl) dX5_tryOn_51 ?_
    refine lv_iload_n hx hb dX5_tryOn_54 rfl (lv_at hl 1 rfl) ?_
    refine lM5_mark hf hx hb hK hP dX5_tryOn_55 (fun hf => ?_)
    exact kX5_tryOn_56 hC0 hQ hf hP hD hS (lv_sub hl [0, 1, 2] rfl)
  · have hf := zf h_1 hf
    refine lv_iconst (v := (0 : Int32)) hx hb dX5_tryOn_46 (by decide) ?_
    refine lv_goto (tgt := 56) hx hb dX5_tryOn_47 (by decide) ?_
    exact kX5_tryOn_56 hC0 hQ hf hP hD hS (lv_sub hl [0, 1, 2] rfl)
set_option maxHeartbeats 4000000 in
set_option maxRecDepth 100000 in
theorem kX5_tryOn_30 {r : zS} (hC0 : zC p m c cX5_tryOn 3 s args wsX5_tryOn RX5 D cI cZ) (hQ : zRv p l e rmX5_tryOn s m args below meth c cX5_tryOn D A (wM a cI cZ) Q r) {S : zS} {x1 : Int32} {t0 : Int32} (hf : fX5_tryOn_30 S x1 t0 = some r) {H : Heap} {locs : List Loc} (hP : va_P D vwCl (wM a cI cZ S) H) (hD : va_D A (wM a cI cZ S)) (hS : va_S A s.heap H locs) {ls : Array Slot} (hl : lv_has ls 3 [(0, .ref (a 0)), (1, .int x1)]) : W p l e rmX5_tryOn s m args below meth c H locs 0 0 Q (F0 m 30 ls [.int t0]) := by
  obtain ⟨hC, hK, hN⟩ := id hC0
  obtain ⟨hx, hb, hml, hown, hts⟩ := id hC
  have iw5 := iwX5_tryOn_5
  unfold fX5_tryOn_30 at hf
  refine z_istore_n hf hx hb (fun y => [(2, .int y), (0, .ref (a 0)), (1, .int x1)]) dX5_tryOn_30 rfl hl (by decide) (fun _ => rfl) (fun y_1 ls hf hl => ?_)
  refine lv_aload_n hx hb dX5_tryOn_31 rfl (lv_at hl 1 rfl) ?_
  refine lv_iload_n hx hb dX5_tryOn_32 rfl (lv_at hl 0 rfl) ?_
  refine lv_if_eq (tgt := 40) hx hb dX5_tryOn_33 (by decide) (fun h_1 => ?_) (fun h_1 => ?_)
  · have hf := zt h_1 hf
    refine lv_iconst (v := (2 : Int32)) hx hb dX5_tryOn_40 (by decide) ?_
    exact kX5_tryOn_41 hC0 hQ hf hP hD hS (lv_sub hl [1, 2, 0] rfl)
  · have hf := zf h_1 hf
    refine lv_iconst (v := (1 : Int32)) hx hb dX5_tryOn_36 (by decide) ?_
    refine lv_goto (tgt := 41) hx hb dX5_tryOn_37 (by decide) ?_
    exact kX5_tryOn_41 hC0 hQ hf hP hD hS (lv_sub hl [1, 2, 0] rfl)
set_option maxHeartbeats 4000000 in
set_option maxRecDepth 100000 in
theorem kX5_tryOn {r : zS} (hC0 : zC p m c cX5_tryOn 3 s args wsX5_tryOn RX5 D cI cZ) (hQ : zRv p l e rmX5_tryOn s m args below meth c cX5_tryOn D A (wM a cI cZ) Q r) {S : zS} {x1 : Int32} (hf : fX5_tryOn S x1 = some r) {H : Heap} {locs : List Loc} (hP : va_P D vwCl (wM a cI cZ S) H) (hD : va_D A (wM a cI cZ S)) (hS : va_S A s.heap H locs) {ls : Array Slot} (hl : lv_has ls 3 [(0, .ref (a 0)), (1, .int x1)]) : W p l e rmX5_tryOn s m args below meth c H locs 0 0 Q (F0 m 0 ls []) := by
  obtain ⟨hC, hK, hN⟩ := id hC0
  obtain ⟨hx, hb, hml, hown, hts⟩ := id hC
  have iw5 := iwX5_tryOn_5
  unfold fX5_tryOn at hf
  refine lv_aload_n hx hb dX5_tryOn_0 rfl (lv_at hl 0 rfl) ?_
  refine gM5_tries hx hb hts iw5 hown hK hP (List.mem_of_getElem? (i := 1) rfl) dX5_tryOn_1 ?_
  refine lv_iload_n hx hb dX5_tryOn_4 rfl (lv_at hl 1 rfl) ?_
  refine lM5_tries hf hx hb hK hP dX5_tryOn_5 (fun hf => ?_)
  refine lv_iconst (v := (3 : Int32)) hx hb dX5_tryOn_6 (by decide) ?_
  refine lv_icmp_ne (tgt := 16) hx hb dX5_tryOn_7 (by decide) (fun h_1 => ?_) (fun h_1 => ?_)
  · have hf := zf h_1 hf
    refine lv_aload_n hx hb dX5_tryOn_16 rfl (lv_at hl 0 rfl) ?_
    refine gM5_state hx hb hts iw5 hown hK hP (List.mem_of_getElem? (i := 2) rfl) dX5_tryOn_17 ?_
    refine lv_iload_n hx hb dX5_tryOn_20 rfl (lv_at hl 1 rfl) ?_
    refine lM5_state hf hx hb hK hP dX5_tryOn_21 (fun hf => ?_)
    refine lv_if_ne (tgt := 29) hx hb dX5_tryOn_22 (by decide) (fun h_2 => ?_) (fun h_2 => ?_)
    · have hf := zf h_2 hf
      refine lv_iconst (v := (0 : Int32)) hx hb dX5_tryOn_29 (by decide) ?_
      exact kX5_tryOn_30 hC0 hQ hf hP hD hS (lv_sub hl [0, 1] rfl)
    · have hf := zt h_2 hf
      refine lv_iconst (v := (1 : Int32)) hx hb dX5_tryOn_25 (by decide) ?_
      refine lv_goto (tgt := 30) hx hb dX5_tryOn_26 (by decide) ?_
      exact kX5_tryOn_30 hC0 hQ hf hP hD hS (lv_sub hl [0, 1] rfl)
  · have hf := zt h_1 hf
    refine lv_aload_n hx hb dX5_tryOn_10 rfl (lv_at hl 0 rfl) ?_
    refine lv_iload_n hx hb dX5_tryOn_11 rfl (lv_at hl 1 rfl) ?_
    obtain ⟨S_1, hg_1, hf⟩ := obnv_some hf
    refine zcv (va_runV (As := [.int x1]) (rest := []) hC (tX5_goes hg_1) (cwV 1 hts gX5_tryOn_X5_goes rfl rfl rfl (by decide +kernel) ⟨Nat.le_of_ble_eq_true rfl, Nat.le_of_ble_eq_true rfl⟩) (zpV hP hK hD hN (rM_0 hK hP)) rfl rfl hl.1 rfl (lv_room (Nat.le_of_ble_eq_true rfl)) dX5_tryOn_12 ⟨Nat.zero_le _, Nat.zero_le _⟩) hS (fun H locs hP hD hS => ?_)
    exact zrv hf hQ hP hD hS dX5_tryOn_15
theorem tX5_tryOn {S : zS} {x1 : Int32} {r : zS} (hf : fX5_tryOn S x1 = some r) : zMv l yX5_tryOn wsX5_tryOn rmX5_tryOn D (zT cI cZ) A (wM a cI cZ) [.ref (a 0), .int x1] S r :=
  zMv_of (by decide) rfl rfl (Nat.le_of_ble_eq_true rfl) (fun hC0 hQ hP hD hS _ hl => kX5_tryOn hC0 hQ hf hP hD hS hl)
abbrev rmX5_passEntry : Room := { frames := 3, cells := 0, slots := 0, locals := 66 }
theorem iwX5_passEntry_5 : ∀ w ∈ wsX50, w ∈ wsX5_passEntry := fun _ h => List.mem_cons_of_mem _ (List.mem_append_right _ h)
set_option maxHeartbeats 4000000 in
set_option maxRecDepth 100000 in
theorem kX5_passEntry {r : zS} (hC0 : zC p m c cX5_passEntry 2 s args wsX5_passEntry RX5 D cI cZ) (hQ : zRv p l e rmX5_passEntry s m args below meth c cX5_passEntry D A (wM a cI cZ) Q r) {S : zS} {x1 : Int32} (hf : fX5_passEntry S x1 = some r) {H : Heap} {locs : List Loc} (hP : va_P D vwCl (wM a cI cZ S) H) (hD : va_D A (wM a cI cZ S)) (hS : va_S A s.heap H locs) {ls : Array Slot} (hl : lv_has ls 2 [(0, .ref (a 0)), (1, .int x1)]) : W p l e rmX5_passEntry s m args below meth c H locs 0 0 Q (F0 m 0 ls []) := by
  obtain ⟨hC, hK, hN⟩ := id hC0
  obtain ⟨hx, hb, hml, hown, hts⟩ := id hC
  have iw5 := iwX5_passEntry_5
  unfold fX5_passEntry at hf
  refine lv_aload_n hx hb dX5_passEntry_0 rfl (lv_at hl 0 rfl) ?_
  refine gM5_state hx hb hts iw5 hown hK hP (List.mem_of_getElem? (i := 1) rfl) dX5_passEntry_1 ?_
  refine lv_iload_n hx hb dX5_passEntry_4 rfl (lv_at hl 1 rfl) ?_
  refine lM5_state hf hx hb hK hP dX5_passEntry_5 (fun hf => ?_)
  by_cases h_1 : (S.2.1 1 (x1).toNatClampNeg) = (1 : Int32)
  · have hf := zt h_1 hf
    refine lv_lookup (off := 26) (tgt := 32) hx hb dX5_passEntry_6 (by decide) (by rw [h_1]; decide) (by decide) ?_
    refine lv_aload_n hx hb dX5_passEntry_32 rfl (lv_at hl 0 rfl) ?_
    refine lv_iload_n hx hb dX5_passEntry_33 rfl (lv_at hl 1 rfl) ?_
    refine lv_iconst (v := (2 : Int32)) hx hb dX5_passEntry_34 (by decide) ?_
    refine lv_iconst (v := (0 : Int32)) hx hb dX5_passEntry_35 (by decide) ?_
    obtain ⟨S_1, hg_1, hf⟩ := obnv_some hf
    refine zcv (va_runV (As := [.int x1, .int (2 : Int32), .int (0 : Int32)]) (rest := []) hC (tX5_become hg_1) (cwV 3 hts gX5_passEntry_X5_become rfl rfl rfl (by decide +kernel) ⟨Nat.le_of_ble_eq_true rfl, Nat.le_of_ble_eq_true rfl⟩) (zpV hP hK hD hN (rM_0 hK hP)) rfl rfl hl.1 rfl (lv_room (Nat.le_of_ble_eq_true rfl)) dX5_passEntry_36 ⟨Nat.zero_le _, Nat.zero_le _⟩) hS (fun H locs hP hD hS => ?_)
    refine lv_goto (tgt := 70) hx hb dX5_passEntry_39 (by decide) ?_
    exact zrv hf hQ hP hD hS dX5_passEntry_70
  · have hf := zf h_1 hf
    by_cases h_2 : (S.2.1 1 (x1).toNatClampNeg) = (3 : Int32)
    · have hf := zt h_2 hf
      refine lv_lookup (off := 36) (tgt := 42) hx hb dX5_passEntry_6 (by decide) (by rw [h_2]; decide) (by decide) ?_
      refine lv_aload_n hx hb dX5_passEntry_42 rfl (lv_at hl 0 rfl) ?_
      refine lv_iload_n hx hb dX5_passEntry_43 rfl (lv_at hl 1 rfl) ?_
      refine lv_iconst (v := (4 : Int32)) hx hb dX5_passEntry_44 (by decide) ?_
      refine lv_iconst (v := (4 : Int32)) hx hb dX5_passEntry_45 (by decide) ?_
      obtain ⟨S_2, hg_2, hf⟩ := obnv_some hf
      refine zcv (va_runV (As := [.int x1, .int (4 : Int32), .int (4 : Int32)]) (rest := []) hC (tX5_become hg_2) (cwV 3 hts gX5_passEntry_X5_become rfl rfl rfl (by decide +kernel) ⟨Nat.le_of_ble_eq_true rfl, Nat.le_of_ble_eq_true rfl⟩) (zpV hP hK hD hN (rM_0 hK hP)) rfl rfl hl.1 rfl (lv_room (Nat.le_of_ble_eq_true rfl)) dX5_passEntry_46 ⟨Nat.zero_le _, Nat.zero_le _⟩) hS (fun H locs hP hD hS => ?_)
      refine lv_aload_n hx hb dX5_passEntry_49 rfl (lv_at hl 0 rfl) ?_
      refine lv_iconst (v := (2 : Int32)) hx hb dX5_passEntry_50 (by decide) ?_
      refine lv_iload_n hx hb dX5_passEntry_51 rfl (lv_at hl 1 rfl) ?_
      refine lv_aload_n hx hb dX5_passEntry_52 rfl (lv_at hl 0 rfl) ?_
      refine gM5_mark hx hb hts iw5 hown hK hP (List.mem_of_getElem? (i := 2) rfl) dX5_passEntry_53 ?_
      refine lv_iload_n hx hb dX5_passEntry_56 rfl (lv_at hl 1 rfl) ?_
      refine lM5_mark hf hx hb hK hP dX5_passEntry_57 (fun hf => ?_)
      refine lv_iconst (v := (0 : Int32)) hx hb dX5_passEntry_58 (by decide) ?_
      obtain ⟨S_3, hg_3, hf⟩ := obnv_some hf
      refine zcv (va_runV (As := [.int (2 : Int32), .int x1, .int (S_2.2.1 2 (x1).toNatClampNeg), .int (0 : Int32)]) (rest := []) hC (tX5_goOut hg_3) (cwV 4 hts gX5_passEntry_X5_goOut rfl rfl rfl (by decide +kernel) ⟨Nat.le_of_ble_eq_true rfl, Nat.le_of_ble_eq_true rfl⟩) (zpV hP hK hD hN (rM_0 hK hP)) rfl rfl hl.1 rfl (lv_room (Nat.le_of_ble_eq_true rfl)) dX5_passEntry_59 ⟨Nat.zero_le _, Nat.zero_le _⟩) hS (fun H locs hP hD hS => ?_)
      refine lv_goto (tgt := 70) hx hb dX5_passEntry_62 (by decide) ?_
      exact zrv hf hQ hP hD hS dX5_passEntry_70
    · have hf := zf h_2 hf
      refine lv_lookup (off := 59) (tgt := 65) hx hb dX5_passEntry_6 (by decide) (by show Op.lookupswitch.offset [((1 : Int), (26 : Int)), ((3 : Int), (36 : Int))] 59 _ = _; rw [lv_osw h_1 (by decide), lv_osw h_2 (by decide)]; rfl) (by decide) ?_
      refine lv_aload_n hx hb dX5_passEntry_65 rfl (lv_at hl 0 rfl) ?_
      refine lv_iload_n hx hb dX5_passEntry_66 rfl (lv_at hl 1 rfl) ?_
      obtain ⟨S_4, hg_4, hf⟩ := obnv_some hf
      refine zcv (va_runV (As := [.int x1]) (rest := []) hC (tX5_tryOn hg_4) (cwV 1 hts gX5_passEntry_X5_tryOn rfl rfl rfl (by decide +kernel) ⟨Nat.le_of_ble_eq_true rfl, Nat.le_of_ble_eq_true rfl⟩) (zpV hP hK hD hN (rM_0 hK hP)) rfl rfl hl.1 rfl (lv_room (Nat.le_of_ble_eq_true rfl)) dX5_passEntry_67 ⟨Nat.zero_le _, Nat.zero_le _⟩) hS (fun H locs hP hD hS => ?_)
      exact zrv hf hQ hP hD hS dX5_passEntry_70
theorem tX5_passEntry {S : zS} {x1 : Int32} {r : zS} (hf : fX5_passEntry S x1 = some r) : zMv l yX5_passEntry wsX5_passEntry rmX5_passEntry D (zT cI cZ) A (wM a cI cZ) [.ref (a 0), .int x1] S r :=
  zMv_of (by decide) rfl rfl (Nat.le_of_ble_eq_true rfl) (fun hC0 hQ hP hD hS _ hl => kX5_passEntry hC0 hQ hf hP hD hS hl)
abbrev rmX5_passTrial : Room := { frames := 1, cells := 0, slots := 0, locals := 26 }
theorem iwX5_passTrial_5 : ∀ w ∈ wsX50, w ∈ wsX5_passTrial := fun _ h => List.mem_cons_of_mem _ (List.mem_append_right _ h)
set_option maxHeartbeats 4000000 in
set_option maxRecDepth 100000 in
theorem kX5_passTrial_32 {r : zS} (hC0 : zC p m c cX5_passTrial 1 s args wsX5_passTrial RX5 D cI cZ) (hQ : zRv p l e rmX5_passTrial s m args below meth c cX5_passTrial D A (wM a cI cZ) Q r) {S : zS} (hf : fX5_passTrial_32 S = some r) {H : Heap} {locs : List Loc} (hP : va_P D vwCl (wM a cI cZ S) H) (hD : va_D A (wM a cI cZ S)) (hS : va_S A s.heap H locs) {ls : Array Slot} (hl : lv_has ls 1 [(0, .ref (a 0))]) : W p l e rmX5_passTrial s m args below meth c H locs 0 0 Q (F0 m 32 ls []) := by
  obtain ⟨hC, hK, hN⟩ := id hC0
  obtain ⟨hx, hb, hml, hown, hts⟩ := id hC
  have iw5 := iwX5_passTrial_5
  unfold fX5_passTrial_32 at hf
  refine lv_aload_n hx hb dX5_passTrial_32 rfl (lv_at hl 0 rfl) ?_
  refine gM5_trial hx hb hts iw5 hown hK hP (List.mem_of_getElem? (i := 1) rfl) dX5_passTrial_33 ?_
  refine lv_iconst (v := (-1 : Int32)) hx hb dX5_passTrial_36 (by decide) ?_
  refine lv_icmp_eq (tgt := 67) hx hb dX5_passTrial_37 (by decide) (fun h_1 => ?_) (fun h_1 => ?_)
  · have hf := zt h_1 hf
    exact zrv hf hQ hP hD hS dX5_passTrial_67
  · have hf := zf h_1 hf
    refine lv_aload_n hx hb dX5_passTrial_40 rfl (lv_at hl 0 rfl) ?_
    refine gM5_clock hx hb hts iw5 hown hK hP (List.mem_of_getElem? (i := 2) rfl) dX5_passTrial_41 ?_
    refine lv_aload_n hx hb dX5_passTrial_44 rfl (lv_at hl 0 rfl) ?_
    refine gM5_began hx hb hts iw5 hown hK hP (List.mem_of_getElem? (i := 3) rfl) dX5_passTrial_45 ?_
    refine lv_bipush (v := (10 : Int32)) hx hb dX5_passTrial_48 (by decide) ?_
    refine lv_iadd hx hb dX5_passTrial_50 ?_
    refine lv_icmp_ne (tgt := 67) hx hb dX5_passTrial_51 (by decide) (fun h_2 => ?_) (fun h_2 => ?_)
    · have hf := zf h_2 hf
      exact zrv hf hQ hP hD hS dX5_passTrial_67
    · have hf := zt h_2 hf
      refine lv_aload_n hx hb dX5_passTrial_54 rfl (lv_at hl 0 rfl) ?_
      refine lv_aload_n hx hb dX5_passTrial_55 rfl (lv_at hl 0 rfl) ?_
      refine gM5_trial hx hb hts iw5 hown hK hP (List.mem_of_getElem? (i := 1) rfl) dX5_passTrial_56 ?_
      refine pM5_own hf hx hb hts iw5 hown hK hP hD hS (List.mem_of_getElem? (i := 4) rfl) dX5_passTrial_59 (fun S_1 H locs hf hP hD hS => ?_)
      refine lv_aload_n hx hb dX5_passTrial_62 rfl (lv_at hl 0 rfl) ?_
      refine lv_iconst (v := (-1 : Int32)) hx hb dX5_passTrial_63 (by decide) ?_
      refine pM5_trial hf hx hb hts iw5 hown hK hP hD hS (List.mem_of_getElem? (i := 1) rfl) dX5_passTrial_64 (fun S_2 H locs hf hP hD hS => ?_)
      exact zrv hf hQ hP hD hS dX5_passTrial_67
set_option maxHeartbeats 4000000 in
set_option maxRecDepth 100000 in
theorem kX5_passTrial {r : zS} (hC0 : zC p m c cX5_passTrial 1 s args wsX5_passTrial RX5 D cI cZ) (hQ : zRv p l e rmX5_passTrial s m args below meth c cX5_passTrial D A (wM a cI cZ) Q r) {S : zS} (hf : fX5_passTrial S = some r) {H : Heap} {locs : List Loc} (hP : va_P D vwCl (wM a cI cZ S) H) (hD : va_D A (wM a cI cZ S)) (hS : va_S A s.heap H locs) {ls : Array Slot} (hl : lv_has ls 1 [(0, .ref (a 0))]) : W p l e rmX5_passTrial s m args below meth c H locs 0 0 Q (F0 m 0 ls []) := by
  obtain ⟨hC, hK, hN⟩ := id hC0
  obtain ⟨hx, hb, hml, hown, hts⟩ := id hC
  have iw5 := iwX5_passTrial_5
  unfold fX5_passTrial at hf
  refine lv_aload_n hx hb dX5_passTrial_0 rfl (lv_at hl 0 rfl) ?_
  refine gM5_trial hx hb hts iw5 hown hK hP (List.mem_of_getElem? (i := 1) rfl) dX5_passTrial_1 ?_
  refine lv_iconst (v := (-1 : Int32)) hx hb dX5_passTrial_4 (by decide) ?_
  refine lv_icmp_eq (tgt := 32) hx hb dX5_passTrial_5 (by decide) (fun h_1 => ?_) (fun h_1 => ?_)
  · have hf := zt h_1 hf
    exact kX5_passTrial_32 hC0 hQ hf hP hD hS (lv_sub hl [0] rfl)
  · have hf := zf h_1 hf
    refine lv_aload_n hx hb dX5_passTrial_8 rfl (lv_at hl 0 rfl) ?_
    refine gM5_clock hx hb hts iw5 hown hK hP (List.mem_of_getElem? (i := 2) rfl) dX5_passTrial_9 ?_
    refine lv_aload_n hx hb dX5_passTrial_12 rfl (lv_at hl 0 rfl) ?_
    refine gM5_began hx hb hts iw5 hown hK hP (List.mem_of_getElem? (i := 3) rfl) dX5_passTrial_13 ?_
    refine lv_iconst (v := (5 : Int32)) hx hb dX5_passTrial_16 (by decide) ?_
    refine lv_iadd hx hb dX5_passTrial_17 ?_
    refine lv_icmp_ne (tgt := 32) hx hb dX5_passTrial_18 (by decide) (fun h_2 => ?_) (fun h_2 => ?_)
    · have hf := zf h_2 hf
      exact kX5_passTrial_32 hC0 hQ hf hP hD hS (lv_sub hl [0] rfl)
    · have hf := zt h_2 hf
      refine lv_aload_n hx hb dX5_passTrial_21 rfl (lv_at hl 0 rfl) ?_
      refine lv_iconst (v := (4 : Int32)) hx hb dX5_passTrial_22 (by decide) ?_
      refine lv_aload_n hx hb dX5_passTrial_23 rfl (lv_at hl 0 rfl) ?_
      refine gM5_trial hx hb hts iw5 hown hK hP (List.mem_of_getElem? (i := 1) rfl) dX5_passTrial_24 ?_
      refine lv_iconst (v := (0 : Int32)) hx hb dX5_passTrial_27 (by decide) ?_
      refine lv_iconst (v := (0 : Int32)) hx hb dX5_passTrial_28 (by decide) ?_
      obtain ⟨S_1, hg_1, hf⟩ := obnv_some hf
      refine zcv (va_runV (As := [.int (4 : Int32), .int (S.1 5), .int (0 : Int32), .int (0 : Int32)]) (rest := []) hC (tX5_goOut hg_1) (cwV 4 hts gX5_passTrial_X5_goOut rfl rfl rfl (by decide +kernel) ⟨Nat.le_of_ble_eq_true rfl, Nat.le_of_ble_eq_true rfl⟩) (zpV hP hK hD hN (rM_0 hK hP)) rfl rfl hl.1 rfl (lv_room (Nat.le_of_ble_eq_true rfl)) dX5_passTrial_29 ⟨Nat.zero_le _, Nat.zero_le _⟩) hS (fun H locs hP hD hS => ?_)
      exact kX5_passTrial_32 hC0 hQ hf hP hD hS (lv_sub hl [0] rfl)
theorem tX5_passTrial {S : zS} {r : zS} (hf : fX5_passTrial S = some r) : zMv l yX5_passTrial wsX5_passTrial rmX5_passTrial D (zT cI cZ) A (wM a cI cZ) [.ref (a 0)] S r :=
  zMv_of (by decide) rfl rfl (Nat.le_of_ble_eq_true rfl) (fun hC0 hQ hP hD hS _ hl => kX5_passTrial hC0 hQ hf hP hD hS hl)
abbrev rmX5_tick : Room := { frames := 4, cells := 0, slots := 0, locals := 87 }
theorem iwX5_tick_5 : ∀ w ∈ wsX50, w ∈ wsX5_tick := fun _ h => List.mem_cons_of_mem _ (List.mem_append_right _ h)
set_option maxHeartbeats 4000000 in
set_option maxRecDepth 100000 in
theorem kX5_tick_119 {r : zS} (hC0 : zC p m c cX5_tick 2 s args wsX5_tick RX5 D cI cZ) (hQ : zRv p l e rmX5_tick s m args below meth c cX5_tick D A (wM a cI cZ) Q r) {S : zS} (hf : fX5_tick_119 S = some r) {H : Heap} {locs : List Loc} (hP : va_P D vwCl (wM a cI cZ S) H) (hD : va_D A (wM a cI cZ S)) (hS : va_S A s.heap H locs) {ls : Array Slot} (hl : lv_has ls 2 [(0, .ref (a 0))]) : W p l e rmX5_tick s m args below meth c H locs 0 0 Q (F0 m 119 ls []) := by
  obtain ⟨hC, hK, hN⟩ := id hC0
  obtain ⟨hx, hb, hml, hown, hts⟩ := id hC
  have iw5 := iwX5_tick_5
  unfold fX5_tick_119 at hf
  refine lv_aload_n hx hb dX5_tick_119 rfl (lv_at hl 0 rfl) ?_
  refine gM5_wasTold hx hb hts iw5 hown hK hP (List.mem_of_getElem? (i := 6) rfl) dX5_tick_120 ?_
  refine lv_if_ne (tgt := 134) hx hb dX5_tick_123 (by decide) (fun h_1 => ?_) (fun h_1 => ?_)
  · have hf := zf h_1 hf
    exact zrv hf hQ hP hD hS dX5_tick_134
  · have hf := zt h_1 hf
    refine lv_aload_n hx hb dX5_tick_126 rfl (lv_at hl 0 rfl) ?_
    refine lv_iconst (v := (5 : Int32)) hx hb dX5_tick_127 (by decide) ?_
    refine lv_iconst (v := (-1 : Int32)) hx hb dX5_tick_128 (by decide) ?_
    refine lv_iconst (v := (0 : Int32)) hx hb dX5_tick_129 (by decide) ?_
    refine lv_iconst (v := (0 : Int32)) hx hb dX5_tick_130 (by decide) ?_
    obtain ⟨S_1, hg_1, hf⟩ := obnv_some hf
    refine zcv (va_runV (As := [.int (5 : Int32), .int (-1 : Int32), .int (0 : Int32), .int (0 : Int32)]) (rest := []) hC (tX5_goOut hg_1) (cwV 4 hts gX5_tick_X5_goOut rfl rfl rfl (by decide +kernel) ⟨Nat.le_of_ble_eq_true rfl, Nat.le_of_ble_eq_true rfl⟩) (zpV hP hK hD hN (rM_0 hK hP)) rfl rfl hl.1 rfl (lv_room (Nat.le_of_ble_eq_true rfl)) dX5_tick_131 ⟨Nat.zero_le _, Nat.zero_le _⟩) hS (fun H locs hP hD hS => ?_)
    exact zrv hf hQ hP hD hS dX5_tick_134
set_option maxHeartbeats 4000000 in
set_option maxRecDepth 100000 in
theorem kX5_tick_91 {r : zS} (hC0 : zC p m c cX5_tick 2 s args wsX5_tick RX5 D cI cZ) (hQ : zRv p l e rmX5_tick s m args below meth c cX5_tick D A (wM a cI cZ) Q r) {F53 : zS → Int32 → Option (zS)} (hF53 : ∀ (S : zS) (x1 : Int32), F53 S x1 = some r → ∀ {H : Heap} {locs : List Loc}, va_P D vwCl (wM a cI cZ S) H → va_D A (wM a cI cZ S) → va_S A s.heap H locs → ∀ {ls : Array Slot}, lv_has ls 2 [(0, .ref (a 0)), (1, .int x1)] → W p l e rmX5_tick s m args below meth c H locs 0 0 Q (F0 m 53 ls [])) {S : zS} {x1 : Int32} {t1 : Int32} {t2 : Int32} (hf : fX5_tick_91 F53 S x1 t1 t2 = some r) {H : Heap} {locs : List Loc} (hP : va_P D vwCl (wM a cI cZ S) H) (hD : va_D A (wM a cI cZ S)) (hS : va_S A s.heap H locs) {ls : Array Slot} (hl : lv_has ls 2 [(0, .ref (a 0)), (1, .int x1)]) : W p l e rmX5_tick s m args below meth c H locs 0 0 Q (F0 m 91 ls [.int t2, .int t1, .ref (a 9)]) := by
  obtain ⟨hC, hK, hN⟩ := id hC0
  obtain ⟨hx, hb, hml, hown, hts⟩ := id hC
  have iw5 := iwX5_tick_5
  unfold fX5_tick_91 at hf
  refine sM5_isRouter hf hx hb hK hP hD hS dX5_tick_91 (fun S_1 H locs hf hP hD hS => ?_)
  refine z_iinc hf hx hb 1 (fun y => [(1, .int y), (0, .ref (a 0))]) dX5_tick_92 hl rfl (by decide) (by decide) (fun _ => rfl) (fun y_1 ls hf hl => ?_)
  refine lv_goto (tgt := 53) hx hb dX5_tick_95 (by decide) ?_
  exact hF53 _ _ hf hP hD hS (lv_sub hl [1, 0] rfl)
set_option maxHeartbeats 4000000 in
set_option maxRecDepth 100000 in
theorem kX5_tick_90 {r : zS} (hC0 : zC p m c cX5_tick 2 s args wsX5_tick RX5 D cI cZ) (hQ : zRv p l e rmX5_tick s m args below meth c cX5_tick D A (wM a cI cZ) Q r) {F53 : zS → Int32 → Option (zS)} (hF53 : ∀ (S : zS) (x1 : Int32), F53 S x1 = some r → ∀ {H : Heap} {locs : List Loc}, va_P D vwCl (wM a cI cZ S) H → va_D A (wM a cI cZ S) → va_S A s.heap H locs → ∀ {ls : Array Slot}, lv_has ls 2 [(0, .ref (a 0)), (1, .int x1)] → W p l e rmX5_tick s m args below meth c H locs 0 0 Q (F0 m 53 ls [])) {S : zS} {x1 : Int32} {t1 : Int32} (hf : fX5_tick_90 F53 S x1 t1 = some r) {H : Heap} {locs : List Loc} (hP : va_P D vwCl (wM a cI cZ S) H) (hD : va_D A (wM a cI cZ S)) (hS : va_S A s.heap H locs) {ls : Array Slot} (hl : lv_has ls 2 [(0, .ref (a 0)), (1, .int x1)]) : W p l e rmX5_tick s m args below meth c H locs 0 0 Q (F0 m 90 ls [.int t1, .ref (a 9)]) := by
  obtain ⟨hC, hK, hN⟩ := id hC0
  obtain ⟨hx, hb, hml, hown, hts⟩ := id hC
  have iw5 := iwX5_tick_5
  unfold fX5_tick_90 at hf
  refine lv_iconst (v := (0 : Int32)) hx hb dX5_tick_90 (by decide) ?_
  exact kX5_tick_91 hC0 hQ hF53 hf hP hD hS (lv_sub hl [0, 1] rfl)
set_option maxHeartbeats 4000000 in
set_option maxRecDepth 100000 in
theorem kX5_tick_53b {r : zS} (hC0 : zC p m c cX5_tick 2 s args wsX5_tick RX5 D cI cZ) (hQ : zRv p l e rmX5_tick s m args below meth c cX5_tick D A (wM a cI cZ) Q r) {F53 : zS → Int32 → Option (zS)} (hF53 : ∀ (S : zS) (x1 : Int32), F53 S x1 = some r → ∀ {H : Heap} {locs : List Loc}, va_P D vwCl (wM a cI cZ S) H → va_D A (wM a cI cZ S) → va_S A s.heap H locs → ∀ {ls : Array Slot}, lv_has ls 2 [(0, .ref (a 0)), (1, .int x1)] → W p l e rmX5_tick s m args below meth c H locs 0 0 Q (F0 m 53 ls [])) {S : zS} {x1 : Int32} (hf : bX5_tick_53 F53 S x1 = some r) {H : Heap} {locs : List Loc} (hP : va_P D vwCl (wM a cI cZ S) H) (hD : va_D A (wM a cI cZ S)) (hS : va_S A s.heap H locs) {ls : Array Slot} (hl : lv_has ls 2 [(0, .ref (a 0)), (1, .int x1)]) : W p l e rmX5_tick s m args below meth c H locs 0 0 Q (F0 m 53 ls []) := by
  obtain ⟨hC, hK, hN⟩ := id hC0
  obtain ⟨hx, hb, hml, hown, hts⟩ := id hC
  have iw5 := iwX5_tick_5
  unfold bX5_tick_53 at hf
  refine lv_iload_n hx hb dX5_tick_53 rfl (lv_at hl 1 rfl) ?_
  refine lv_bipush (v := (16 : Int32)) hx hb dX5_tick_54 (by decide) ?_
  refine lv_icmp_ge (tgt := 98) hx hb dX5_tick_56 (by decide) (fun h_1 => ?_) (fun h_1 => ?_)
  · have hf := zt h_1 hf
    refine lv_aload_n hx hb dX5_tick_98 rfl (lv_at hl 0 rfl) ?_
    obtain ⟨S_1, hg_1, hf⟩ := obnv_some hf
    refine zcv (va_runV (As := []) (rest := []) hC (tX5_passTrial hg_1) (cwV 0 hts gX5_tick_X5_passTrial rfl rfl rfl (by decide +kernel) ⟨Nat.le_of_ble_eq_true rfl, Nat.le_of_ble_eq_true rfl⟩) (zpV hP hK hD hN (rM_0 hK hP)) rfl rfl hl.1 rfl (lv_room (Nat.le_of_ble_eq_true rfl)) dX5_tick_99 ⟨Nat.zero_le _, Nat.zero_le _⟩) hS (fun H locs hP hD hS => ?_)
    refine lv_aload_n hx hb dX5_tick_102 rfl (lv_at hl 0 rfl) ?_
    refine gM5_clock hx hb hts iw5 hown hK hP (List.mem_of_getElem? (i := 1) rfl) dX5_tick_103 ?_
    refine lv_iconst (v := (4 : Int32)) hx hb dX5_tick_106 (by decide) ?_
    refine lv_icmp_eq (tgt := 119) hx hb dX5_tick_107 (by decide) (fun h_2 => ?_) (fun h_2 => ?_)
    · have hf := zt h_2 hf
      exact kX5_tick_119 hC0 hQ hf hP hD hS (lv_sub hl [0] rfl)
    · have hf := zf h_2 hf
      refine lv_aload_n hx hb dX5_tick_110 rfl (lv_at hl 0 rfl) ?_
      refine gM5_clock hx hb hts iw5 hown hK hP (List.mem_of_getElem? (i := 1) rfl) dX5_tick_111 ?_
      refine lv_bipush (v := (8 : Int32)) hx hb dX5_tick_114 (by decide) ?_
      refine lv_icmp_ne (tgt := 134) hx hb dX5_tick_116 (by decide) (fun h_3 => ?_) (fun h_3 => ?_)
      · have hf := zf h_3 hf
        exact zrv hf hQ hP hD hS dX5_tick_134
      · have hf := zt h_3 hf
        exact kX5_tick_119 hC0 hQ hf hP hD hS (lv_sub hl [0] rfl)
  · have hf := zf h_1 hf
    refine lv_aload_n hx hb dX5_tick_59 rfl (lv_at hl 0 rfl) ?_
    refine gM5_isRouter hx hb hts iw5 hown hK hP (List.mem_of_getElem? (i := 4) rfl) dX5_tick_60 ?_
    refine lv_iload_n hx hb dX5_tick_63 rfl (lv_at hl 1 rfl) ?_
    refine lv_aload_n hx hb dX5_tick_64 rfl (lv_at hl 0 rfl) ?_
    refine gM5_isRouter hx hb hts iw5 hown hK hP (List.mem_of_getElem? (i := 4) rfl) dX5_tick_65 ?_
    refine lv_iload_n hx hb dX5_tick_68 rfl (lv_at hl 1 rfl) ?_
    refine lM5_isRouter hf hx hb hK hP dX5_tick_69 (fun hf => ?_)
    refine lv_if_eq (tgt := 90) hx hb dX5_tick_70 (by decide) (fun h_4 => ?_) (fun h_4 => ?_)
    · have hf := zt h_4 hf
      exact kX5_tick_90 hC0 hQ hF53 hf hP hD hS (lv_sub hl [0, 1] rfl)
    · have hf := zf h_4 hf
      refine lv_aload_n hx hb dX5_tick_73 rfl (lv_at hl 0 rfl) ?_
      refine gM5_until hx hb hts iw5 hown hK hP (List.mem_of_getElem? (i := 5) rfl) dX5_tick_74 ?_
      refine lv_iload_n hx hb dX5_tick_77 rfl (lv_at hl 1 rfl) ?_
      refine lM5_until hf hx hb hK hP dX5_tick_78 (fun hf => ?_)
      refine lv_aload_n hx hb dX5_tick_79 rfl (lv_at hl 0 rfl) ?_
      refine gM5_clock hx hb hts iw5 hown hK hP (List.mem_of_getElem? (i := 1) rfl) dX5_tick_80 ?_
      refine lv_icmp_eq (tgt := 90) hx hb dX5_tick_83 (by decide) (fun h_5 => ?_) (fun h_5 => ?_)
      · have hf := zt h_5 hf
        exact kX5_tick_90 hC0 hQ hF53 hf hP hD hS (lv_sub hl [0, 1] rfl)
      · have hf := zf h_5 hf
        refine lv_iconst (v := (1 : Int32)) hx hb dX5_tick_86 (by decide) ?_
        refine lv_goto (tgt := 91) hx hb dX5_tick_87 (by decide) ?_
        exact kX5_tick_91 hC0 hQ hF53 hf hP hD hS (lv_sub hl [0, 1] rfl)
theorem kX5_tick_53 {r : zS} (hC0 : zC p m c cX5_tick 2 s args wsX5_tick RX5 D cI cZ) (hQ : zRv p l e rmX5_tick s m args below meth c cX5_tick D A (wM a cI cZ) Q r) (n : Nat) : ∀ (S : zS) (x1 : Int32), fX5_tick_53 n S x1 = some r → ∀ {H : Heap} {locs : List Loc}, va_P D vwCl (wM a cI cZ S) H → va_D A (wM a cI cZ S) → va_S A s.heap H locs → ∀ {ls : Array Slot}, lv_has ls 2 [(0, .ref (a 0)), (1, .int x1)] → W p l e rmX5_tick s m args below meth c H locs 0 0 Q (F0 m 53 ls []) := by
  induction n with
  | zero => intro S x1 hf; cases hf
  | succ n ih => intro S x1 hf; exact kX5_tick_53b hC0 hQ ih hf
set_option maxHeartbeats 4000000 in
set_option maxRecDepth 100000 in
theorem kX5_tick_45 {r : zS} (hC0 : zC p m c cX5_tick 2 s args wsX5_tick RX5 D cI cZ) (hQ : zRv p l e rmX5_tick s m args below meth c cX5_tick D A (wM a cI cZ) Q r) {F12 : zS → Int32 → Option (zS)} (hF12 : ∀ (S : zS) (x1 : Int32), F12 S x1 = some r → ∀ {H : Heap} {locs : List Loc}, va_P D vwCl (wM a cI cZ S) H → va_D A (wM a cI cZ S) → va_S A s.heap H locs → ∀ {ls : Array Slot}, lv_has ls 2 [(0, .ref (a 0)), (1, .int x1)] → W p l e rmX5_tick s m args below meth c H locs 0 0 Q (F0 m 12 ls [])) {S : zS} {x1 : Int32} (hf : fX5_tick_45 F12 S x1 = some r) {H : Heap} {locs : List Loc} (hP : va_P D vwCl (wM a cI cZ S) H) (hD : va_D A (wM a cI cZ S)) (hS : va_S A s.heap H locs) {ls : Array Slot} (hl : lv_has ls 2 [(0, .ref (a 0)), (1, .int x1)]) : W p l e rmX5_tick s m args below meth c H locs 0 0 Q (F0 m 45 ls []) := by
  obtain ⟨hC, hK, hN⟩ := id hC0
  obtain ⟨hx, hb, hml, hown, hts⟩ := id hC
  have iw5 := iwX5_tick_5
  unfold fX5_tick_45 at hf
  refine z_iinc hf hx hb 1 (fun y => [(1, .int y), (0, .ref (a 0))]) dX5_tick_45 hl rfl (by decide) (by decide) (fun _ => rfl) (fun y_1 ls hf hl => ?_)
  refine lv_goto (tgt := 12) hx hb dX5_tick_48 (by decide) ?_
  exact hF12 _ _ hf hP hD hS (lv_sub hl [1, 0] rfl)
set_option maxHeartbeats 4000000 in
set_option maxRecDepth 100000 in
theorem kX5_tick_12b {r : zS} (hC0 : zC p m c cX5_tick 2 s args wsX5_tick RX5 D cI cZ) (hQ : zRv p l e rmX5_tick s m args below meth c cX5_tick D A (wM a cI cZ) Q r) {F12 : zS → Int32 → Option (zS)} (hF12 : ∀ (S : zS) (x1 : Int32), F12 S x1 = some r → ∀ {H : Heap} {locs : List Loc}, va_P D vwCl (wM a cI cZ S) H → va_D A (wM a cI cZ S) → va_S A s.heap H locs → ∀ {ls : Array Slot}, lv_has ls 2 [(0, .ref (a 0)), (1, .int x1)] → W p l e rmX5_tick s m args below meth c H locs 0 0 Q (F0 m 12 ls [])) {S : zS} {x1 : Int32} (hf : bX5_tick_12 F12 S x1 = some r) {H : Heap} {locs : List Loc} (hP : va_P D vwCl (wM a cI cZ S) H) (hD : va_D A (wM a cI cZ S)) (hS : va_S A s.heap H locs) {ls : Array Slot} (hl : lv_has ls 2 [(0, .ref (a 0)), (1, .int x1)]) : W p l e rmX5_tick s m args below meth c H locs 0 0 Q (F0 m 12 ls []) := by
  obtain ⟨hC, hK, hN⟩ := id hC0
  obtain ⟨hx, hb, hml, hown, hts⟩ := id hC
  have iw5 := iwX5_tick_5
  unfold bX5_tick_12 at hf
  refine lv_iload_n hx hb dX5_tick_12 rfl (lv_at hl 1 rfl) ?_
  refine lv_bipush (v := (16 : Int32)) hx hb dX5_tick_13 (by decide) ?_
  refine lv_icmp_ge (tgt := 51) hx hb dX5_tick_15 (by decide) (fun h_1 => ?_) (fun h_1 => ?_)
  · have hf := zt h_1 hf
    refine lv_iconst (v := (0 : Int32)) hx hb dX5_tick_51 (by decide) ?_
    refine z_istore_n hf hx hb (fun y => [(1, .int y), (0, .ref (a 0))]) dX5_tick_52 rfl hl (by decide) (fun _ => rfl) (fun y_1 ls hf hl => ?_)
    exact kX5_tick_53 hC0 hQ 64 _ _ hf hP hD hS (lv_sub hl [1, 0] rfl)
  · have hf := zf h_1 hf
    refine lv_aload_n hx hb dX5_tick_18 rfl (lv_at hl 0 rfl) ?_
    refine gM5_isThere hx hb hts iw5 hown hK hP (List.mem_of_getElem? (i := 2) rfl) dX5_tick_19 ?_
    refine lv_iload_n hx hb dX5_tick_22 rfl (lv_at hl 1 rfl) ?_
    refine lM5_isThere hf hx hb hK hP dX5_tick_23 (fun hf => ?_)
    refine lv_if_eq (tgt := 45) hx hb dX5_tick_24 (by decide) (fun h_2 => ?_) (fun h_2 => ?_)
    · have hf := zt h_2 hf
      exact kX5_tick_45 hC0 hQ hF12 hf hP hD hS (lv_sub hl [0, 1] rfl)
    · have hf := zf h_2 hf
      refine lv_aload_n hx hb dX5_tick_27 rfl (lv_at hl 0 rfl) ?_
      refine gM5_end hx hb hts iw5 hown hK hP (List.mem_of_getElem? (i := 3) rfl) dX5_tick_28 ?_
      refine lv_iload_n hx hb dX5_tick_31 rfl (lv_at hl 1 rfl) ?_
      refine lM5_end hf hx hb hK hP dX5_tick_32 (fun hf => ?_)
      refine lv_aload_n hx hb dX5_tick_33 rfl (lv_at hl 0 rfl) ?_
      refine gM5_clock hx hb hts iw5 hown hK hP (List.mem_of_getElem? (i := 1) rfl) dX5_tick_34 ?_
      refine lv_icmp_ne (tgt := 45) hx hb dX5_tick_37 (by decide) (fun h_3 => ?_) (fun h_3 => ?_)
      · have hf := zf h_3 hf
        exact kX5_tick_45 hC0 hQ hF12 hf hP hD hS (lv_sub hl [0, 1] rfl)
      · have hf := zt h_3 hf
        refine lv_aload_n hx hb dX5_tick_40 rfl (lv_at hl 0 rfl) ?_
        refine lv_iload_n hx hb dX5_tick_41 rfl (lv_at hl 1 rfl) ?_
        obtain ⟨S_1, hg_1, hf⟩ := obnv_some hf
        refine zcv (va_runV (As := [.int x1]) (rest := []) hC (tX5_passEntry hg_1) (cwV 1 hts gX5_tick_X5_passEntry rfl rfl rfl (by decide +kernel) ⟨Nat.le_of_ble_eq_true rfl, Nat.le_of_ble_eq_true rfl⟩) (zpV hP hK hD hN (rM_0 hK hP)) rfl rfl hl.1 rfl (lv_room (Nat.le_of_ble_eq_true rfl)) dX5_tick_42 ⟨Nat.zero_le _, Nat.zero_le _⟩) hS (fun H locs hP hD hS => ?_)
        exact kX5_tick_45 hC0 hQ hF12 hf hP hD hS (lv_sub hl [0, 1] rfl)
theorem kX5_tick_12 {r : zS} (hC0 : zC p m c cX5_tick 2 s args wsX5_tick RX5 D cI cZ) (hQ : zRv p l e rmX5_tick s m args below meth c cX5_tick D A (wM a cI cZ) Q r) (n : Nat) : ∀ (S : zS) (x1 : Int32), fX5_tick_12 n S x1 = some r → ∀ {H : Heap} {locs : List Loc}, va_P D vwCl (wM a cI cZ S) H → va_D A (wM a cI cZ S) → va_S A s.heap H locs → ∀ {ls : Array Slot}, lv_has ls 2 [(0, .ref (a 0)), (1, .int x1)] → W p l e rmX5_tick s m args below meth c H locs 0 0 Q (F0 m 12 ls []) := by
  induction n with
  | zero => intro S x1 hf; cases hf
  | succ n ih => intro S x1 hf; exact kX5_tick_12b hC0 hQ ih hf
set_option maxHeartbeats 4000000 in
set_option maxRecDepth 100000 in
theorem kX5_tick {r : zS} (hC0 : zC p m c cX5_tick 2 s args wsX5_tick RX5 D cI cZ) (hQ : zRv p l e rmX5_tick s m args below meth c cX5_tick D A (wM a cI cZ) Q r) {S : zS} (hf : fX5_tick S = some r) {H : Heap} {locs : List Loc} (hP : va_P D vwCl (wM a cI cZ S) H) (hD : va_D A (wM a cI cZ S)) (hS : va_S A s.heap H locs) {ls : Array Slot} (hl : lv_has ls 2 [(0, .ref (a 0))]) : W p l e rmX5_tick s m args below meth c H locs 0 0 Q (F0 m 0 ls []) := by
  obtain ⟨hC, hK, hN⟩ := id hC0
  obtain ⟨hx, hb, hml, hown, hts⟩ := id hC
  have iw5 := iwX5_tick_5
  unfold fX5_tick at hf
  refine lv_aload_n hx hb dX5_tick_0 rfl (lv_at hl 0 rfl) ?_
  refine lv_dup hx hb dX5_tick_1 rfl ?_
  refine gM5_clock hx hb hts iw5 hown hK hP (List.mem_of_getElem? (i := 1) rfl) dX5_tick_2 ?_
  refine lv_iconst (v := (1 : Int32)) hx hb dX5_tick_5 (by decide) ?_
  refine lv_iadd hx hb dX5_tick_6 ?_
  refine pM5_clock hf hx hb hts iw5 hown hK hP hD hS (List.mem_of_getElem? (i := 1) rfl) dX5_tick_7 (fun S_1 H locs hf hP hD hS => ?_)
  refine lv_iconst (v := (0 : Int32)) hx hb dX5_tick_10 (by decide) ?_
  refine z_istore_n hf hx hb (fun y => [(1, .int y), (0, .ref (a 0))]) dX5_tick_11 rfl hl (by decide) (fun _ => rfl) (fun y_1 ls hf hl => ?_)
  exact kX5_tick_12 hC0 hQ 64 _ _ hf hP hD hS (lv_sub hl [1, 0] rfl)
theorem tX5_tick {S : zS} {r : zS} (hf : fX5_tick S = some r) : zMv l yX5_tick wsX5_tick rmX5_tick D (zT cI cZ) A (wM a cI cZ) [.ref (a 0)] S r :=
  zMv_of (by decide) rfl rfl (Nat.le_of_ble_eq_true rfl) (fun hC0 hQ hP hD hS _ hl => kX5_tick hC0 hQ hf hP hD hS hl)
abbrev rmX5_pass : Room := { frames := 5, cells := 0, slots := 0, locals := 108 }
theorem iwX5_pass_5 : ∀ w ∈ wsX50, w ∈ wsX5_pass := fun _ h => List.mem_cons_of_mem _ (List.mem_append_right _ h)
set_option maxHeartbeats 4000000 in
set_option maxRecDepth 100000 in
theorem kX5_pass_15b {r : Int32 × zS} (hC0 : zC p m c cX5_pass 3 s args wsX5_pass RX5 D cI cZ) (hQ : zRi p l e rmX5_pass s m args below meth c cX5_pass D A (wM a cI cZ) Q r) {F15 : zS → Int32 → Int32 → Option (Int32 × zS)} (hF15 : ∀ (S : zS) (x1 : Int32) (x2 : Int32), F15 S x1 x2 = some r → ∀ {H : Heap} {locs : List Loc}, va_P D vwCl (wM a cI cZ S) H → va_D A (wM a cI cZ S) → va_S A s.heap H locs → ∀ {ls : Array Slot}, lv_has ls 3 [(0, .ref (a 0)), (1, .int x1), (2, .int x2)] → W p l e rmX5_pass s m args below meth c H locs 0 0 Q (F0 m 15 ls [])) {S : zS} {x1 : Int32} {x2 : Int32} (hf : bX5_pass_15 F15 S x1 x2 = some r) {H : Heap} {locs : List Loc} (hP : va_P D vwCl (wM a cI cZ S) H) (hD : va_D A (wM a cI cZ S)) (hS : va_S A s.heap H locs) {ls : Array Slot} (hl : lv_has ls 3 [(0, .ref (a 0)), (1, .int x1), (2, .int x2)]) : W p l e rmX5_pass s m args below meth c H locs 0 0 Q (F0 m 15 ls []) := by
  obtain ⟨hC, hK, hN⟩ := id hC0
  obtain ⟨hx, hb, hml, hown, hts⟩ := id hC
  have iw5 := iwX5_pass_5
  unfold bX5_pass_15 at hf
  refine lv_iload_n hx hb dX5_pass_15 rfl (lv_at hl 2 rfl) ?_
  refine lv_iload_n hx hb dX5_pass_16 rfl (lv_at hl 1 rfl) ?_
  refine lv_icmp_ge (tgt := 30) hx hb dX5_pass_17 (by decide) (fun h_1 => ?_) (fun h_1 => ?_)
  · have hf := zt h_1 hf
    refine lv_aload_n hx hb dX5_pass_30 rfl (lv_at hl 0 rfl) ?_
    refine gM5_clock hx hb hts iw5 hown hK hP (List.mem_of_getElem? (i := 1) rfl) dX5_pass_31 ?_
    exact zri hf hQ hP hD hS dX5_pass_34
  · have hf := zf h_1 hf
    refine lv_aload_n hx hb dX5_pass_20 rfl (lv_at hl 0 rfl) ?_
    obtain ⟨S_1, hg_1, hf⟩ := obnv_some hf
    refine zcv (va_runV (As := []) (rest := []) hC (tX5_tick hg_1) (cwV 0 hts gX5_pass_X5_tick rfl rfl rfl (by decide +kernel) ⟨Nat.le_of_ble_eq_true rfl, Nat.le_of_ble_eq_true rfl⟩) (zpV hP hK hD hN (rM_0 hK hP)) rfl rfl hl.1 rfl (lv_room (Nat.le_of_ble_eq_true rfl)) dX5_pass_21 ⟨Nat.zero_le _, Nat.zero_le _⟩) hS (fun H locs hP hD hS => ?_)
    refine z_iinc hf hx hb 2 (fun y => [(2, .int y), (0, .ref (a 0)), (1, .int x1)]) dX5_pass_24 hl rfl (by decide) (by decide) (fun _ => rfl) (fun y_1 ls hf hl => ?_)
    refine lv_goto (tgt := 15) hx hb dX5_pass_27 (by decide) ?_
    exact hF15 _ _ _ hf hP hD hS (lv_sub hl [1, 2, 0] rfl)
theorem kX5_pass_15 {r : Int32 × zS} (hC0 : zC p m c cX5_pass 3 s args wsX5_pass RX5 D cI cZ) (hQ : zRi p l e rmX5_pass s m args below meth c cX5_pass D A (wM a cI cZ) Q r) (n : Nat) : ∀ (S : zS) (x1 : Int32) (x2 : Int32), fX5_pass_15 n S x1 x2 = some r → ∀ {H : Heap} {locs : List Loc}, va_P D vwCl (wM a cI cZ S) H → va_D A (wM a cI cZ S) → va_S A s.heap H locs → ∀ {ls : Array Slot}, lv_has ls 3 [(0, .ref (a 0)), (1, .int x1), (2, .int x2)] → W p l e rmX5_pass s m args below meth c H locs 0 0 Q (F0 m 15 ls []) := by
  induction n with
  | zero => intro S x1 x2 hf; cases hf
  | succ n ih => intro S x1 x2 hf; exact kX5_pass_15b hC0 hQ ih hf
set_option maxHeartbeats 4000000 in
set_option maxRecDepth 100000 in
theorem kX5_pass {r : Int32 × zS} (hC0 : zC p m c cX5_pass 3 s args wsX5_pass RX5 D cI cZ) (hQ : zRi p l e rmX5_pass s m args below meth c cX5_pass D A (wM a cI cZ) Q r) {S : zS} {x1 : Int32} (hf : fX5_pass S x1 = some r) {H : Heap} {locs : List Loc} (hP : va_P D vwCl (wM a cI cZ S) H) (hD : va_D A (wM a cI cZ S)) (hS : va_S A s.heap H locs) {ls : Array Slot} (hl : lv_has ls 3 [(0, .ref (a 0)), (1, .int x1)]) : W p l e rmX5_pass s m args below meth c H locs 0 0 Q (F0 m 0 ls []) := by
  obtain ⟨hC, hK, hN⟩ := id hC0
  obtain ⟨hx, hb, hml, hown, hts⟩ := id hC
  have iw5 := iwX5_pass_5
  unfold fX5_pass at hf
  refine lv_iload_n hx hb dX5_pass_0 rfl (lv_at hl 1 rfl) ?_
  refine lv_iconst (v := (1 : Int32)) hx hb dX5_pass_1 (by decide) ?_
  refine lv_bipush (v := (60 : Int32)) hx hb dX5_pass_2 (by decide) ?_
  obtain ⟨y_1, S_1, hg_1, hf⟩ := obnd_some hf
  refine zci (va_runS (As := [.int x1, .int (1 : Int32), .int (60 : Int32)]) (rest := []) hC (tX5_within hg_1) (va_cwS 3 hts gX5_pass_X5_within rfl rfl rfl (by decide +kernel) ⟨Nat.le_of_ble_eq_true rfl, Nat.le_of_ble_eq_true rfl⟩) (zpS hP hK hD hN) rfl rfl hl.1 rfl (lv_room (Nat.le_of_ble_eq_true rfl)) dX5_pass_4 ⟨Nat.zero_le _, Nat.zero_le _⟩) hS (fun H locs hP hD hS => ?_)
  refine lv_if_ne (tgt := 13) hx hb dX5_pass_7 (by decide) (fun h_1 => ?_) (fun h_1 => ?_)
  · have hf := zf h_1 hf
    refine lv_iconst (v := (0 : Int32)) hx hb dX5_pass_13 (by decide) ?_
    refine z_istore_n hf hx hb (fun y => [(2, .int y), (0, .ref (a 0)), (1, .int x1)]) dX5_pass_14 rfl hl (by decide) (fun _ => rfl) (fun y_2 ls hf hl => ?_)
    exact kX5_pass_15 hC0 hQ 64 _ _ _ hf hP hD hS (lv_sub hl [1, 2, 0] rfl)
  · have hf := zt h_1 hf
    refine lv_bipush (v := (-102 : Int32)) hx hb dX5_pass_10 (by decide) ?_
    exact zri hf hQ hP hD hS dX5_pass_12
theorem tX5_pass {S : zS} {x1 : Int32} {r : Int32 × zS} (hf : fX5_pass S x1 = some r) : zMi l yX5_pass wsX5_pass rmX5_pass D (zT cI cZ) A (wM a cI cZ) [.ref (a 0), .int x1] S r :=
  zMi_of (by decide) rfl rfl (Nat.le_of_ble_eq_true rfl) (fun hC0 hQ hP hD hS _ hl => kX5_pass hC0 hQ hf hP hD hS hl)
abbrev rmX5_send : Room := { frames := 4, cells := 0, slots := 0, locals := 88 }
theorem iwX5_send_5 : ∀ w ∈ wsX50, w ∈ wsX5_send := fun _ h => List.mem_cons_of_mem _ (List.mem_append_right _ h)
set_option maxHeartbeats 4000000 in
set_option maxRecDepth 100000 in
theorem kX5_send_44 {r : Int32 × zS} (hC0 : zC p m c cX5_send 3 s args wsX5_send RX5 D cI cZ) (hQ : zRi p l e rmX5_send s m args below meth c cX5_send D A (wM a cI cZ) Q r) {S : zS} {x1 : Int32} {x2 : Int32} (hf : fX5_send_44 S x1 x2 = some r) {H : Heap} {locs : List Loc} (hP : va_P D vwCl (wM a cI cZ S) H) (hD : va_D A (wM a cI cZ S)) (hS : va_S A s.heap H locs) {ls : Array Slot} (hl : lv_has ls 3 [(0, .ref (a 0)), (1, .int x1), (2, .int x2)]) : W p l e rmX5_send s m args below meth c H locs 0 0 Q (F0 m 44 ls []) := by
  obtain ⟨hC, hK, hN⟩ := id hC0
  obtain ⟨hx, hb, hml, hown, hts⟩ := id hC
  have iw5 := iwX5_send_5
  unfold fX5_send_44 at hf
  refine lv_aload_n hx hb dX5_send_44 rfl (lv_at hl 0 rfl) ?_
  refine lv_iload_n hx hb dX5_send_45 rfl (lv_at hl 1 rfl) ?_
  refine lv_iload_n hx hb dX5_send_46 rfl (lv_at hl 2 rfl) ?_
  obtain ⟨y_1, S_1, hg_1, hf⟩ := obnd_some hf
  refine zci (va_runV (As := [.int x1, .int x2]) (rest := []) hC (tX5_sendNow hg_1) (cwV 2 hts gX5_send_X5_sendNow rfl rfl rfl (by decide +kernel) ⟨Nat.le_of_ble_eq_true rfl, Nat.le_of_ble_eq_true rfl⟩) (zpV hP hK hD hN (rM_0 hK hP)) rfl rfl hl.1 rfl (lv_room (Nat.le_of_ble_eq_true rfl)) dX5_send_47 ⟨Nat.zero_le _, Nat.zero_le _⟩) hS (fun H locs hP hD hS => ?_)
  refine lv_goto (tgt := 55) hx hb dX5_send_50 (by decide) ?_
  exact zri hf hQ hP hD hS dX5_send_55
set_option maxHeartbeats 4000000 in
set_option maxRecDepth 100000 in
theorem kX5_send {r : Int32 × zS} (hC0 : zC p m c cX5_send 3 s args wsX5_send RX5 D cI cZ) (hQ : zRi p l e rmX5_send s m args below meth c cX5_send D A (wM a cI cZ) Q r) {S : zS} {x1 : Int32} {x2 : Int32} (hf : fX5_send S x1 x2 = some r) {H : Heap} {locs : List Loc} (hP : va_P D vwCl (wM a cI cZ S) H) (hD : va_D A (wM a cI cZ S)) (hS : va_S A s.heap H locs) {ls : Array Slot} (hl : lv_has ls 3 [(0, .ref (a 0)), (1, .int x1), (2, .int x2)]) : W p l e rmX5_send s m args below meth c H locs 0 0 Q (F0 m 0 ls []) := by
  obtain ⟨hC, hK, hN⟩ := id hC0
  obtain ⟨hx, hb, hml, hown, hts⟩ := id hC
  have iw5 := iwX5_send_5
  unfold fX5_send at hf
  refine lv_iload_n hx hb dX5_send_0 rfl (lv_at hl 1 rfl) ?_
  obtain ⟨y_1, S_1, hg_1, hf⟩ := obnd_some hf
  refine zci (va_runS (As := [.int x1]) (rest := []) hC (tX5_isAddress hg_1) (va_cwS 1 hts gX5_send_X5_isAddress rfl rfl rfl (by decide +kernel) ⟨Nat.le_of_ble_eq_true rfl, Nat.le_of_ble_eq_true rfl⟩) (zpS hP hK hD hN) rfl rfl hl.1 rfl (lv_room (Nat.le_of_ble_eq_true rfl)) dX5_send_1 ⟨Nat.zero_le _, Nat.zero_le _⟩) hS (fun H locs hP hD hS => ?_)
  refine lv_if_eq (tgt := 14) hx hb dX5_send_4 (by decide) (fun h_1 => ?_) (fun h_1 => ?_)
  · have hf := zt h_1 hf
    refine lv_bipush (v := (-102 : Int32)) hx hb dX5_send_14 (by decide) ?_
    exact zri hf hQ hP hD hS dX5_send_16
  · have hf := zf h_1 hf
    refine lv_iload_n hx hb dX5_send_7 rfl (lv_at hl 2 rfl) ?_
    obtain ⟨y_2, S_2, hg_2, hf⟩ := obnd_some hf
    refine zci (va_runS (As := [.int x2]) (rest := []) hC (tX5_isLetter hg_2) (va_cwS 1 hts gX5_send_X5_isLetter rfl rfl rfl (by decide +kernel) ⟨Nat.le_of_ble_eq_true rfl, Nat.le_of_ble_eq_true rfl⟩) (zpS hP hK hD hN) rfl rfl hl.1 rfl (lv_room (Nat.le_of_ble_eq_true rfl)) dX5_send_8 ⟨Nat.zero_le _, Nat.zero_le _⟩) hS (fun H locs hP hD hS => ?_)
    refine lv_if_ne (tgt := 17) hx hb dX5_send_11 (by decide) (fun h_2 => ?_) (fun h_2 => ?_)
    · have hf := zf h_2 hf
      refine lv_aload_n hx hb dX5_send_17 rfl (lv_at hl 0 rfl) ?_
      refine lv_iload_n hx hb dX5_send_18 rfl (lv_at hl 1 rfl) ?_
      obtain ⟨y_3, S_3, hg_3, hf⟩ := obnd_some hf
      refine zci (va_runV (As := [.int x1]) (rest := []) hC (tX5_isOurs hg_3) (cwV 1 hts gX5_send_X5_isOurs rfl rfl rfl (by decide +kernel) ⟨Nat.le_of_ble_eq_true rfl, Nat.le_of_ble_eq_true rfl⟩) (zpV hP hK hD hN (rM_0 hK hP)) rfl rfl hl.1 rfl (lv_room (Nat.le_of_ble_eq_true rfl)) dX5_send_19 ⟨Nat.zero_le _, Nat.zero_le _⟩) hS (fun H locs hP hD hS => ?_)
      refine lv_if_eq (tgt := 28) hx hb dX5_send_22 (by decide) (fun h_3 => ?_) (fun h_3 => ?_)
      · have hf := zt h_3 hf
        refine lv_aload_n hx hb dX5_send_28 rfl (lv_at hl 0 rfl) ?_
        refine gM5_isThere hx hb hts iw5 hown hK hP (List.mem_of_getElem? (i := 1) rfl) dX5_send_29 ?_
        refine lv_iload_n hx hb dX5_send_32 rfl (lv_at hl 1 rfl) ?_
        refine lM5_isThere hf hx hb hK hP dX5_send_33 (fun hf => ?_)
        refine lv_if_ne (tgt := 44) hx hb dX5_send_34 (by decide) (fun h_4 => ?_) (fun h_4 => ?_)
        · have hf := zf h_4 hf
          exact kX5_send_44 hC0 hQ hf hP hD hS (lv_sub hl [0, 1, 2] rfl)
        · have hf := zt h_4 hf
          refine lv_aload_n hx hb dX5_send_37 rfl (lv_at hl 0 rfl) ?_
          obtain ⟨y_4, S_4, hg_4, hf⟩ := obnd_some hf
          refine zci (va_runV (As := []) (rest := []) hC (tX5_isRoom hg_4) (cwV 0 hts gX5_send_X5_isRoom rfl rfl rfl (by decide +kernel) ⟨Nat.le_of_ble_eq_true rfl, Nat.le_of_ble_eq_true rfl⟩) (zpV hP hK hD hN (rM_0 hK hP)) rfl rfl hl.1 rfl (lv_room (Nat.le_of_ble_eq_true rfl)) dX5_send_38 ⟨Nat.zero_le _, Nat.zero_le _⟩) hS (fun H locs hP hD hS => ?_)
          refine lv_if_eq (tgt := 53) hx hb dX5_send_41 (by decide) (fun h_5 => ?_) (fun h_5 => ?_)
          · have hf := zt h_5 hf
            refine lv_bipush (v := (-104 : Int32)) hx hb dX5_send_53 (by decide) ?_
            exact zri hf hQ hP hD hS dX5_send_55
          · have hf := zf h_5 hf
            exact kX5_send_44 hC0 hQ hf hP hD hS (lv_sub hl [0, 1, 2] rfl)
      · have hf := zf h_3 hf
        refine lv_bipush (v := (-103 : Int32)) hx hb dX5_send_25 (by decide) ?_
        exact zri hf hQ hP hD hS dX5_send_27
    · have hf := zt h_2 hf
      refine lv_bipush (v := (-102 : Int32)) hx hb dX5_send_14 (by decide) ?_
      exact zri hf hQ hP hD hS dX5_send_16
theorem tX5_send {S : zS} {x1 : Int32} {x2 : Int32} {r : Int32 × zS} (hf : fX5_send S x1 x2 = some r) : zMi l yX5_send wsX5_send rmX5_send D (zT cI cZ) A (wM a cI cZ) [.ref (a 0), .int x1, .int x2] S r :=
  zMi_of (by decide) rfl rfl (Nat.le_of_ble_eq_true rfl) (fun hC0 hQ hP hD hS _ hl => kX5_send hC0 hQ hf hP hD hS hl)
end KY3
