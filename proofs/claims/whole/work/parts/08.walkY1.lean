section KY1
variable {p : Program} {l : Launch} {e : Env} {s : State} {m : MethodId} {args : Array Value} {below : List Frame} {meth : Method} {c : Code} {Q : State → Prop} {D : va_G} {a : Nat → Nat} {cI cZ : ClassId} {A : Nat → Prop}
abbrev rmX5_within : Room := { frames := 0, cells := 0, slots := 0, locals := 0 }
set_option maxHeartbeats 4000000 in
set_option maxRecDepth 100000 in
theorem kX5_within {r : Int32 × zS} (hC0 : zC p m c cX5_within 3 s args wsX5_within RX5 D cI cZ) (hQ : zRz p l e rmX5_within s m args below meth c cX5_within D A (wM a cI cZ) Q r) {S : zS} {x0 : Int32} {x1 : Int32} {x2 : Int32} (hf : fX5_within S x0 x1 x2 = some r) {H : Heap} {locs : List Loc} (hP : va_P D vwCl (wM a cI cZ S) H) (hD : va_D A (wM a cI cZ S)) (hS : va_S A s.heap H locs) {ls : Array Slot} (hl : lv_has ls 3 [(0, .int x0), (1, .int x1), (2, .int x2)]) : W p l e rmX5_within s m args below meth c H locs 0 0 Q (F0 m 0 ls []) := by
  obtain ⟨hC, hK, hN⟩ := id hC0
  obtain ⟨hx, hb, hml, hown, hts⟩ := id hC
  unfold fX5_within at hf
  refine lv_iload_n hx hb dX5_within_0 rfl (lv_at hl 0 rfl) ?_
  refine lv_iload_n hx hb dX5_within_1 rfl (lv_at hl 1 rfl) ?_
  refine lv_icmp_lt (tgt := 14) hx hb dX5_within_2 (by decide) (fun h_1 => ?_) (fun h_1 => ?_)
  · have hf := zt h_1 hf
    refine lv_iconst (v := (0 : Int32)) hx hb dX5_within_14 (by decide) ?_
    exact zrz hf (Or.inl rfl) hQ hP hD hS dX5_within_15
  · have hf := zf h_1 hf
    refine lv_iload_n hx hb dX5_within_5 rfl (lv_at hl 0 rfl) ?_
    refine lv_iload_n hx hb dX5_within_6 rfl (lv_at hl 2 rfl) ?_
    refine lv_icmp_gt (tgt := 14) hx hb dX5_within_7 (by decide) (fun h_2 => ?_) (fun h_2 => ?_)
    · have hf := zt h_2 hf
      refine lv_iconst (v := (0 : Int32)) hx hb dX5_within_14 (by decide) ?_
      exact zrz hf (Or.inl rfl) hQ hP hD hS dX5_within_15
    · have hf := zf h_2 hf
      refine lv_iconst (v := (1 : Int32)) hx hb dX5_within_10 (by decide) ?_
      refine lv_goto (tgt := 15) hx hb dX5_within_11 (by decide) ?_
      exact zrz hf (Or.inr rfl) hQ hP hD hS dX5_within_15
theorem tX5_within {S : zS} {x0 : Int32} {x1 : Int32} {x2 : Int32} {r : Int32 × zS} (hf : fX5_within S x0 x1 x2 = some r) : zMi l yX5_within wsX5_within rmX5_within D (zT cI cZ) A (wM a cI cZ) [.int x0, .int x1, .int x2] S r :=
  zMz_of (by decide) rfl rfl (Nat.le_of_ble_eq_true rfl) (fun hC0 hQ hP hD hS _ hl => kX5_within hC0 hQ hf hP hD hS hl)
abbrev rmX5_isAddress : Room := { frames := 1, cells := 0, slots := 0, locals := 22 }
set_option maxHeartbeats 4000000 in
set_option maxRecDepth 100000 in
theorem kX5_isAddress {r : Int32 × zS} (hC0 : zC p m c cX5_isAddress 1 s args wsX5_isAddress RX5 D cI cZ) (hQ : zRz p l e rmX5_isAddress s m args below meth c cX5_isAddress D A (wM a cI cZ) Q r) {S : zS} {x0 : Int32} (hf : fX5_isAddress S x0 = some r) {H : Heap} {locs : List Loc} (hP : va_P D vwCl (wM a cI cZ S) H) (hD : va_D A (wM a cI cZ S)) (hS : va_S A s.heap H locs) {ls : Array Slot} (hl : lv_has ls 1 [(0, .int x0)]) : W p l e rmX5_isAddress s m args below meth c H locs 0 0 Q (F0 m 0 ls []) := by
  obtain ⟨hC, hK, hN⟩ := id hC0
  obtain ⟨hx, hb, hml, hown, hts⟩ := id hC
  unfold fX5_isAddress at hf
  refine lv_iload_n hx hb dX5_isAddress_0 rfl (lv_at hl 0 rfl) ?_
  refine lv_iconst (v := (0 : Int32)) hx hb dX5_isAddress_1 (by decide) ?_
  refine lv_bipush (v := (15 : Int32)) hx hb dX5_isAddress_2 (by decide) ?_
  obtain ⟨y_1, S_1, hg_1, hf⟩ := obnd_some hf
  refine zci (va_runS (As := [.int x0, .int (0 : Int32), .int (15 : Int32)]) (rest := []) hC (tX5_within hg_1) (va_cwS 3 hts gX5_isAddress_X5_within rfl rfl rfl (by decide +kernel) ⟨Nat.le_of_ble_eq_true rfl, Nat.le_of_ble_eq_true rfl⟩) (zpS hP hK hD hN) rfl rfl hl.1 rfl (lv_room (Nat.le_of_ble_eq_true rfl)) dX5_isAddress_4 ⟨Nat.zero_le _, Nat.zero_le _⟩) hS (fun H locs hP hD hS => ?_)
  obtain ⟨hz_1, hf⟩ := zbl_some hf
  exact zrz hf hz_1 hQ hP hD hS dX5_isAddress_7
theorem tX5_isAddress {S : zS} {x0 : Int32} {r : Int32 × zS} (hf : fX5_isAddress S x0 = some r) : zMi l yX5_isAddress wsX5_isAddress rmX5_isAddress D (zT cI cZ) A (wM a cI cZ) [.int x0] S r :=
  zMz_of (by decide) rfl rfl (Nat.le_of_ble_eq_true rfl) (fun hC0 hQ hP hD hS _ hl => kX5_isAddress hC0 hQ hf hP hD hS hl)
abbrev rmX5_isMark : Room := { frames := 1, cells := 0, slots := 0, locals := 22 }
set_option maxHeartbeats 4000000 in
set_option maxRecDepth 100000 in
theorem kX5_isMark {r : Int32 × zS} (hC0 : zC p m c cX5_isMark 1 s args wsX5_isMark RX5 D cI cZ) (hQ : zRz p l e rmX5_isMark s m args below meth c cX5_isMark D A (wM a cI cZ) Q r) {S : zS} {x0 : Int32} (hf : fX5_isMark S x0 = some r) {H : Heap} {locs : List Loc} (hP : va_P D vwCl (wM a cI cZ S) H) (hD : va_D A (wM a cI cZ S)) (hS : va_S A s.heap H locs) {ls : Array Slot} (hl : lv_has ls 1 [(0, .int x0)]) : W p l e rmX5_isMark s m args below meth c H locs 0 0 Q (F0 m 0 ls []) := by
  obtain ⟨hC, hK, hN⟩ := id hC0
  obtain ⟨hx, hb, hml, hown, hts⟩ := id hC
  unfold fX5_isMark at hf
  refine lv_iload_n hx hb dX5_isMark_0 rfl (lv_at hl 0 rfl) ?_
  refine lv_iconst (v := (1 : Int32)) hx hb dX5_isMark_1 (by decide) ?_
  refine lv_bipush (v := (99 : Int32)) hx hb dX5_isMark_2 (by decide) ?_
  obtain ⟨y_1, S_1, hg_1, hf⟩ := obnd_some hf
  refine zci (va_runS (As := [.int x0, .int (1 : Int32), .int (99 : Int32)]) (rest := []) hC (tX5_within hg_1) (va_cwS 3 hts gX5_isMark_X5_within rfl rfl rfl (by decide +kernel) ⟨Nat.le_of_ble_eq_true rfl, Nat.le_of_ble_eq_true rfl⟩) (zpS hP hK hD hN) rfl rfl hl.1 rfl (lv_room (Nat.le_of_ble_eq_true rfl)) dX5_isMark_4 ⟨Nat.zero_le _, Nat.zero_le _⟩) hS (fun H locs hP hD hS => ?_)
  obtain ⟨hz_1, hf⟩ := zbl_some hf
  exact zrz hf hz_1 hQ hP hD hS dX5_isMark_7
theorem tX5_isMark {S : zS} {x0 : Int32} {r : Int32 × zS} (hf : fX5_isMark S x0 = some r) : zMi l yX5_isMark wsX5_isMark rmX5_isMark D (zT cI cZ) A (wM a cI cZ) [.int x0] S r :=
  zMz_of (by decide) rfl rfl (Nat.le_of_ble_eq_true rfl) (fun hC0 hQ hP hD hS _ hl => kX5_isMark hC0 hQ hf hP hD hS hl)
abbrev rmX5_isLetter : Room := { frames := 1, cells := 0, slots := 0, locals := 22 }
set_option maxHeartbeats 4000000 in
set_option maxRecDepth 100000 in
theorem kX5_isLetter {r : Int32 × zS} (hC0 : zC p m c cX5_isLetter 1 s args wsX5_isLetter RX5 D cI cZ) (hQ : zRz p l e rmX5_isLetter s m args below meth c cX5_isLetter D A (wM a cI cZ) Q r) {S : zS} {x0 : Int32} (hf : fX5_isLetter S x0 = some r) {H : Heap} {locs : List Loc} (hP : va_P D vwCl (wM a cI cZ S) H) (hD : va_D A (wM a cI cZ S)) (hS : va_S A s.heap H locs) {ls : Array Slot} (hl : lv_has ls 1 [(0, .int x0)]) : W p l e rmX5_isLetter s m args below meth c H locs 0 0 Q (F0 m 0 ls []) := by
  obtain ⟨hC, hK, hN⟩ := id hC0
  obtain ⟨hx, hb, hml, hown, hts⟩ := id hC
  unfold fX5_isLetter at hf
  refine lv_iload_n hx hb dX5_isLetter_0 rfl (lv_at hl 0 rfl) ?_
  refine lv_iconst (v := (1 : Int32)) hx hb dX5_isLetter_1 (by decide) ?_
  refine lv_sipush (v := (999 : Int32)) hx hb dX5_isLetter_2 (by decide) ?_
  obtain ⟨y_1, S_1, hg_1, hf⟩ := obnd_some hf
  refine zci (va_runS (As := [.int x0, .int (1 : Int32), .int (999 : Int32)]) (rest := []) hC (tX5_within hg_1) (va_cwS 3 hts gX5_isLetter_X5_within rfl rfl rfl (by decide +kernel) ⟨Nat.le_of_ble_eq_true rfl, Nat.le_of_ble_eq_true rfl⟩) (zpS hP hK hD hN) rfl rfl hl.1 rfl (lv_room (Nat.le_of_ble_eq_true rfl)) dX5_isLetter_5 ⟨Nat.zero_le _, Nat.zero_le _⟩) hS (fun H locs hP hD hS => ?_)
  obtain ⟨hz_1, hf⟩ := zbl_some hf
  exact zrz hf hz_1 hQ hP hD hS dX5_isLetter_8
theorem tX5_isLetter {S : zS} {x0 : Int32} {r : Int32 × zS} (hf : fX5_isLetter S x0 = some r) : zMi l yX5_isLetter wsX5_isLetter rmX5_isLetter D (zT cI cZ) A (wM a cI cZ) [.int x0] S r :=
  zMz_of (by decide) rfl rfl (Nat.le_of_ble_eq_true rfl) (fun hC0 hQ hP hD hS _ hl => kX5_isLetter hC0 hQ hf hP hD hS hl)
abbrev rmX5_isGoal : Room := { frames := 1, cells := 0, slots := 0, locals := 22 }
set_option maxHeartbeats 4000000 in
set_option maxRecDepth 100000 in
theorem kX5_isGoal {r : Int32 × zS} (hC0 : zC p m c cX5_isGoal 1 s args wsX5_isGoal RX5 D cI cZ) (hQ : zRz p l e rmX5_isGoal s m args below meth c cX5_isGoal D A (wM a cI cZ) Q r) {S : zS} {x0 : Int32} (hf : fX5_isGoal S x0 = some r) {H : Heap} {locs : List Loc} (hP : va_P D vwCl (wM a cI cZ S) H) (hD : va_D A (wM a cI cZ S)) (hS : va_S A s.heap H locs) {ls : Array Slot} (hl : lv_has ls 1 [(0, .int x0)]) : W p l e rmX5_isGoal s m args below meth c H locs 0 0 Q (F0 m 0 ls []) := by
  obtain ⟨hC, hK, hN⟩ := id hC0
  obtain ⟨hx, hb, hml, hown, hts⟩ := id hC
  unfold fX5_isGoal at hf
  refine lv_iload_n hx hb dX5_isGoal_0 rfl (lv_at hl 0 rfl) ?_
  refine lv_bipush (v := (16 : Int32)) hx hb dX5_isGoal_1 (by decide) ?_
  refine lv_bipush (v := (47 : Int32)) hx hb dX5_isGoal_3 (by decide) ?_
  obtain ⟨y_1, S_1, hg_1, hf⟩ := obnd_some hf
  refine zci (va_runS (As := [.int x0, .int (16 : Int32), .int (47 : Int32)]) (rest := []) hC (tX5_within hg_1) (va_cwS 3 hts gX5_isGoal_X5_within rfl rfl rfl (by decide +kernel) ⟨Nat.le_of_ble_eq_true rfl, Nat.le_of_ble_eq_true rfl⟩) (zpS hP hK hD hN) rfl rfl hl.1 rfl (lv_room (Nat.le_of_ble_eq_true rfl)) dX5_isGoal_5 ⟨Nat.zero_le _, Nat.zero_le _⟩) hS (fun H locs hP hD hS => ?_)
  obtain ⟨hz_1, hf⟩ := zbl_some hf
  exact zrz hf hz_1 hQ hP hD hS dX5_isGoal_8
theorem tX5_isGoal {S : zS} {x0 : Int32} {r : Int32 × zS} (hf : fX5_isGoal S x0 = some r) : zMi l yX5_isGoal wsX5_isGoal rmX5_isGoal D (zT cI cZ) A (wM a cI cZ) [.int x0] S r :=
  zMz_of (by decide) rfl rfl (Nat.le_of_ble_eq_true rfl) (fun hC0 hQ hP hD hS _ hl => kX5_isGoal hC0 hQ hf hP hD hS hl)
abbrev rmX5_isOurs : Room := { frames := 0, cells := 0, slots := 0, locals := 0 }
theorem iwX5_isOurs_5 : ∀ w ∈ wsX50, w ∈ wsX5_isOurs := fun _ h => List.mem_cons_of_mem _ (List.mem_append_right _ h)
set_option maxHeartbeats 4000000 in
set_option maxRecDepth 100000 in
theorem kX5_isOurs_21 {r : Int32 × zS} (hC0 : zC p m c cX5_isOurs 2 s args wsX5_isOurs RX5 D cI cZ) (hQ : zRz p l e rmX5_isOurs s m args below meth c cX5_isOurs D A (wM a cI cZ) Q r) {S : zS} (hf : fX5_isOurs_21 S = some r) {H : Heap} {locs : List Loc} (hP : va_P D vwCl (wM a cI cZ S) H) (hD : va_D A (wM a cI cZ S)) (hS : va_S A s.heap H locs) {ls : Array Slot} (hl : lv_has ls 2 []) : W p l e rmX5_isOurs s m args below meth c H locs 0 0 Q (F0 m 21 ls []) := by
  obtain ⟨hC, hK, hN⟩ := id hC0
  obtain ⟨hx, hb, hml, hown, hts⟩ := id hC
  have iw5 := iwX5_isOurs_5
  unfold fX5_isOurs_21 at hf
  refine lv_iconst (v := (1 : Int32)) hx hb dX5_isOurs_21 (by decide) ?_
  refine lv_goto (tgt := 26) hx hb dX5_isOurs_22 (by decide) ?_
  exact zrz hf (Or.inr rfl) hQ hP hD hS dX5_isOurs_26
set_option maxHeartbeats 4000000 in
set_option maxRecDepth 100000 in
theorem kX5_isOurs {r : Int32 × zS} (hC0 : zC p m c cX5_isOurs 2 s args wsX5_isOurs RX5 D cI cZ) (hQ : zRz p l e rmX5_isOurs s m args below meth c cX5_isOurs D A (wM a cI cZ) Q r) {S : zS} {x1 : Int32} (hf : fX5_isOurs S x1 = some r) {H : Heap} {locs : List Loc} (hP : va_P D vwCl (wM a cI cZ S) H) (hD : va_D A (wM a cI cZ S)) (hS : va_S A s.heap H locs) {ls : Array Slot} (hl : lv_has ls 2 [(0, .ref (a 0)), (1, .int x1)]) : W p l e rmX5_isOurs s m args below meth c H locs 0 0 Q (F0 m 0 ls []) := by
  obtain ⟨hC, hK, hN⟩ := id hC0
  obtain ⟨hx, hb, hml, hown, hts⟩ := id hC
  have iw5 := iwX5_isOurs_5
  unfold fX5_isOurs at hf
  refine lv_iload_n hx hb dX5_isOurs_0 rfl (lv_at hl 1 rfl) ?_
  refine lv_iconst (v := (-1 : Int32)) hx hb dX5_isOurs_1 (by decide) ?_
  refine lv_icmp_eq (tgt := 25) hx hb dX5_isOurs_2 (by decide) (fun h_1 => ?_) (fun h_1 => ?_)
  · have hf := zt h_1 hf
    refine lv_iconst (v := (0 : Int32)) hx hb dX5_isOurs_25 (by decide) ?_
    exact zrz hf (Or.inl rfl) hQ hP hD hS dX5_isOurs_26
  · have hf := zf h_1 hf
    refine lv_iload_n hx hb dX5_isOurs_5 rfl (lv_at hl 1 rfl) ?_
    refine lv_aload_n hx hb dX5_isOurs_6 rfl (lv_at hl 0 rfl) ?_
    refine gM5_own hx hb hts iw5 hown hK hP (List.mem_of_getElem? (i := 1) rfl) dX5_isOurs_7 ?_
    refine lv_icmp_eq (tgt := 21) hx hb dX5_isOurs_10 (by decide) (fun h_2 => ?_) (fun h_2 => ?_)
    · have hf := zt h_2 hf
      exact kX5_isOurs_21 hC0 hQ hf hP hD hS (lv_sub hl [] rfl)
    · have hf := zf h_2 hf
      refine lv_iload_n hx hb dX5_isOurs_13 rfl (lv_at hl 1 rfl) ?_
      refine lv_aload_n hx hb dX5_isOurs_14 rfl (lv_at hl 0 rfl) ?_
      refine gM5_trial hx hb hts iw5 hown hK hP (List.mem_of_getElem? (i := 2) rfl) dX5_isOurs_15 ?_
      refine lv_icmp_ne (tgt := 25) hx hb dX5_isOurs_18 (by decide) (fun h_3 => ?_) (fun h_3 => ?_)
      · have hf := zf h_3 hf
        refine lv_iconst (v := (0 : Int32)) hx hb dX5_isOurs_25 (by decide) ?_
        exact zrz hf (Or.inl rfl) hQ hP hD hS dX5_isOurs_26
      · have hf := zt h_3 hf
        exact kX5_isOurs_21 hC0 hQ hf hP hD hS (lv_sub hl [] rfl)
theorem tX5_isOurs {S : zS} {x1 : Int32} {r : Int32 × zS} (hf : fX5_isOurs S x1 = some r) : zMi l yX5_isOurs wsX5_isOurs rmX5_isOurs D (zT cI cZ) A (wM a cI cZ) [.ref (a 0), .int x1] S r :=
  zMz_of (by decide) rfl rfl (Nat.le_of_ble_eq_true rfl) (fun hC0 hQ hP hD hS _ hl => kX5_isOurs hC0 hQ hf hP hD hS hl)
abbrev rmX5_goOut : Room := { frames := 0, cells := 0, slots := 0, locals := 0 }
theorem iwX5_goOut_5 : ∀ w ∈ wsX50, w ∈ wsX5_goOut := fun _ h => List.mem_cons_of_mem _ (List.mem_append_right _ h)
set_option maxHeartbeats 4000000 in
set_option maxRecDepth 100000 in
theorem kX5_goOut_126 {r : zS} (hC0 : zC p m c cX5_goOut 7 s args wsX5_goOut RX5 D cI cZ) (hQ : zRv p l e rmX5_goOut s m args below meth c cX5_goOut D A (wM a cI cZ) Q r) {S : zS} {t1 : Int32} {t2 : Int32} (hf : fX5_goOut_126 S t1 t2 = some r) {H : Heap} {locs : List Loc} (hP : va_P D vwCl (wM a cI cZ S) H) (hD : va_D A (wM a cI cZ S)) (hS : va_S A s.heap H locs) {ls : Array Slot} (hl : lv_has ls 7 []) : W p l e rmX5_goOut s m args below meth c H locs 0 0 Q (F0 m 126 ls [.int t2, .int t1, .ref (a 0)]) := by
  obtain ⟨hC, hK, hN⟩ := id hC0
  obtain ⟨hx, hb, hml, hown, hts⟩ := id hC
  have iw5 := iwX5_goOut_5
  unfold fX5_goOut_126 at hf
  refine lv_iadd hx hb dX5_goOut_126 ?_
  refine pM5_went hf hx hb hts iw5 hown hK hP hD hS (List.mem_of_getElem? (i := 5) rfl) dX5_goOut_127 (fun S_1 H locs hf hP hD hS => ?_)
  exact zrv hf hQ hP hD hS dX5_goOut_130
set_option maxHeartbeats 4000000 in
set_option maxRecDepth 100000 in
theorem kX5_goOut_28b {r : zS} (hC0 : zC p m c cX5_goOut 7 s args wsX5_goOut RX5 D cI cZ) (hQ : zRv p l e rmX5_goOut s m args below meth c cX5_goOut D A (wM a cI cZ) Q r) {F28 : zS → Int32 → Int32 → Int32 → Int32 → Int32 → Int32 → Option (zS)} (hF28 : ∀ (S : zS) (x1 : Int32) (x2 : Int32) (x3 : Int32) (x4 : Int32) (x5 : Int32) (x6 : Int32), F28 S x1 x2 x3 x4 x5 x6 = some r → ∀ {H : Heap} {locs : List Loc}, va_P D vwCl (wM a cI cZ S) H → va_D A (wM a cI cZ S) → va_S A s.heap H locs → ∀ {ls : Array Slot}, lv_has ls 7 [(0, .ref (a 0)), (1, .int x1), (2, .int x2), (3, .int x3), (4, .int x4), (5, .int x5), (6, .int x6)] → W p l e rmX5_goOut s m args below meth c H locs 0 0 Q (F0 m 28 ls [])) {S : zS} {x1 : Int32} {x2 : Int32} {x3 : Int32} {x4 : Int32} {x5 : Int32} {x6 : Int32} (hf : bX5_goOut_28 F28 S x1 x2 x3 x4 x5 x6 = some r) {H : Heap} {locs : List Loc} (hP : va_P D vwCl (wM a cI cZ S) H) (hD : va_D A (wM a cI cZ S)) (hS : va_S A s.heap H locs) {ls : Array Slot} (hl : lv_has ls 7 [(0, .ref (a 0)), (1, .int x1), (2, .int x2), (3, .int x3), (4, .int x4), (5, .int x5), (6, .int x6)]) : W p l e rmX5_goOut s m args below meth c H locs 0 0 Q (F0 m 28 ls []) := by
  obtain ⟨hC, hK, hN⟩ := id hC0
  obtain ⟨hx, hb, hml, hown, hts⟩ := id hC
  have iw5 := iwX5_goOut_5
  unfold bX5_goOut_28 at hf
  refine lv_iload hx hb dX5_goOut_28 (lv_at hl 6 rfl) ?_
  refine lv_if_lt (tgt := 55) hx hb dX5_goOut_30 (by decide) (fun h_1 => ?_) (fun h_1 => ?_)
  · have hf := zt h_1 hf
    refine lv_aload_n hx hb dX5_goOut_55 rfl (lv_at hl 0 rfl) ?_
    refine gM5_outAt hx hb hts iw5 hown hK hP (List.mem_of_getElem? (i := 2) rfl) dX5_goOut_56 ?_
    refine lv_iconst (v := (0 : Int32)) hx hb dX5_goOut_59 (by decide) ?_
    refine lv_iload_n hx hb dX5_goOut_60 rfl (lv_at hl 1 rfl) ?_
    refine sM5_outAt hf hx hb hK hP hD hS dX5_goOut_61 (fun S_1 H locs hf hP hD hS => ?_)
    refine lv_aload_n hx hb dX5_goOut_62 rfl (lv_at hl 0 rfl) ?_
    refine gM5_outAt hx hb hts iw5 hown hK hP (List.mem_of_getElem? (i := 2) rfl) dX5_goOut_63 ?_
    refine lv_iconst (v := (1 : Int32)) hx hb dX5_goOut_66 (by decide) ?_
    refine lv_iload_n hx hb dX5_goOut_67 rfl (lv_at hl 2 rfl) ?_
    refine sM5_outAt hf hx hb hK hP hD hS dX5_goOut_68 (fun S_2 H locs hf hP hD hS => ?_)
    refine lv_aload_n hx hb dX5_goOut_69 rfl (lv_at hl 0 rfl) ?_
    refine gM5_outAt hx hb hts iw5 hown hK hP (List.mem_of_getElem? (i := 2) rfl) dX5_goOut_70 ?_
    refine lv_iconst (v := (2 : Int32)) hx hb dX5_goOut_73 (by decide) ?_
    refine lv_iload_n hx hb dX5_goOut_74 rfl (lv_at hl 3 rfl) ?_
    refine sM5_outAt hf hx hb hK hP hD hS dX5_goOut_75 (fun S_3 H locs hf hP hD hS => ?_)
    refine lv_aload_n hx hb dX5_goOut_76 rfl (lv_at hl 0 rfl) ?_
    refine gM5_outAt hx hb hts iw5 hown hK hP (List.mem_of_getElem? (i := 2) rfl) dX5_goOut_77 ?_
    refine lv_iconst (v := (3 : Int32)) hx hb dX5_goOut_80 (by decide) ?_
    refine lv_iload hx hb dX5_goOut_81 (lv_at hl 4 rfl) ?_
    refine sM5_outAt hf hx hb hK hP hD hS dX5_goOut_83 (fun S_4 H locs hf hP hD hS => ?_)
    refine lv_aload_n hx hb dX5_goOut_84 rfl (lv_at hl 0 rfl) ?_
    refine gM5_outAt hx hb hts iw5 hown hK hP (List.mem_of_getElem? (i := 2) rfl) dX5_goOut_85 ?_
    refine lv_iconst (v := (4 : Int32)) hx hb dX5_goOut_88 (by decide) ?_
    refine lv_aload_n hx hb dX5_goOut_89 rfl (lv_at hl 0 rfl) ?_
    refine gM5_clock hx hb hts iw5 hown hK hP (List.mem_of_getElem? (i := 3) rfl) dX5_goOut_90 ?_
    refine sM5_outAt hf hx hb hK hP hD hS dX5_goOut_93 (fun S_5 H locs hf hP hD hS => ?_)
    refine lv_aload_n hx hb dX5_goOut_94 rfl (lv_at hl 0 rfl) ?_
    refine lv_iload hx hb dX5_goOut_95 (lv_at hl 5 rfl) ?_
    refine lv_iconst (v := (1 : Int32)) hx hb dX5_goOut_97 (by decide) ?_
    refine lv_iadd hx hb dX5_goOut_98 ?_
    refine pM5_outs hf hx hb hts iw5 hown hK hP hD hS (List.mem_of_getElem? (i := 1) rfl) dX5_goOut_99 (fun S_6 H locs hf hP hD hS => ?_)
    refine lv_aload_n hx hb dX5_goOut_102 rfl (lv_at hl 0 rfl) ?_
    refine lv_dup hx hb dX5_goOut_103 rfl ?_
    refine gM5_outEver hx hb hts iw5 hown hK hP (List.mem_of_getElem? (i := 4) rfl) dX5_goOut_104 ?_
    refine lv_iconst (v := (1 : Int32)) hx hb dX5_goOut_107 (by decide) ?_
    refine lv_iadd hx hb dX5_goOut_108 ?_
    refine pM5_outEver hf hx hb hts iw5 hown hK hP hD hS (List.mem_of_getElem? (i := 4) rfl) dX5_goOut_109 (fun S_7 H locs hf hP hD hS => ?_)
    refine lv_aload_n hx hb dX5_goOut_112 rfl (lv_at hl 0 rfl) ?_
    refine lv_dup hx hb dX5_goOut_113 rfl ?_
    refine gM5_went hx hb hts iw5 hown hK hP (List.mem_of_getElem? (i := 5) rfl) dX5_goOut_114 ?_
    refine lv_iload_n hx hb dX5_goOut_117 rfl (lv_at hl 1 rfl) ?_
    refine lv_if_ne (tgt := 125) hx hb dX5_goOut_118 (by decide) (fun h_2 => ?_) (fun h_2 => ?_)
    · have hf := zf h_2 hf
      refine lv_iconst (v := (0 : Int32)) hx hb dX5_goOut_125 (by decide) ?_
      exact kX5_goOut_126 hC0 hQ hf hP hD hS (lv_sub hl [] rfl)
    · have hf := zt h_2 hf
      refine lv_iconst (v := (1 : Int32)) hx hb dX5_goOut_121 (by decide) ?_
      refine lv_goto (tgt := 126) hx hb dX5_goOut_122 (by decide) ?_
      exact kX5_goOut_126 hC0 hQ hf hP hD hS (lv_sub hl [] rfl)
  · have hf := zf h_1 hf
    refine lv_aload_n hx hb dX5_goOut_33 rfl (lv_at hl 0 rfl) ?_
    refine gM5_outAt hx hb hts iw5 hown hK hP (List.mem_of_getElem? (i := 2) rfl) dX5_goOut_34 ?_
    refine lv_iload hx hb dX5_goOut_37 (lv_at hl 6 rfl) ?_
    refine lv_iconst (v := (5 : Int32)) hx hb dX5_goOut_39 (by decide) ?_
    refine lv_iadd hx hb dX5_goOut_40 ?_
    refine lv_aload_n hx hb dX5_goOut_41 rfl (lv_at hl 0 rfl) ?_
    refine gM5_outAt hx hb hts iw5 hown hK hP (List.mem_of_getElem? (i := 2) rfl) dX5_goOut_42 ?_
    refine lv_iload hx hb dX5_goOut_45 (lv_at hl 6 rfl) ?_
    refine lM5_outAt hf hx hb hK hP dX5_goOut_47 (fun hf => ?_)
    refine sM5_outAt hf hx hb hK hP hD hS dX5_goOut_48 (fun S_8 H locs hf hP hD hS => ?_)
    refine z_iinc hf hx hb 6 (fun y => [(6, .int y), (0, .ref (a 0)), (1, .int x1), (2, .int x2), (3, .int x3), (4, .int x4), (5, .int x5)]) dX5_goOut_49 hl rfl (by decide) (by decide) (fun _ => rfl) (fun y_1 ls hf hl => ?_)
    refine lv_goto (tgt := 28) hx hb dX5_goOut_52 (by decide) ?_
    exact hF28 _ _ _ _ _ _ _ hf hP hD hS (lv_sub hl [1, 2, 3, 4, 5, 6, 0] rfl)
theorem kX5_goOut_28 {r : zS} (hC0 : zC p m c cX5_goOut 7 s args wsX5_goOut RX5 D cI cZ) (hQ : zRv p l e rmX5_goOut s m args below meth c cX5_goOut D A (wM a cI cZ) Q r) (n : Nat) : ∀ (S : zS) (x1 : Int32) (x2 : Int32) (x3 : Int32) (x4 : Int32) (x5 : Int32) (x6 : Int32), fX5_goOut_28 n S x1 x2 x3 x4 x5 x6 = some r → ∀ {H : Heap} {locs : List Loc}, va_P D vwCl (wM a cI cZ S) H → va_D A (wM a cI cZ S) → va_S A s.heap H locs → ∀ {ls : Array Slot}, lv_has ls 7 [(0, .ref (a 0)), (1, .int x1), (2, .int x2), (3, .int x3), (4, .int x4), (5, .int x5), (6, .int x6)] → W p l e rmX5_goOut s m args below meth c H locs 0 0 Q (F0 m 28 ls []) := by
  induction n with
  | zero => intro S x1 x2 x3 x4 x5 x6 hf; cases hf
  | succ n ih => intro S x1 x2 x3 x4 x5 x6 hf; exact kX5_goOut_28b hC0 hQ ih hf
set_option maxHeartbeats 4000000 in
set_option maxRecDepth 100000 in
theorem kX5_goOut_18 {r : zS} (hC0 : zC p m c cX5_goOut 7 s args wsX5_goOut RX5 D cI cZ) (hQ : zRv p l e rmX5_goOut s m args below meth c cX5_goOut D A (wM a cI cZ) Q r) {S : zS} {x1 : Int32} {x2 : Int32} {x3 : Int32} {x4 : Int32} {t0 : Int32} (hf : fX5_goOut_18 S x1 x2 x3 x4 t0 = some r) {H : Heap} {locs : List Loc} (hP : va_P D vwCl (wM a cI cZ S) H) (hD : va_D A (wM a cI cZ S)) (hS : va_S A s.heap H locs) {ls : Array Slot} (hl : lv_has ls 7 [(0, .ref (a 0)), (1, .int x1), (2, .int x2), (3, .int x3), (4, .int x4)]) : W p l e rmX5_goOut s m args below meth c H locs 0 0 Q (F0 m 18 ls [.int t0]) := by
  obtain ⟨hC, hK, hN⟩ := id hC0
  obtain ⟨hx, hb, hml, hown, hts⟩ := id hC
  have iw5 := iwX5_goOut_5
  unfold fX5_goOut_18 at hf
  refine z_istore hf hx hb (fun y => [(5, .int y), (0, .ref (a 0)), (1, .int x1), (2, .int x2), (3, .int x3), (4, .int x4)]) dX5_goOut_18 hl (by decide) (fun _ => rfl) (fun y_1 ls hf hl => ?_)
  refine lv_iconst (v := (5 : Int32)) hx hb dX5_goOut_20 (by decide) ?_
  refine lv_iload hx hb dX5_goOut_21 (lv_at hl 0 rfl) ?_
  refine lv_imul hx hb dX5_goOut_23 ?_
  refine lv_iconst (v := (1 : Int32)) hx hb dX5_goOut_24 (by decide) ?_
  refine lv_isub hx hb dX5_goOut_25 ?_
  refine z_istore hf hx hb (fun y => [(6, .int y), (5, .int y_1), (0, .ref (a 0)), (1, .int x1), (2, .int x2), (3, .int x3), (4, .int x4)]) dX5_goOut_26 hl (by decide) (fun _ => rfl) (fun y_2 ls hf hl => ?_)
  exact kX5_goOut_28 hC0 hQ 64 _ _ _ _ _ _ _ hf hP hD hS (lv_sub hl [2, 3, 4, 5, 6, 1, 0] rfl)
set_option maxHeartbeats 4000000 in
set_option maxRecDepth 100000 in
theorem kX5_goOut {r : zS} (hC0 : zC p m c cX5_goOut 7 s args wsX5_goOut RX5 D cI cZ) (hQ : zRv p l e rmX5_goOut s m args below meth c cX5_goOut D A (wM a cI cZ) Q r) {S : zS} {x1 : Int32} {x2 : Int32} {x3 : Int32} {x4 : Int32} (hf : fX5_goOut S x1 x2 x3 x4 = some r) {H : Heap} {locs : List Loc} (hP : va_P D vwCl (wM a cI cZ S) H) (hD : va_D A (wM a cI cZ S)) (hS : va_S A s.heap H locs) {ls : Array Slot} (hl : lv_has ls 7 [(0, .ref (a 0)), (1, .int x1), (2, .int x2), (3, .int x3), (4, .int x4)]) : W p l e rmX5_goOut s m args below meth c H locs 0 0 Q (F0 m 0 ls []) := by
  obtain ⟨hC, hK, hN⟩ := id hC0
  obtain ⟨hx, hb, hml, hown, hts⟩ := id hC
  have iw5 := iwX5_goOut_5
  unfold fX5_goOut at hf
  refine lv_aload_n hx hb dX5_goOut_0 rfl (lv_at hl 0 rfl) ?_
  refine gM5_outs hx hb hts iw5 hown hK hP (List.mem_of_getElem? (i := 1) rfl) dX5_goOut_1 ?_
  refine lv_bipush (v := (10 : Int32)) hx hb dX5_goOut_4 (by decide) ?_
  refine lv_icmp_ge (tgt := 16) hx hb dX5_goOut_6 (by decide) (fun h_1 => ?_) (fun h_1 => ?_)
  · have hf := zt h_1 hf
    refine lv_bipush (v := (9 : Int32)) hx hb dX5_goOut_16 (by decide) ?_
    exact kX5_goOut_18 hC0 hQ hf hP hD hS (lv_sub hl [0, 1, 2, 3, 4] rfl)
  · have hf := zf h_1 hf
    refine lv_aload_n hx hb dX5_goOut_9 rfl (lv_at hl 0 rfl) ?_
    refine gM5_outs hx hb hts iw5 hown hK hP (List.mem_of_getElem? (i := 1) rfl) dX5_goOut_10 ?_
    refine lv_goto (tgt := 18) hx hb dX5_goOut_13 (by decide) ?_
    exact kX5_goOut_18 hC0 hQ hf hP hD hS (lv_sub hl [0, 1, 2, 3, 4] rfl)
theorem tX5_goOut {S : zS} {x1 : Int32} {x2 : Int32} {x3 : Int32} {x4 : Int32} {r : zS} (hf : fX5_goOut S x1 x2 x3 x4 = some r) : zMv l yX5_goOut wsX5_goOut rmX5_goOut D (zT cI cZ) A (wM a cI cZ) [.ref (a 0), .int x1, .int x2, .int x3, .int x4] S r :=
  zMv_of (by decide) rfl rfl (Nat.le_of_ble_eq_true rfl) (fun hC0 hQ hP hD hS _ hl => kX5_goOut hC0 hQ hf hP hD hS hl)
abbrev rmX5_entries : Room := { frames := 0, cells := 0, slots := 0, locals := 0 }
theorem iwX5_entries_5 : ∀ w ∈ wsX50, w ∈ wsX5_entries := fun _ h => List.mem_cons_of_mem _ (List.mem_append_right _ h)
set_option maxHeartbeats 4000000 in
set_option maxRecDepth 100000 in
theorem kX5_entries_40 {r : Int32 × zS} (hC0 : zC p m c cX5_entries 4 s args wsX5_entries RX5 D cI cZ) (hQ : zRi p l e rmX5_entries s m args below meth c cX5_entries D A (wM a cI cZ) Q r) {F4 : zS → Int32 → Int32 → Int32 → Option (Int32 × zS)} (hF4 : ∀ (S : zS) (x1 : Int32) (x2 : Int32) (x3 : Int32), F4 S x1 x2 x3 = some r → ∀ {H : Heap} {locs : List Loc}, va_P D vwCl (wM a cI cZ S) H → va_D A (wM a cI cZ S) → va_S A s.heap H locs → ∀ {ls : Array Slot}, lv_has ls 4 [(0, .ref (a 0)), (1, .int x1), (2, .int x2), (3, .int x3)] → W p l e rmX5_entries s m args below meth c H locs 0 0 Q (F0 m 4 ls [])) {S : zS} {x1 : Int32} {x3 : Int32} {t0 : Int32} {t1 : Int32} (hf : fX5_entries_40 F4 S x1 x3 t0 t1 = some r) {H : Heap} {locs : List Loc} (hP : va_P D vwCl (wM a cI cZ S) H) (hD : va_D A (wM a cI cZ S)) (hS : va_S A s.heap H locs) {ls : Array Slot} (hl : lv_has ls 4 [(0, .ref (a 0)), (1, .int x1), (3, .int x3)]) : W p l e rmX5_entries s m args below meth c H locs 0 0 Q (F0 m 40 ls [.int t1, .int t0]) := by
  obtain ⟨hC, hK, hN⟩ := id hC0
  obtain ⟨hx, hb, hml, hown, hts⟩ := id hC
  have iw5 := iwX5_entries_5
  unfold fX5_entries_40 at hf
  refine lv_iadd hx hb dX5_entries_40 ?_
  refine z_istore_n hf hx hb (fun y => [(2, .int y), (0, .ref (a 0)), (1, .int x1), (3, .int x3)]) dX5_entries_41 rfl hl (by decide) (fun _ => rfl) (fun y_1 ls hf hl => ?_)
  refine z_iinc hf hx hb 3 (fun y => [(3, .int y), (2, .int y_1), (0, .ref (a 0)), (1, .int x1)]) dX5_entries_42 hl rfl (by decide) (by decide) (fun _ => rfl) (fun y_2 ls hf hl => ?_)
  refine lv_goto (tgt := 4) hx hb dX5_entries_45 (by decide) ?_
  exact hF4 _ _ _ _ hf hP hD hS (lv_sub hl [2, 3, 1, 0] rfl)
set_option maxHeartbeats 4000000 in
set_option maxRecDepth 100000 in
theorem kX5_entries_39 {r : Int32 × zS} (hC0 : zC p m c cX5_entries 4 s args wsX5_entries RX5 D cI cZ) (hQ : zRi p l e rmX5_entries s m args below meth c cX5_entries D A (wM a cI cZ) Q r) {F4 : zS → Int32 → Int32 → Int32 → Option (Int32 × zS)} (hF4 : ∀ (S : zS) (x1 : Int32) (x2 : Int32) (x3 : Int32), F4 S x1 x2 x3 = some r → ∀ {H : Heap} {locs : List Loc}, va_P D vwCl (wM a cI cZ S) H → va_D A (wM a cI cZ S) → va_S A s.heap H locs → ∀ {ls : Array Slot}, lv_has ls 4 [(0, .ref (a 0)), (1, .int x1), (2, .int x2), (3, .int x3)] → W p l e rmX5_entries s m args below meth c H locs 0 0 Q (F0 m 4 ls [])) {S : zS} {x1 : Int32} {x3 : Int32} {t0 : Int32} (hf : fX5_entries_39 F4 S x1 x3 t0 = some r) {H : Heap} {locs : List Loc} (hP : va_P D vwCl (wM a cI cZ S) H) (hD : va_D A (wM a cI cZ S)) (hS : va_S A s.heap H locs) {ls : Array Slot} (hl : lv_has ls 4 [(0, .ref (a 0)), (1, .int x1), (3, .int x3)]) : W p l e rmX5_entries s m args below meth c H locs 0 0 Q (F0 m 39 ls [.int t0]) := by
  obtain ⟨hC, hK, hN⟩ := id hC0
  obtain ⟨hx, hb, hml, hown, hts⟩ := id hC
  have iw5 := iwX5_entries_5
  unfold fX5_entries_39 at hf
  refine lv_iconst (v := (0 : Int32)) hx hb dX5_entries_39 (by decide) ?_
  exact kX5_entries_40 hC0 hQ hF4 hf hP hD hS (lv_sub hl [0, 1, 2] rfl)
set_option maxHeartbeats 4000000 in
set_option maxRecDepth 100000 in
theorem kX5_entries_35 {r : Int32 × zS} (hC0 : zC p m c cX5_entries 4 s args wsX5_entries RX5 D cI cZ) (hQ : zRi p l e rmX5_entries s m args below meth c cX5_entries D A (wM a cI cZ) Q r) {F4 : zS → Int32 → Int32 → Int32 → Option (Int32 × zS)} (hF4 : ∀ (S : zS) (x1 : Int32) (x2 : Int32) (x3 : Int32), F4 S x1 x2 x3 = some r → ∀ {H : Heap} {locs : List Loc}, va_P D vwCl (wM a cI cZ S) H → va_D A (wM a cI cZ S) → va_S A s.heap H locs → ∀ {ls : Array Slot}, lv_has ls 4 [(0, .ref (a 0)), (1, .int x1), (2, .int x2), (3, .int x3)] → W p l e rmX5_entries s m args below meth c H locs 0 0 Q (F0 m 4 ls [])) {S : zS} {x1 : Int32} {x3 : Int32} {t0 : Int32} (hf : fX5_entries_35 F4 S x1 x3 t0 = some r) {H : Heap} {locs : List Loc} (hP : va_P D vwCl (wM a cI cZ S) H) (hD : va_D A (wM a cI cZ S)) (hS : va_S A s.heap H locs) {ls : Array Slot} (hl : lv_has ls 4 [(0, .ref (a 0)), (1, .int x1), (3, .int x3)]) : W p l e rmX5_entries s m args below meth c H locs 0 0 Q (F0 m 35 ls [.int t0]) := by
  obtain ⟨hC, hK, hN⟩ := id hC0
  obtain ⟨hx, hb, hml, hown, hts⟩ := id hC
  have iw5 := iwX5_entries_5
  unfold fX5_entries_35 at hf
  refine lv_iconst (v := (1 : Int32)) hx hb dX5_entries_35 (by decide) ?_
  refine lv_goto (tgt := 40) hx hb dX5_entries_36 (by decide) ?_
  exact kX5_entries_40 hC0 hQ hF4 hf hP hD hS (lv_sub hl [0, 1, 2] rfl)
set_option maxHeartbeats 4000000 in
set_option maxRecDepth 100000 in
theorem kX5_entries_4b {r : Int32 × zS} (hC0 : zC p m c cX5_entries 4 s args wsX5_entries RX5 D cI cZ) (hQ : zRi p l e rmX5_entries s m args below meth c cX5_entries D A (wM a cI cZ) Q r) {F4 : zS → Int32 → Int32 → Int32 → Option (Int32 × zS)} (hF4 : ∀ (S : zS) (x1 : Int32) (x2 : Int32) (x3 : Int32), F4 S x1 x2 x3 = some r → ∀ {H : Heap} {locs : List Loc}, va_P D vwCl (wM a cI cZ S) H → va_D A (wM a cI cZ S) → va_S A s.heap H locs → ∀ {ls : Array Slot}, lv_has ls 4 [(0, .ref (a 0)), (1, .int x1), (2, .int x2), (3, .int x3)] → W p l e rmX5_entries s m args below meth c H locs 0 0 Q (F0 m 4 ls [])) {S : zS} {x1 : Int32} {x2 : Int32} {x3 : Int32} (hf : bX5_entries_4 F4 S x1 x2 x3 = some r) {H : Heap} {locs : List Loc} (hP : va_P D vwCl (wM a cI cZ S) H) (hD : va_D A (wM a cI cZ S)) (hS : va_S A s.heap H locs) {ls : Array Slot} (hl : lv_has ls 4 [(0, .ref (a 0)), (1, .int x1), (2, .int x2), (3, .int x3)]) : W p l e rmX5_entries s m args below meth c H locs 0 0 Q (F0 m 4 ls []) := by
  obtain ⟨hC, hK, hN⟩ := id hC0
  obtain ⟨hx, hb, hml, hown, hts⟩ := id hC
  have iw5 := iwX5_entries_5
  unfold bX5_entries_4 at hf
  refine lv_iload_n hx hb dX5_entries_4 rfl (lv_at hl 3 rfl) ?_
  refine lv_bipush (v := (16 : Int32)) hx hb dX5_entries_5 (by decide) ?_
  refine lv_icmp_ge (tgt := 48) hx hb dX5_entries_7 (by decide) (fun h_1 => ?_) (fun h_1 => ?_)
  · have hf := zt h_1 hf
    refine lv_iload_n hx hb dX5_entries_48 rfl (lv_at hl 2 rfl) ?_
    exact zri hf hQ hP hD hS dX5_entries_49
  · have hf := zf h_1 hf
    refine lv_iload_n hx hb dX5_entries_10 rfl (lv_at hl 2 rfl) ?_
    refine lv_aload_n hx hb dX5_entries_11 rfl (lv_at hl 0 rfl) ?_
    refine gM5_isThere hx hb hts iw5 hown hK hP (List.mem_of_getElem? (i := 1) rfl) dX5_entries_12 ?_
    refine lv_iload_n hx hb dX5_entries_15 rfl (lv_at hl 3 rfl) ?_
    refine lM5_isThere hf hx hb hK hP dX5_entries_16 (fun hf => ?_)
    refine lv_if_eq (tgt := 39) hx hb dX5_entries_17 (by decide) (fun h_2 => ?_) (fun h_2 => ?_)
    · have hf := zt h_2 hf
      exact kX5_entries_39 hC0 hQ hF4 hf hP hD hS (lv_sub hl [0, 1, 3] rfl)
    · have hf := zf h_2 hf
      refine lv_iload_n hx hb dX5_entries_20 rfl (lv_at hl 1 rfl) ?_
      refine lv_iconst (v := (-1 : Int32)) hx hb dX5_entries_21 (by decide) ?_
      refine lv_icmp_eq (tgt := 35) hx hb dX5_entries_22 (by decide) (fun h_3 => ?_) (fun h_3 => ?_)
      · have hf := zt h_3 hf
        exact kX5_entries_35 hC0 hQ hF4 hf hP hD hS (lv_sub hl [0, 1, 3] rfl)
      · have hf := zf h_3 hf
        refine lv_aload_n hx hb dX5_entries_25 rfl (lv_at hl 0 rfl) ?_
        refine gM5_state hx hb hts iw5 hown hK hP (List.mem_of_getElem? (i := 2) rfl) dX5_entries_26 ?_
        refine lv_iload_n hx hb dX5_entries_29 rfl (lv_at hl 3 rfl) ?_
        refine lM5_state hf hx hb hK hP dX5_entries_30 (fun hf => ?_)
        refine lv_iload_n hx hb dX5_entries_31 rfl (lv_at hl 1 rfl) ?_
        refine lv_icmp_ne (tgt := 39) hx hb dX5_entries_32 (by decide) (fun h_4 => ?_) (fun h_4 => ?_)
        · have hf := zf h_4 hf
          exact kX5_entries_39 hC0 hQ hF4 hf hP hD hS (lv_sub hl [0, 1, 3] rfl)
        · have hf := zt h_4 hf
          exact kX5_entries_35 hC0 hQ hF4 hf hP hD hS (lv_sub hl [0, 1, 3] rfl)
theorem kX5_entries_4 {r : Int32 × zS} (hC0 : zC p m c cX5_entries 4 s args wsX5_entries RX5 D cI cZ) (hQ : zRi p l e rmX5_entries s m args below meth c cX5_entries D A (wM a cI cZ) Q r) (n : Nat) : ∀ (S : zS) (x1 : Int32) (x2 : Int32) (x3 : Int32), fX5_entries_4 n S x1 x2 x3 = some r → ∀ {H : Heap} {locs : List Loc}, va_P D vwCl (wM a cI cZ S) H → va_D A (wM a cI cZ S) → va_S A s.heap H locs → ∀ {ls : Array Slot}, lv_has ls 4 [(0, .ref (a 0)), (1, .int x1), (2, .int x2), (3, .int x3)] → W p l e rmX5_entries s m args below meth c H locs 0 0 Q (F0 m 4 ls []) := by
  induction n with
  | zero => intro S x1 x2 x3 hf; cases hf
  | succ n ih => intro S x1 x2 x3 hf; exact kX5_entries_4b hC0 hQ ih hf
set_option maxHeartbeats 4000000 in
set_option maxRecDepth 100000 in
theorem kX5_entries {r : Int32 × zS} (hC0 : zC p m c cX5_entries 4 s args wsX5_entries RX5 D cI cZ) (hQ : zRi p l e rmX5_entries s m args below meth c cX5_entries D A (wM a cI cZ) Q r) {S : zS} {x1 : Int32} (hf : fX5_entries S x1 = some r) {H : Heap} {locs : List Loc} (hP : va_P D vwCl (wM a cI cZ S) H) (hD : va_D A (wM a cI cZ S)) (hS : va_S A s.heap H locs) {ls : Array Slot} (hl : lv_has ls 4 [(0, .ref (a 0)), (1, .int x1)]) : W p l e rmX5_entries s m args below meth c H locs 0 0 Q (F0 m 0 ls []) := by
  obtain ⟨hC, hK, hN⟩ := id hC0
  obtain ⟨hx, hb, hml, hown, hts⟩ := id hC
  have iw5 := iwX5_entries_5
  unfold fX5_entries at hf
  refine lv_iconst (v := (0 : Int32)) hx hb dX5_entries_0 (by decide) ?_
  refine z_istore_n hf hx hb (fun y => [(2, .int y), (0, .ref (a 0)), (1, .int x1)]) dX5_entries_1 rfl hl (by decide) (fun _ => rfl) (fun y_1 ls hf hl => ?_)
  refine lv_iconst (v := (0 : Int32)) hx hb dX5_entries_2 (by decide) ?_
  refine z_istore_n hf hx hb (fun y => [(3, .int y), (2, .int y_1), (0, .ref (a 0)), (1, .int x1)]) dX5_entries_3 rfl hl (by decide) (fun _ => rfl) (fun y_2 ls hf hl => ?_)
  exact kX5_entries_4 hC0 hQ 64 _ _ _ _ hf hP hD hS (lv_sub hl [2, 3, 1, 0] rfl)
theorem tX5_entries {S : zS} {x1 : Int32} {r : Int32 × zS} (hf : fX5_entries S x1 = some r) : zMi l yX5_entries wsX5_entries rmX5_entries D (zT cI cZ) A (wM a cI cZ) [.ref (a 0), .int x1] S r :=
  zMi_of (by decide) rfl rfl (Nat.le_of_ble_eq_true rfl) (fun hC0 hQ hP hD hS _ hl => kX5_entries hC0 hQ hf hP hD hS hl)
abbrev rmX5_become : Room := { frames := 0, cells := 0, slots := 0, locals := 0 }
theorem iwX5_become_5 : ∀ w ∈ wsX50, w ∈ wsX5_become := fun _ h => List.mem_cons_of_mem _ (List.mem_append_right _ h)
set_option maxHeartbeats 4000000 in
set_option maxRecDepth 100000 in
theorem kX5_become_46 {r : zS} (hC0 : zC p m c cX5_become 4 s args wsX5_become RX5 D cI cZ) (hQ : zRv p l e rmX5_become s m args below meth c cX5_become D A (wM a cI cZ) Q r) {S : zS} {t1 : Int32} {t2 : Int32} (hf : fX5_become_46 S t1 t2 = some r) {H : Heap} {locs : List Loc} (hP : va_P D vwCl (wM a cI cZ S) H) (hD : va_D A (wM a cI cZ S)) (hS : va_S A s.heap H locs) {ls : Array Slot} (hl : lv_has ls 4 []) : W p l e rmX5_become s m args below meth c H locs 0 0 Q (F0 m 46 ls [.int t2, .int t1, .ref (a 5)]) := by
  obtain ⟨hC, hK, hN⟩ := id hC0
  obtain ⟨hx, hb, hml, hown, hts⟩ := id hC
  have iw5 := iwX5_become_5
  unfold fX5_become_46 at hf
  refine sM5_tries hf hx hb hK hP hD hS dX5_become_46 (fun S_1 H locs hf hP hD hS => ?_)
  exact zrv hf hQ hP hD hS dX5_become_47
set_option maxHeartbeats 4000000 in
set_option maxRecDepth 100000 in
theorem kX5_become_41 {r : zS} (hC0 : zC p m c cX5_become 4 s args wsX5_become RX5 D cI cZ) (hQ : zRv p l e rmX5_become s m args below meth c cX5_become D A (wM a cI cZ) Q r) {S : zS} {t1 : Int32} (hf : fX5_become_41 S t1 = some r) {H : Heap} {locs : List Loc} (hP : va_P D vwCl (wM a cI cZ S) H) (hD : va_D A (wM a cI cZ S)) (hS : va_S A s.heap H locs) {ls : Array Slot} (hl : lv_has ls 4 []) : W p l e rmX5_become s m args below meth c H locs 0 0 Q (F0 m 41 ls [.int t1, .ref (a 5)]) := by
  obtain ⟨hC, hK, hN⟩ := id hC0
  obtain ⟨hx, hb, hml, hown, hts⟩ := id hC
  have iw5 := iwX5_become_5
  unfold fX5_become_41 at hf
  refine lv_iconst (v := (1 : Int32)) hx hb dX5_become_41 (by decide) ?_
  refine lv_goto (tgt := 46) hx hb dX5_become_42 (by decide) ?_
  exact kX5_become_46 hC0 hQ hf hP hD hS (lv_sub hl [] rfl)
set_option maxHeartbeats 4000000 in
set_option maxRecDepth 100000 in
theorem kX5_become_26 {r : zS} (hC0 : zC p m c cX5_become 4 s args wsX5_become RX5 D cI cZ) (hQ : zRv p l e rmX5_become s m args below meth c cX5_become D A (wM a cI cZ) Q r) {S : zS} {x1 : Int32} {x2 : Int32} {t1 : Int32} {t2 : Int32} (hf : fX5_become_26 S x1 x2 t1 t2 = some r) {H : Heap} {locs : List Loc} (hP : va_P D vwCl (wM a cI cZ S) H) (hD : va_D A (wM a cI cZ S)) (hS : va_S A s.heap H locs) {ls : Array Slot} (hl : lv_has ls 4 [(0, .ref (a 0)), (1, .int x1), (2, .int x2)]) : W p l e rmX5_become s m args below meth c H locs 0 0 Q (F0 m 26 ls [.int t2, .int t1, .ref (a 4)]) := by
  obtain ⟨hC, hK, hN⟩ := id hC0
  obtain ⟨hx, hb, hml, hown, hts⟩ := id hC
  have iw5 := iwX5_become_5
  unfold fX5_become_26 at hf
  refine sM5_end hf hx hb hK hP hD hS dX5_become_26 (fun S_1 H locs hf hP hD hS => ?_)
  refine lv_aload_n hx hb dX5_become_27 rfl (lv_at hl 0 rfl) ?_
  refine gM5_tries hx hb hts iw5 hown hK hP (List.mem_of_getElem? (i := 4) rfl) dX5_become_28 ?_
  refine lv_iload_n hx hb dX5_become_31 rfl (lv_at hl 1 rfl) ?_
  refine lv_iload_n hx hb dX5_become_32 rfl (lv_at hl 2 rfl) ?_
  refine lv_if_eq (tgt := 41) hx hb dX5_become_33 (by decide) (fun h_1 => ?_) (fun h_1 => ?_)
  · have hf := zt h_1 hf
    exact kX5_become_41 hC0 hQ hf hP hD hS (lv_sub hl [] rfl)
  · have hf := zf h_1 hf
    refine lv_iload_n hx hb dX5_become_36 rfl (lv_at hl 2 rfl) ?_
    refine lv_iconst (v := (4 : Int32)) hx hb dX5_become_37 (by decide) ?_
    refine lv_icmp_ne (tgt := 45) hx hb dX5_become_38 (by decide) (fun h_2 => ?_) (fun h_2 => ?_)
    · have hf := zf h_2 hf
      refine lv_iconst (v := (0 : Int32)) hx hb dX5_become_45 (by decide) ?_
      exact kX5_become_46 hC0 hQ hf hP hD hS (lv_sub hl [] rfl)
    · have hf := zt h_2 hf
      exact kX5_become_41 hC0 hQ hf hP hD hS (lv_sub hl [] rfl)
set_option maxHeartbeats 4000000 in
set_option maxRecDepth 100000 in
theorem kX5_become {r : zS} (hC0 : zC p m c cX5_become 4 s args wsX5_become RX5 D cI cZ) (hQ : zRv p l e rmX5_become s m args below meth c cX5_become D A (wM a cI cZ) Q r) {S : zS} {x1 : Int32} {x2 : Int32} {x3 : Int32} (hf : fX5_become S x1 x2 x3 = some r) {H : Heap} {locs : List Loc} (hP : va_P D vwCl (wM a cI cZ S) H) (hD : va_D A (wM a cI cZ S)) (hS : va_S A s.heap H locs) {ls : Array Slot} (hl : lv_has ls 4 [(0, .ref (a 0)), (1, .int x1), (2, .int x2), (3, .int x3)]) : W p l e rmX5_become s m args below meth c H locs 0 0 Q (F0 m 0 ls []) := by
  obtain ⟨hC, hK, hN⟩ := id hC0
  obtain ⟨hx, hb, hml, hown, hts⟩ := id hC
  have iw5 := iwX5_become_5
  unfold fX5_become at hf
  refine lv_aload_n hx hb dX5_become_0 rfl (lv_at hl 0 rfl) ?_
  refine gM5_state hx hb hts iw5 hown hK hP (List.mem_of_getElem? (i := 1) rfl) dX5_become_1 ?_
  refine lv_iload_n hx hb dX5_become_4 rfl (lv_at hl 1 rfl) ?_
  refine lv_iload_n hx hb dX5_become_5 rfl (lv_at hl 2 rfl) ?_
  refine sM5_state hf hx hb hK hP hD hS dX5_become_6 (fun S_1 H locs hf hP hD hS => ?_)
  refine lv_aload_n hx hb dX5_become_7 rfl (lv_at hl 0 rfl) ?_
  refine gM5_end hx hb hts iw5 hown hK hP (List.mem_of_getElem? (i := 2) rfl) dX5_become_8 ?_
  refine lv_iload_n hx hb dX5_become_11 rfl (lv_at hl 1 rfl) ?_
  refine lv_iload_n hx hb dX5_become_12 rfl (lv_at hl 3 rfl) ?_
  refine lv_if_ne (tgt := 20) hx hb dX5_become_13 (by decide) (fun h_1 => ?_) (fun h_1 => ?_)
  · have hf := zf h_1 hf
    refine lv_aload_n hx hb dX5_become_20 rfl (lv_at hl 0 rfl) ?_
    refine gM5_clock hx hb hts iw5 hown hK hP (List.mem_of_getElem? (i := 3) rfl) dX5_become_21 ?_
    refine lv_iload_n hx hb dX5_become_24 rfl (lv_at hl 3 rfl) ?_
    refine lv_iadd hx hb dX5_become_25 ?_
    exact kX5_become_26 hC0 hQ hf hP hD hS (lv_sub hl [0, 1, 2] rfl)
  · have hf := zt h_1 hf
    refine lv_iconst (v := (-1 : Int32)) hx hb dX5_become_16 (by decide) ?_
    refine lv_goto (tgt := 26) hx hb dX5_become_17 (by decide) ?_
    exact kX5_become_26 hC0 hQ hf hP hD hS (lv_sub hl [0, 1, 2] rfl)
theorem tX5_become {S : zS} {x1 : Int32} {x2 : Int32} {x3 : Int32} {r : zS} (hf : fX5_become S x1 x2 x3 = some r) : zMv l yX5_become wsX5_become rmX5_become D (zT cI cZ) A (wM a cI cZ) [.ref (a 0), .int x1, .int x2, .int x3] S r :=
  zMv_of (by decide) rfl rfl (Nat.le_of_ble_eq_true rfl) (fun hC0 hQ hP hD hS _ hl => kX5_become hC0 hQ hf hP hD hS hl)
abbrev rmX5_dropHops : Room := { frames := 0, cells := 0, slots := 0, locals := 0 }
theorem iwX5_dropHops_5 : ∀ w ∈ wsX50, w ∈ wsX5_dropHops := fun _ h => List.mem_cons_of_mem _ (List.mem_append_right _ h)
set_option maxHeartbeats 4000000 in
set_option maxRecDepth 100000 in
theorem kX5_dropHops_49 {r : zS} (hC0 : zC p m c cX5_dropHops 4 s args wsX5_dropHops RX5 D cI cZ) (hQ : zRv p l e rmX5_dropHops s m args below meth c cX5_dropHops D A (wM a cI cZ) Q r) {F4 : zS → Int32 → Int32 → Int32 → Option (zS)} (hF4 : ∀ (S : zS) (x1 : Int32) (x2 : Int32) (x3 : Int32), F4 S x1 x2 x3 = some r → ∀ {H : Heap} {locs : List Loc}, va_P D vwCl (wM a cI cZ S) H → va_D A (wM a cI cZ S) → va_S A s.heap H locs → ∀ {ls : Array Slot}, lv_has ls 4 [(0, .ref (a 0)), (1, .int x1), (2, .int x2), (3, .int x3)] → W p l e rmX5_dropHops s m args below meth c H locs 0 0 Q (F0 m 4 ls [])) {S : zS} {x1 : Int32} {x2 : Int32} {x3 : Int32} (hf : fX5_dropHops_49 F4 S x1 x2 x3 = some r) {H : Heap} {locs : List Loc} (hP : va_P D vwCl (wM a cI cZ S) H) (hD : va_D A (wM a cI cZ S)) (hS : va_S A s.heap H locs) {ls : Array Slot} (hl : lv_has ls 4 [(0, .ref (a 0)), (1, .int x1), (2, .int x2), (3, .int x3)]) : W p l e rmX5_dropHops s m args below meth c H locs 0 0 Q (F0 m 49 ls []) := by
  obtain ⟨hC, hK, hN⟩ := id hC0
  obtain ⟨hx, hb, hml, hown, hts⟩ := id hC
  have iw5 := iwX5_dropHops_5
  unfold fX5_dropHops_49 at hf
  refine z_iinc hf hx hb 3 (fun y => [(3, .int y), (0, .ref (a 0)), (1, .int x1), (2, .int x2)]) dX5_dropHops_49 hl rfl (by decide) (by decide) (fun _ => rfl) (fun y_1 ls hf hl => ?_)
  refine lv_goto (tgt := 4) hx hb dX5_dropHops_52 (by decide) ?_
  exact hF4 _ _ _ _ hf hP hD hS (lv_sub hl [1, 2, 3, 0] rfl)
set_option maxHeartbeats 4000000 in
set_option maxRecDepth 100000 in
theorem kX5_dropHops_4b {r : zS} (hC0 : zC p m c cX5_dropHops 4 s args wsX5_dropHops RX5 D cI cZ) (hQ : zRv p l e rmX5_dropHops s m args below meth c cX5_dropHops D A (wM a cI cZ) Q r) {F4 : zS → Int32 → Int32 → Int32 → Option (zS)} (hF4 : ∀ (S : zS) (x1 : Int32) (x2 : Int32) (x3 : Int32), F4 S x1 x2 x3 = some r → ∀ {H : Heap} {locs : List Loc}, va_P D vwCl (wM a cI cZ S) H → va_D A (wM a cI cZ S) → va_S A s.heap H locs → ∀ {ls : Array Slot}, lv_has ls 4 [(0, .ref (a 0)), (1, .int x1), (2, .int x2), (3, .int x3)] → W p l e rmX5_dropHops s m args below meth c H locs 0 0 Q (F0 m 4 ls [])) {S : zS} {x1 : Int32} {x2 : Int32} {x3 : Int32} (hf : bX5_dropHops_4 F4 S x1 x2 x3 = some r) {H : Heap} {locs : List Loc} (hP : va_P D vwCl (wM a cI cZ S) H) (hD : va_D A (wM a cI cZ S)) (hS : va_S A s.heap H locs) {ls : Array Slot} (hl : lv_has ls 4 [(0, .ref (a 0)), (1, .int x1), (2, .int x2), (3, .int x3)]) : W p l e rmX5_dropHops s m args below meth c H locs 0 0 Q (F0 m 4 ls []) := by
  obtain ⟨hC, hK, hN⟩ := id hC0
  obtain ⟨hx, hb, hml, hown, hts⟩ := id hC
  have iw5 := iwX5_dropHops_5
  unfold bX5_dropHops_4 at hf
  refine lv_iload_n hx hb dX5_dropHops_4 rfl (lv_at hl 3 rfl) ?_
  refine lv_aload_n hx hb dX5_dropHops_5 rfl (lv_at hl 0 rfl) ?_
  refine gM5_hops hx hb hts iw5 hown hK hP (List.mem_of_getElem? (i := 1) rfl) dX5_dropHops_6 ?_
  refine lv_icmp_ge (tgt := 55) hx hb dX5_dropHops_9 (by decide) (fun h_1 => ?_) (fun h_1 => ?_)
  · have hf := zt h_1 hf
    refine lv_aload_n hx hb dX5_dropHops_55 rfl (lv_at hl 0 rfl) ?_
    refine lv_iload_n hx hb dX5_dropHops_56 rfl (lv_at hl 2 rfl) ?_
    refine pM5_hops hf hx hb hts iw5 hown hK hP hD hS (List.mem_of_getElem? (i := 1) rfl) dX5_dropHops_57 (fun S_1 H locs hf hP hD hS => ?_)
    exact zrv hf hQ hP hD hS dX5_dropHops_60
  · have hf := zf h_1 hf
    refine lv_aload_n hx hb dX5_dropHops_12 rfl (lv_at hl 0 rfl) ?_
    refine gM5_hopOf hx hb hts iw5 hown hK hP (List.mem_of_getElem? (i := 2) rfl) dX5_dropHops_13 ?_
    refine lv_iload_n hx hb dX5_dropHops_16 rfl (lv_at hl 3 rfl) ?_
    refine lM5_hopOf hf hx hb hK hP dX5_dropHops_17 (fun hf => ?_)
    refine lv_iload_n hx hb dX5_dropHops_18 rfl (lv_at hl 1 rfl) ?_
    refine lv_icmp_eq (tgt := 49) hx hb dX5_dropHops_19 (by decide) (fun h_2 => ?_) (fun h_2 => ?_)
    · have hf := zt h_2 hf
      exact kX5_dropHops_49 hC0 hQ hF4 hf hP hD hS (lv_sub hl [0, 1, 2, 3] rfl)
    · have hf := zf h_2 hf
      refine lv_aload_n hx hb dX5_dropHops_22 rfl (lv_at hl 0 rfl) ?_
      refine gM5_goalOf hx hb hts iw5 hown hK hP (List.mem_of_getElem? (i := 3) rfl) dX5_dropHops_23 ?_
      refine lv_iload_n hx hb dX5_dropHops_26 rfl (lv_at hl 2 rfl) ?_
      refine lv_aload_n hx hb dX5_dropHops_27 rfl (lv_at hl 0 rfl) ?_
      refine gM5_goalOf hx hb hts iw5 hown hK hP (List.mem_of_getElem? (i := 3) rfl) dX5_dropHops_28 ?_
      refine lv_iload_n hx hb dX5_dropHops_31 rfl (lv_at hl 3 rfl) ?_
      refine lM5_goalOf hf hx hb hK hP dX5_dropHops_32 (fun hf => ?_)
      refine sM5_goalOf hf hx hb hK hP hD hS dX5_dropHops_33 (fun S_2 H locs hf hP hD hS => ?_)
      refine lv_aload_n hx hb dX5_dropHops_34 rfl (lv_at hl 0 rfl) ?_
      refine gM5_hopOf hx hb hts iw5 hown hK hP (List.mem_of_getElem? (i := 2) rfl) dX5_dropHops_35 ?_
      refine lv_iload_n hx hb dX5_dropHops_38 rfl (lv_at hl 2 rfl) ?_
      refine lv_aload_n hx hb dX5_dropHops_39 rfl (lv_at hl 0 rfl) ?_
      refine gM5_hopOf hx hb hts iw5 hown hK hP (List.mem_of_getElem? (i := 2) rfl) dX5_dropHops_40 ?_
      refine lv_iload_n hx hb dX5_dropHops_43 rfl (lv_at hl 3 rfl) ?_
      refine lM5_hopOf hf hx hb hK hP dX5_dropHops_44 (fun hf => ?_)
      refine sM5_hopOf hf hx hb hK hP hD hS dX5_dropHops_45 (fun S_3 H locs hf hP hD hS => ?_)
      refine z_iinc hf hx hb 2 (fun y => [(2, .int y), (0, .ref (a 0)), (1, .int x1), (3, .int x3)]) dX5_dropHops_46 hl rfl (by decide) (by decide) (fun _ => rfl) (fun y_1 ls hf hl => ?_)
      exact kX5_dropHops_49 hC0 hQ hF4 hf hP hD hS (lv_sub hl [1, 2, 0, 3] rfl)
theorem kX5_dropHops_4 {r : zS} (hC0 : zC p m c cX5_dropHops 4 s args wsX5_dropHops RX5 D cI cZ) (hQ : zRv p l e rmX5_dropHops s m args below meth c cX5_dropHops D A (wM a cI cZ) Q r) (n : Nat) : ∀ (S : zS) (x1 : Int32) (x2 : Int32) (x3 : Int32), fX5_dropHops_4 n S x1 x2 x3 = some r → ∀ {H : Heap} {locs : List Loc}, va_P D vwCl (wM a cI cZ S) H → va_D A (wM a cI cZ S) → va_S A s.heap H locs → ∀ {ls : Array Slot}, lv_has ls 4 [(0, .ref (a 0)), (1, .int x1), (2, .int x2), (3, .int x3)] → W p l e rmX5_dropHops s m args below meth c H locs 0 0 Q (F0 m 4 ls []) := by
  induction n with
  | zero => intro S x1 x2 x3 hf; cases hf
  | succ n ih => intro S x1 x2 x3 hf; exact kX5_dropHops_4b hC0 hQ ih hf
set_option maxHeartbeats 4000000 in
set_option maxRecDepth 100000 in
theorem kX5_dropHops {r : zS} (hC0 : zC p m c cX5_dropHops 4 s args wsX5_dropHops RX5 D cI cZ) (hQ : zRv p l e rmX5_dropHops s m args below meth c cX5_dropHops D A (wM a cI cZ) Q r) {S : zS} {x1 : Int32} (hf : fX5_dropHops S x1 = some r) {H : Heap} {locs : List Loc} (hP : va_P D vwCl (wM a cI cZ S) H) (hD : va_D A (wM a cI cZ S)) (hS : va_S A s.heap H locs) {ls : Array Slot} (hl : lv_has ls 4 [(0, .ref (a 0)), (1, .int x1)]) : W p l e rmX5_dropHops s m args below meth c H locs 0 0 Q (F0 m 0 ls []) := by
  obtain ⟨hC, hK, hN⟩ := id hC0
  obtain ⟨hx, hb, hml, hown, hts⟩ := id hC
  have iw5 := iwX5_dropHops_5
  unfold fX5_dropHops at hf
  refine lv_iconst (v := (0 : Int32)) hx hb dX5_dropHops_0 (by decide) ?_
  refine z_istore_n hf hx hb (fun y => [(2, .int y), (0, .ref (a 0)), (1, .int x1)]) dX5_dropHops_1 rfl hl (by decide) (fun _ => rfl) (fun y_1 ls hf hl => ?_)
  refine lv_iconst (v := (0 : Int32)) hx hb dX5_dropHops_2 (by decide) ?_
  refine z_istore_n hf hx hb (fun y => [(3, .int y), (2, .int y_1), (0, .ref (a 0)), (1, .int x1)]) dX5_dropHops_3 rfl hl (by decide) (fun _ => rfl) (fun y_2 ls hf hl => ?_)
  exact kX5_dropHops_4 hC0 hQ 64 _ _ _ _ hf hP hD hS (lv_sub hl [2, 3, 1, 0] rfl)
theorem tX5_dropHops {S : zS} {x1 : Int32} {r : zS} (hf : fX5_dropHops S x1 = some r) : zMv l yX5_dropHops wsX5_dropHops rmX5_dropHops D (zT cI cZ) A (wM a cI cZ) [.ref (a 0), .int x1] S r :=
  zMv_of (by decide) rfl rfl (Nat.le_of_ble_eq_true rfl) (fun hC0 hQ hP hD hS _ hl => kX5_dropHops hC0 hQ hf hP hD hS hl)
abbrev rmX5_goes : Room := { frames := 1, cells := 0, slots := 0, locals := 23 }
theorem iwX5_goes_5 : ∀ w ∈ wsX50, w ∈ wsX5_goes := fun _ h => List.mem_cons_of_mem _ (List.mem_append_right _ h)
set_option maxHeartbeats 4000000 in
set_option maxRecDepth 100000 in
theorem kX5_goes {r : zS} (hC0 : zC p m c cX5_goes 2 s args wsX5_goes RX5 D cI cZ) (hQ : zRv p l e rmX5_goes s m args below meth c cX5_goes D A (wM a cI cZ) Q r) {S : zS} {x1 : Int32} (hf : fX5_goes S x1 = some r) {H : Heap} {locs : List Loc} (hP : va_P D vwCl (wM a cI cZ S) H) (hD : va_D A (wM a cI cZ S)) (hS : va_S A s.heap H locs) {ls : Array Slot} (hl : lv_has ls 2 [(0, .ref (a 0)), (1, .int x1)]) : W p l e rmX5_goes s m args below meth c H locs 0 0 Q (F0 m 0 ls []) := by
  obtain ⟨hC, hK, hN⟩ := id hC0
  obtain ⟨hx, hb, hml, hown, hts⟩ := id hC
  have iw5 := iwX5_goes_5
  unfold fX5_goes at hf
  refine lv_aload_n hx hb dX5_goes_0 rfl (lv_at hl 0 rfl) ?_
  refine gM5_isThere hx hb hts iw5 hown hK hP (List.mem_of_getElem? (i := 1) rfl) dX5_goes_1 ?_
  refine lv_iload_n hx hb dX5_goes_4 rfl (lv_at hl 1 rfl) ?_
  refine lv_iconst (v := (0 : Int32)) hx hb dX5_goes_5 (by decide) ?_
  refine sM5_isThere hf hx hb hK hP hD hS dX5_goes_6 (fun S_1 H locs hf hP hD hS => ?_)
  refine lv_aload_n hx hb dX5_goes_7 rfl (lv_at hl 0 rfl) ?_
  refine lv_dup hx hb dX5_goes_8 rfl ?_
  refine gM5_lost hx hb hts iw5 hown hK hP (List.mem_of_getElem? (i := 2) rfl) dX5_goes_9 ?_
  refine lv_aload_n hx hb dX5_goes_12 rfl (lv_at hl 0 rfl) ?_
  refine gM5_heldMany hx hb hts iw5 hown hK hP (List.mem_of_getElem? (i := 3) rfl) dX5_goes_13 ?_
  refine lv_iload_n hx hb dX5_goes_16 rfl (lv_at hl 1 rfl) ?_
  refine lM5_heldMany hf hx hb hK hP dX5_goes_17 (fun hf => ?_)
  refine lv_iadd hx hb dX5_goes_18 ?_
  refine pM5_lost hf hx hb hts iw5 hown hK hP hD hS (List.mem_of_getElem? (i := 2) rfl) dX5_goes_19 (fun S_2 H locs hf hP hD hS => ?_)
  refine lv_aload_n hx hb dX5_goes_22 rfl (lv_at hl 0 rfl) ?_
  refine gM5_heldMany hx hb hts iw5 hown hK hP (List.mem_of_getElem? (i := 3) rfl) dX5_goes_23 ?_
  refine lv_iload_n hx hb dX5_goes_26 rfl (lv_at hl 1 rfl) ?_
  refine lv_iconst (v := (0 : Int32)) hx hb dX5_goes_27 (by decide) ?_
  refine sM5_heldMany hf hx hb hK hP hD hS dX5_goes_28 (fun S_3 H locs hf hP hD hS => ?_)
  refine lv_aload_n hx hb dX5_goes_29 rfl (lv_at hl 0 rfl) ?_
  refine lv_dup hx hb dX5_goes_30 rfl ?_
  refine gM5_gone hx hb hts iw5 hown hK hP (List.mem_of_getElem? (i := 4) rfl) dX5_goes_31 ?_
  refine lv_iconst (v := (1 : Int32)) hx hb dX5_goes_34 (by decide) ?_
  refine lv_iadd hx hb dX5_goes_35 ?_
  refine pM5_gone hf hx hb hts iw5 hown hK hP hD hS (List.mem_of_getElem? (i := 4) rfl) dX5_goes_36 (fun S_4 H locs hf hP hD hS => ?_)
  refine lv_aload_n hx hb dX5_goes_39 rfl (lv_at hl 0 rfl) ?_
  refine lv_iload_n hx hb dX5_goes_40 rfl (lv_at hl 1 rfl) ?_
  obtain ⟨S_5, hg_1, hf⟩ := obnv_some hf
  refine zcv (va_runV (As := [.int x1]) (rest := []) hC (tX5_dropHops hg_1) (cwV 1 hts gX5_goes_X5_dropHops rfl rfl rfl (by decide +kernel) ⟨Nat.le_of_ble_eq_true rfl, Nat.le_of_ble_eq_true rfl⟩) (zpV hP hK hD hN (rM_0 hK hP)) rfl rfl hl.1 rfl (lv_room (Nat.le_of_ble_eq_true rfl)) dX5_goes_41 ⟨Nat.zero_le _, Nat.zero_le _⟩) hS (fun H locs hP hD hS => ?_)
  exact zrv hf hQ hP hD hS dX5_goes_44
theorem tX5_goes {S : zS} {x1 : Int32} {r : zS} (hf : fX5_goes S x1 = some r) : zMv l yX5_goes wsX5_goes rmX5_goes D (zT cI cZ) A (wM a cI cZ) [.ref (a 0), .int x1] S r :=
  zMv_of (by decide) rfl rfl (Nat.le_of_ble_eq_true rfl) (fun hC0 hQ hP hD hS _ hl => kX5_goes hC0 hQ hf hP hD hS hl)
abbrev rmX5_oldest : Room := { frames := 0, cells := 0, slots := 0, locals := 0 }
theorem iwX5_oldest_5 : ∀ w ∈ wsX50, w ∈ wsX5_oldest := fun _ h => List.mem_cons_of_mem _ (List.mem_append_right _ h)
set_option maxHeartbeats 4000000 in
set_option maxRecDepth 100000 in
theorem kX5_oldest_64 {r : Int32 × zS} (hC0 : zC p m c cX5_oldest 4 s args wsX5_oldest RX5 D cI cZ) (hQ : zRi p l e rmX5_oldest s m args below meth c cX5_oldest D A (wM a cI cZ) Q r) {F4 : zS → Int32 → Int32 → Option (Int32 × zS)} (hF4 : ∀ (S : zS) (x1 : Int32) (x2 : Int32), F4 S x1 x2 = some r → ∀ {H : Heap} {locs : List Loc}, va_P D vwCl (wM a cI cZ S) H → va_D A (wM a cI cZ S) → va_S A s.heap H locs → ∀ {ls : Array Slot}, lv_has ls 4 [(0, .ref (a 0)), (1, .int x1), (2, .int x2)] → W p l e rmX5_oldest s m args below meth c H locs 0 0 Q (F0 m 4 ls [])) {S : zS} {x2 : Int32} {t0 : Int32} (hf : fX5_oldest_64 F4 S x2 t0 = some r) {H : Heap} {locs : List Loc} (hP : va_P D vwCl (wM a cI cZ S) H) (hD : va_D A (wM a cI cZ S)) (hS : va_S A s.heap H locs) {ls : Array Slot} (hl : lv_has ls 4 [(0, .ref (a 0)), (2, .int x2)]) : W p l e rmX5_oldest s m args below meth c H locs 0 0 Q (F0 m 64 ls [.int t0]) := by
  obtain ⟨hC, hK, hN⟩ := id hC0
  obtain ⟨hx, hb, hml, hown, hts⟩ := id hC
  have iw5 := iwX5_oldest_5
  unfold fX5_oldest_64 at hf
  refine z_istore_n hf hx hb (fun y => [(1, .int y), (0, .ref (a 0)), (2, .int x2)]) dX5_oldest_64 rfl hl (by decide) (fun _ => rfl) (fun y_1 ls hf hl => ?_)
  refine z_iinc hf hx hb 2 (fun y => [(2, .int y), (1, .int y_1), (0, .ref (a 0))]) dX5_oldest_65 hl rfl (by decide) (by decide) (fun _ => rfl) (fun y_2 ls hf hl => ?_)
  refine lv_goto (tgt := 4) hx hb dX5_oldest_68 (by decide) ?_
  exact hF4 _ _ _ hf hP hD hS (lv_sub hl [2, 1, 0] rfl)
set_option maxHeartbeats 4000000 in
set_option maxRecDepth 100000 in
theorem kX5_oldest_63 {r : Int32 × zS} (hC0 : zC p m c cX5_oldest 4 s args wsX5_oldest RX5 D cI cZ) (hQ : zRi p l e rmX5_oldest s m args below meth c cX5_oldest D A (wM a cI cZ) Q r) {F4 : zS → Int32 → Int32 → Option (Int32 × zS)} (hF4 : ∀ (S : zS) (x1 : Int32) (x2 : Int32), F4 S x1 x2 = some r → ∀ {H : Heap} {locs : List Loc}, va_P D vwCl (wM a cI cZ S) H → va_D A (wM a cI cZ S) → va_S A s.heap H locs → ∀ {ls : Array Slot}, lv_has ls 4 [(0, .ref (a 0)), (1, .int x1), (2, .int x2)] → W p l e rmX5_oldest s m args below meth c H locs 0 0 Q (F0 m 4 ls [])) {S : zS} {x1 : Int32} {x2 : Int32} (hf : fX5_oldest_63 F4 S x1 x2 = some r) {H : Heap} {locs : List Loc} (hP : va_P D vwCl (wM a cI cZ S) H) (hD : va_D A (wM a cI cZ S)) (hS : va_S A s.heap H locs) {ls : Array Slot} (hl : lv_has ls 4 [(0, .ref (a 0)), (1, .int x1), (2, .int x2)]) : W p l e rmX5_oldest s m args below meth c H locs 0 0 Q (F0 m 63 ls []) := by
  obtain ⟨hC, hK, hN⟩ := id hC0
  obtain ⟨hx, hb, hml, hown, hts⟩ := id hC
  have iw5 := iwX5_oldest_5
  unfold fX5_oldest_63 at hf
  refine lv_iload_n hx hb dX5_oldest_63 rfl (lv_at hl 1 rfl) ?_
  exact kX5_oldest_64 hC0 hQ hF4 hf hP hD hS (lv_sub hl [0, 2] rfl)
set_option maxHeartbeats 4000000 in
set_option maxRecDepth 100000 in
theorem kX5_oldest_59 {r : Int32 × zS} (hC0 : zC p m c cX5_oldest 4 s args wsX5_oldest RX5 D cI cZ) (hQ : zRi p l e rmX5_oldest s m args below meth c cX5_oldest D A (wM a cI cZ) Q r) {F4 : zS → Int32 → Int32 → Option (Int32 × zS)} (hF4 : ∀ (S : zS) (x1 : Int32) (x2 : Int32), F4 S x1 x2 = some r → ∀ {H : Heap} {locs : List Loc}, va_P D vwCl (wM a cI cZ S) H → va_D A (wM a cI cZ S) → va_S A s.heap H locs → ∀ {ls : Array Slot}, lv_has ls 4 [(0, .ref (a 0)), (1, .int x1), (2, .int x2)] → W p l e rmX5_oldest s m args below meth c H locs 0 0 Q (F0 m 4 ls [])) {S : zS} {x2 : Int32} (hf : fX5_oldest_59 F4 S x2 = some r) {H : Heap} {locs : List Loc} (hP : va_P D vwCl (wM a cI cZ S) H) (hD : va_D A (wM a cI cZ S)) (hS : va_S A s.heap H locs) {ls : Array Slot} (hl : lv_has ls 4 [(0, .ref (a 0)), (2, .int x2)]) : W p l e rmX5_oldest s m args below meth c H locs 0 0 Q (F0 m 59 ls []) := by
  obtain ⟨hC, hK, hN⟩ := id hC0
  obtain ⟨hx, hb, hml, hown, hts⟩ := id hC
  have iw5 := iwX5_oldest_5
  unfold fX5_oldest_59 at hf
  refine lv_iload_n hx hb dX5_oldest_59 rfl (lv_at hl 1 rfl) ?_
  refine lv_goto (tgt := 64) hx hb dX5_oldest_60 (by decide) ?_
  exact kX5_oldest_64 hC0 hQ hF4 hf hP hD hS (lv_sub hl [0, 1] rfl)
set_option maxHeartbeats 4000000 in
set_option maxRecDepth 100000 in
theorem kX5_oldest_34 {r : Int32 × zS} (hC0 : zC p m c cX5_oldest 4 s args wsX5_oldest RX5 D cI cZ) (hQ : zRi p l e rmX5_oldest s m args below meth c cX5_oldest D A (wM a cI cZ) Q r) {F4 : zS → Int32 → Int32 → Option (Int32 × zS)} (hF4 : ∀ (S : zS) (x1 : Int32) (x2 : Int32), F4 S x1 x2 = some r → ∀ {H : Heap} {locs : List Loc}, va_P D vwCl (wM a cI cZ S) H → va_D A (wM a cI cZ S) → va_S A s.heap H locs → ∀ {ls : Array Slot}, lv_has ls 4 [(0, .ref (a 0)), (1, .int x1), (2, .int x2)] → W p l e rmX5_oldest s m args below meth c H locs 0 0 Q (F0 m 4 ls [])) {S : zS} {x1 : Int32} {x2 : Int32} {t0 : Int32} (hf : fX5_oldest_34 F4 S x1 x2 t0 = some r) {H : Heap} {locs : List Loc} (hP : va_P D vwCl (wM a cI cZ S) H) (hD : va_D A (wM a cI cZ S)) (hS : va_S A s.heap H locs) {ls : Array Slot} (hl : lv_has ls 4 [(0, .ref (a 0)), (1, .int x1), (2, .int x2)]) : W p l e rmX5_oldest s m args below meth c H locs 0 0 Q (F0 m 34 ls [.int t0]) := by
  obtain ⟨hC, hK, hN⟩ := id hC0
  obtain ⟨hx, hb, hml, hown, hts⟩ := id hC
  have iw5 := iwX5_oldest_5
  unfold fX5_oldest_34 at hf
  refine z_istore_n hf hx hb (fun y => [(3, .int y), (0, .ref (a 0)), (1, .int x1), (2, .int x2)]) dX5_oldest_34 rfl hl (by decide) (fun _ => rfl) (fun y_1 ls hf hl => ?_)
  refine lv_iload_n hx hb dX5_oldest_35 rfl (lv_at hl 0 rfl) ?_
  refine lv_if_eq (tgt := 63) hx hb dX5_oldest_36 (by decide) (fun h_1 => ?_) (fun h_1 => ?_)
  · have hf := zt h_1 hf
    exact kX5_oldest_63 hC0 hQ hF4 hf hP hD hS (lv_sub hl [1, 2, 3] rfl)
  · have hf := zf h_1 hf
    refine lv_iload_n hx hb dX5_oldest_39 rfl (lv_at hl 2 rfl) ?_
    refine lv_iconst (v := (-1 : Int32)) hx hb dX5_oldest_40 (by decide) ?_
    refine lv_icmp_eq (tgt := 59) hx hb dX5_oldest_41 (by decide) (fun h_2 => ?_) (fun h_2 => ?_)
    · have hf := zt h_2 hf
      exact kX5_oldest_59 hC0 hQ hF4 hf hP hD hS (lv_sub hl [1, 3] rfl)
    · have hf := zf h_2 hf
      refine lv_aload_n hx hb dX5_oldest_44 rfl (lv_at hl 1 rfl) ?_
      refine gM5_used hx hb hts iw5 hown hK hP (List.mem_of_getElem? (i := 3) rfl) dX5_oldest_45 ?_
      refine lv_iload_n hx hb dX5_oldest_48 rfl (lv_at hl 3 rfl) ?_
      refine lM5_used hf hx hb hK hP dX5_oldest_49 (fun hf => ?_)
      refine lv_aload_n hx hb dX5_oldest_50 rfl (lv_at hl 1 rfl) ?_
      refine gM5_used hx hb hts iw5 hown hK hP (List.mem_of_getElem? (i := 3) rfl) dX5_oldest_51 ?_
      refine lv_iload_n hx hb dX5_oldest_54 rfl (lv_at hl 2 rfl) ?_
      refine lM5_used hf hx hb hK hP dX5_oldest_55 (fun hf => ?_)
      refine lv_icmp_ge (tgt := 63) hx hb dX5_oldest_56 (by decide) (fun h_3 => ?_) (fun h_3 => ?_)
      · have hf := zt h_3 hf
        exact kX5_oldest_63 hC0 hQ hF4 hf hP hD hS (lv_sub hl [1, 2, 3] rfl)
      · have hf := zf h_3 hf
        exact kX5_oldest_59 hC0 hQ hF4 hf hP hD hS (lv_sub hl [1, 3] rfl)
set_option maxHeartbeats 4000000 in
set_option maxRecDepth 100000 in
theorem kX5_oldest_33 {r : Int32 × zS} (hC0 : zC p m c cX5_oldest 4 s args wsX5_oldest RX5 D cI cZ) (hQ : zRi p l e rmX5_oldest s m args below meth c cX5_oldest D A (wM a cI cZ) Q r) {F4 : zS → Int32 → Int32 → Option (Int32 × zS)} (hF4 : ∀ (S : zS) (x1 : Int32) (x2 : Int32), F4 S x1 x2 = some r → ∀ {H : Heap} {locs : List Loc}, va_P D vwCl (wM a cI cZ S) H → va_D A (wM a cI cZ S) → va_S A s.heap H locs → ∀ {ls : Array Slot}, lv_has ls 4 [(0, .ref (a 0)), (1, .int x1), (2, .int x2)] → W p l e rmX5_oldest s m args below meth c H locs 0 0 Q (F0 m 4 ls [])) {S : zS} {x1 : Int32} {x2 : Int32} (hf : fX5_oldest_33 F4 S x1 x2 = some r) {H : Heap} {locs : List Loc} (hP : va_P D vwCl (wM a cI cZ S) H) (hD : va_D A (wM a cI cZ S)) (hS : va_S A s.heap H locs) {ls : Array Slot} (hl : lv_has ls 4 [(0, .ref (a 0)), (1, .int x1), (2, .int x2)]) : W p l e rmX5_oldest s m args below meth c H locs 0 0 Q (F0 m 33 ls []) := by
  obtain ⟨hC, hK, hN⟩ := id hC0
  obtain ⟨hx, hb, hml, hown, hts⟩ := id hC
  have iw5 := iwX5_oldest_5
  unfold fX5_oldest_33 at hf
  refine lv_iconst (v := (0 : Int32)) hx hb dX5_oldest_33 (by decide) ?_
  exact kX5_oldest_34 hC0 hQ hF4 hf hP hD hS (lv_sub hl [0, 1, 2] rfl)
set_option maxHeartbeats 4000000 in
set_option maxRecDepth 100000 in
theorem kX5_oldest_4b {r : Int32 × zS} (hC0 : zC p m c cX5_oldest 4 s args wsX5_oldest RX5 D cI cZ) (hQ : zRi p l e rmX5_oldest s m args below meth c cX5_oldest D A (wM a cI cZ) Q r) {F4 : zS → Int32 → Int32 → Option (Int32 × zS)} (hF4 : ∀ (S : zS) (x1 : Int32) (x2 : Int32), F4 S x1 x2 = some r → ∀ {H : Heap} {locs : List Loc}, va_P D vwCl (wM a cI cZ S) H → va_D A (wM a cI cZ S) → va_S A s.heap H locs → ∀ {ls : Array Slot}, lv_has ls 4 [(0, .ref (a 0)), (1, .int x1), (2, .int x2)] → W p l e rmX5_oldest s m args below meth c H locs 0 0 Q (F0 m 4 ls [])) {S : zS} {x1 : Int32} {x2 : Int32} (hf : bX5_oldest_4 F4 S x1 x2 = some r) {H : Heap} {locs : List Loc} (hP : va_P D vwCl (wM a cI cZ S) H) (hD : va_D A (wM a cI cZ S)) (hS : va_S A s.heap H locs) {ls : Array Slot} (hl : lv_has ls 4 [(0, .ref (a 0)), (1, .int x1), (2, .int x2)]) : W p l e rmX5_oldest s m args below meth c H locs 0 0 Q (F0 m 4 ls []) := by
  obtain ⟨hC, hK, hN⟩ := id hC0
  obtain ⟨hx, hb, hml, hown, hts⟩ := id hC
  have iw5 := iwX5_oldest_5
  unfold bX5_oldest_4 at hf
  refine lv_iload_n hx hb dX5_oldest_4 rfl (lv_at hl 2 rfl) ?_
  refine lv_bipush (v := (16 : Int32)) hx hb dX5_oldest_5 (by decide) ?_
  refine lv_icmp_ge (tgt := 71) hx hb dX5_oldest_7 (by decide) (fun h_1 => ?_) (fun h_1 => ?_)
  · have hf := zt h_1 hf
    refine lv_iload_n hx hb dX5_oldest_71 rfl (lv_at hl 1 rfl) ?_
    exact zri hf hQ hP hD hS dX5_oldest_72
  · have hf := zf h_1 hf
    refine lv_aload_n hx hb dX5_oldest_10 rfl (lv_at hl 0 rfl) ?_
    refine gM5_isThere hx hb hts iw5 hown hK hP (List.mem_of_getElem? (i := 1) rfl) dX5_oldest_11 ?_
    refine lv_iload_n hx hb dX5_oldest_14 rfl (lv_at hl 2 rfl) ?_
    refine lM5_isThere hf hx hb hK hP dX5_oldest_15 (fun hf => ?_)
    refine lv_if_eq (tgt := 33) hx hb dX5_oldest_16 (by decide) (fun h_2 => ?_) (fun h_2 => ?_)
    · have hf := zt h_2 hf
      exact kX5_oldest_33 hC0 hQ hF4 hf hP hD hS (lv_sub hl [0, 1, 2] rfl)
    · have hf := zf h_2 hf
      refine lv_aload_n hx hb dX5_oldest_19 rfl (lv_at hl 0 rfl) ?_
      refine gM5_state hx hb hts iw5 hown hK hP (List.mem_of_getElem? (i := 2) rfl) dX5_oldest_20 ?_
      refine lv_iload_n hx hb dX5_oldest_23 rfl (lv_at hl 2 rfl) ?_
      refine lM5_state hf hx hb hK hP dX5_oldest_24 (fun hf => ?_)
      refine lv_iconst (v := (2 : Int32)) hx hb dX5_oldest_25 (by decide) ?_
      refine lv_icmp_ne (tgt := 33) hx hb dX5_oldest_26 (by decide) (fun h_3 => ?_) (fun h_3 => ?_)
      · have hf := zf h_3 hf
        exact kX5_oldest_33 hC0 hQ hF4 hf hP hD hS (lv_sub hl [0, 1, 2] rfl)
      · have hf := zt h_3 hf
        refine lv_iconst (v := (1 : Int32)) hx hb dX5_oldest_29 (by decide) ?_
        refine lv_goto (tgt := 34) hx hb dX5_oldest_30 (by decide) ?_
        exact kX5_oldest_34 hC0 hQ hF4 hf hP hD hS (lv_sub hl [0, 1, 2] rfl)
theorem kX5_oldest_4 {r : Int32 × zS} (hC0 : zC p m c cX5_oldest 4 s args wsX5_oldest RX5 D cI cZ) (hQ : zRi p l e rmX5_oldest s m args below meth c cX5_oldest D A (wM a cI cZ) Q r) (n : Nat) : ∀ (S : zS) (x1 : Int32) (x2 : Int32), fX5_oldest_4 n S x1 x2 = some r → ∀ {H : Heap} {locs : List Loc}, va_P D vwCl (wM a cI cZ S) H → va_D A (wM a cI cZ S) → va_S A s.heap H locs → ∀ {ls : Array Slot}, lv_has ls 4 [(0, .ref (a 0)), (1, .int x1), (2, .int x2)] → W p l e rmX5_oldest s m args below meth c H locs 0 0 Q (F0 m 4 ls []) := by
  induction n with
  | zero => intro S x1 x2 hf; cases hf
  | succ n ih => intro S x1 x2 hf; exact kX5_oldest_4b hC0 hQ ih hf
set_option maxHeartbeats 4000000 in
set_option maxRecDepth 100000 in
theorem kX5_oldest {r : Int32 × zS} (hC0 : zC p m c cX5_oldest 4 s args wsX5_oldest RX5 D cI cZ) (hQ : zRi p l e rmX5_oldest s m args below meth c cX5_oldest D A (wM a cI cZ) Q r) {S : zS} (hf : fX5_oldest S = some r) {H : Heap} {locs : List Loc} (hP : va_P D vwCl (wM a cI cZ S) H) (hD : va_D A (wM a cI cZ S)) (hS : va_S A s.heap H locs) {ls : Array Slot} (hl : lv_has ls 4 [(0, .ref (a 0))]) : W p l e rmX5_oldest s m args below meth c H locs 0 0 Q (F0 m 0 ls []) := by
  obtain ⟨hC, hK, hN⟩ := id hC0
  obtain ⟨hx, hb, hml, hown, hts⟩ := id hC
  have iw5 := iwX5_oldest_5
  unfold fX5_oldest at hf
  refine lv_iconst (v := (-1 : Int32)) hx hb dX5_oldest_0 (by decide) ?_
  refine z_istore_n hf hx hb (fun y => [(1, .int y), (0, .ref (a 0))]) dX5_oldest_1 rfl hl (by decide) (fun _ => rfl) (fun y_1 ls hf hl => ?_)
  refine lv_iconst (v := (0 : Int32)) hx hb dX5_oldest_2 (by decide) ?_
  refine z_istore_n hf hx hb (fun y => [(2, .int y), (1, .int y_1), (0, .ref (a 0))]) dX5_oldest_3 rfl hl (by decide) (fun _ => rfl) (fun y_2 ls hf hl => ?_)
  exact kX5_oldest_4 hC0 hQ 64 _ _ _ hf hP hD hS (lv_sub hl [2, 1, 0] rfl)
theorem tX5_oldest {S : zS} {r : Int32 × zS} (hf : fX5_oldest S = some r) : zMi l yX5_oldest wsX5_oldest rmX5_oldest D (zT cI cZ) A (wM a cI cZ) [.ref (a 0)] S r :=
  zMi_of (by decide) rfl rfl (Nat.le_of_ble_eq_true rfl) (fun hC0 hQ hP hD hS _ hl => kX5_oldest hC0 hQ hf hP hD hS hl)
abbrev rmX5_isRoom : Room := { frames := 1, cells := 0, slots := 0, locals := 23 }
theorem iwX5_isRoom_5 : ∀ w ∈ wsX50, w ∈ wsX5_isRoom := fun _ h => List.mem_cons_of_mem _ (List.mem_append_right _ h)
set_option maxHeartbeats 4000000 in
set_option maxRecDepth 100000 in
theorem kX5_isRoom_17 {r : Int32 × zS} (hC0 : zC p m c cX5_isRoom 1 s args wsX5_isRoom RX5 D cI cZ) (hQ : zRz p l e rmX5_isRoom s m args below meth c cX5_isRoom D A (wM a cI cZ) Q r) {S : zS} (hf : fX5_isRoom_17 S = some r) {H : Heap} {locs : List Loc} (hP : va_P D vwCl (wM a cI cZ S) H) (hD : va_D A (wM a cI cZ S)) (hS : va_S A s.heap H locs) {ls : Array Slot} (hl : lv_has ls 1 []) : W p l e rmX5_isRoom s m args below meth c H locs 0 0 Q (F0 m 17 ls []) := by
  obtain ⟨hC, hK, hN⟩ := id hC0
  obtain ⟨hx, hb, hml, hown, hts⟩ := id hC
  have iw5 := iwX5_isRoom_5
  unfold fX5_isRoom_17 at hf
  refine lv_iconst (v := (1 : Int32)) hx hb dX5_isRoom_17 (by decide) ?_
  refine lv_goto (tgt := 22) hx hb dX5_isRoom_18 (by decide) ?_
  exact zrz hf (Or.inr rfl) hQ hP hD hS dX5_isRoom_22
set_option maxHeartbeats 4000000 in
set_option maxRecDepth 100000 in
theorem kX5_isRoom {r : Int32 × zS} (hC0 : zC p m c cX5_isRoom 1 s args wsX5_isRoom RX5 D cI cZ) (hQ : zRz p l e rmX5_isRoom s m args below meth c cX5_isRoom D A (wM a cI cZ) Q r) {S : zS} (hf : fX5_isRoom S = some r) {H : Heap} {locs : List Loc} (hP : va_P D vwCl (wM a cI cZ S) H) (hD : va_D A (wM a cI cZ S)) (hS : va_S A s.heap H locs) {ls : Array Slot} (hl : lv_has ls 1 [(0, .ref (a 0))]) : W p l e rmX5_isRoom s m args below meth c H locs 0 0 Q (F0 m 0 ls []) := by
  obtain ⟨hC, hK, hN⟩ := id hC0
  obtain ⟨hx, hb, hml, hown, hts⟩ := id hC
  have iw5 := iwX5_isRoom_5
  unfold fX5_isRoom at hf
  refine lv_aload_n hx hb dX5_isRoom_0 rfl (lv_at hl 0 rfl) ?_
  refine lv_iconst (v := (-1 : Int32)) hx hb dX5_isRoom_1 (by decide) ?_
  obtain ⟨y_1, S_1, hg_1, hf⟩ := obnd_some hf
  refine zci (va_runV (As := [.int (-1 : Int32)]) (rest := []) hC (tX5_entries hg_1) (cwV 1 hts gX5_isRoom_X5_entries rfl rfl rfl (by decide +kernel) ⟨Nat.le_of_ble_eq_true rfl, Nat.le_of_ble_eq_true rfl⟩) (zpV hP hK hD hN (rM_0 hK hP)) rfl rfl hl.1 rfl (lv_room (Nat.le_of_ble_eq_true rfl)) dX5_isRoom_2 ⟨Nat.zero_le _, Nat.zero_le _⟩) hS (fun H locs hP hD hS => ?_)
  refine lv_iconst (v := (5 : Int32)) hx hb dX5_isRoom_5 (by decide) ?_
  refine lv_icmp_lt (tgt := 17) hx hb dX5_isRoom_6 (by decide) (fun h_1 => ?_) (fun h_1 => ?_)
  · have hf := zt h_1 hf
    exact kX5_isRoom_17 hC0 hQ hf hP hD hS (lv_sub hl [] rfl)
  · have hf := zf h_1 hf
    refine lv_aload_n hx hb dX5_isRoom_9 rfl (lv_at hl 0 rfl) ?_
    obtain ⟨y_2, S_2, hg_2, hf⟩ := obnd_some hf
    refine zci (va_runV (As := []) (rest := []) hC (tX5_oldest hg_2) (cwV 0 hts gX5_isRoom_X5_oldest rfl rfl rfl (by decide +kernel) ⟨Nat.le_of_ble_eq_true rfl, Nat.le_of_ble_eq_true rfl⟩) (zpV hP hK hD hN (rM_0 hK hP)) rfl rfl hl.1 rfl (lv_room (Nat.le_of_ble_eq_true rfl)) dX5_isRoom_10 ⟨Nat.zero_le _, Nat.zero_le _⟩) hS (fun H locs hP hD hS => ?_)
    refine lv_iconst (v := (-1 : Int32)) hx hb dX5_isRoom_13 (by decide) ?_
    refine lv_icmp_eq (tgt := 21) hx hb dX5_isRoom_14 (by decide) (fun h_2 => ?_) (fun h_2 => ?_)
    · have hf := zt h_2 hf
      refine lv_iconst (v := (0 : Int32)) hx hb dX5_isRoom_21 (by decide) ?_
      exact zrz hf (Or.inl rfl) hQ hP hD hS dX5_isRoom_22
    · have hf := zf h_2 hf
      exact kX5_isRoom_17 hC0 hQ hf hP hD hS (lv_sub hl [] rfl)
theorem tX5_isRoom {S : zS} {r : Int32 × zS} (hf : fX5_isRoom S = some r) : zMi l yX5_isRoom wsX5_isRoom rmX5_isRoom D (zT cI cZ) A (wM a cI cZ) [.ref (a 0)] S r :=
  zMz_of (by decide) rfl rfl (Nat.le_of_ble_eq_true rfl) (fun hC0 hQ hP hD hS _ hl => kX5_isRoom hC0 hQ hf hP hD hS hl)
abbrev rmX5_comes : Room := { frames := 2, cells := 0, slots := 0, locals := 44 }
theorem iwX5_comes_5 : ∀ w ∈ wsX50, w ∈ wsX5_comes := fun _ h => List.mem_cons_of_mem _ (List.mem_append_right _ h)
set_option maxHeartbeats 4000000 in
set_option maxRecDepth 100000 in
theorem kX5_comes_17 {r : zS} (hC0 : zC p m c cX5_comes 3 s args wsX5_comes RX5 D cI cZ) (hQ : zRv p l e rmX5_comes s m args below meth c cX5_comes D A (wM a cI cZ) Q r) {S : zS} {x1 : Int32} {x2 : Int32} (hf : fX5_comes_17 S x1 x2 = some r) {H : Heap} {locs : List Loc} (hP : va_P D vwCl (wM a cI cZ S) H) (hD : va_D A (wM a cI cZ S)) (hS : va_S A s.heap H locs) {ls : Array Slot} (hl : lv_has ls 3 [(0, .ref (a 0)), (1, .int x1), (2, .int x2)]) : W p l e rmX5_comes s m args below meth c H locs 0 0 Q (F0 m 17 ls []) := by
  obtain ⟨hC, hK, hN⟩ := id hC0
  obtain ⟨hx, hb, hml, hown, hts⟩ := id hC
  have iw5 := iwX5_comes_5
  unfold fX5_comes_17 at hf
  refine lv_aload_n hx hb dX5_comes_17 rfl (lv_at hl 0 rfl) ?_
  refine gM5_isThere hx hb hts iw5 hown hK hP (List.mem_of_getElem? (i := 1) rfl) dX5_comes_18 ?_
  refine lv_iload_n hx hb dX5_comes_21 rfl (lv_at hl 1 rfl) ?_
  refine lv_iconst (v := (1 : Int32)) hx hb dX5_comes_22 (by decide) ?_
  refine sM5_isThere hf hx hb hK hP hD hS dX5_comes_23 (fun S_1 H locs hf hP hD hS => ?_)
  refine lv_aload_n hx hb dX5_comes_24 rfl (lv_at hl 0 rfl) ?_
  refine gM5_mark hx hb hts iw5 hown hK hP (List.mem_of_getElem? (i := 2) rfl) dX5_comes_25 ?_
  refine lv_iload_n hx hb dX5_comes_28 rfl (lv_at hl 1 rfl) ?_
  refine lv_iload_n hx hb dX5_comes_29 rfl (lv_at hl 2 rfl) ?_
  refine sM5_mark hf hx hb hK hP hD hS dX5_comes_30 (fun S_2 H locs hf hP hD hS => ?_)
  refine lv_aload_n hx hb dX5_comes_31 rfl (lv_at hl 0 rfl) ?_
  refine gM5_used hx hb hts iw5 hown hK hP (List.mem_of_getElem? (i := 3) rfl) dX5_comes_32 ?_
  refine lv_iload_n hx hb dX5_comes_35 rfl (lv_at hl 1 rfl) ?_
  refine lv_aload_n hx hb dX5_comes_36 rfl (lv_at hl 0 rfl) ?_
  refine gM5_clock hx hb hts iw5 hown hK hP (List.mem_of_getElem? (i := 4) rfl) dX5_comes_37 ?_
  refine sM5_used hf hx hb hK hP hD hS dX5_comes_40 (fun S_3 H locs hf hP hD hS => ?_)
  refine lv_aload_n hx hb dX5_comes_41 rfl (lv_at hl 0 rfl) ?_
  refine gM5_heldMany hx hb hts iw5 hown hK hP (List.mem_of_getElem? (i := 5) rfl) dX5_comes_42 ?_
  refine lv_iload_n hx hb dX5_comes_45 rfl (lv_at hl 1 rfl) ?_
  refine lv_iconst (v := (0 : Int32)) hx hb dX5_comes_46 (by decide) ?_
  refine sM5_heldMany hf hx hb hK hP hD hS dX5_comes_47 (fun S_4 H locs hf hP hD hS => ?_)
  exact zrv hf hQ hP hD hS dX5_comes_48
set_option maxHeartbeats 4000000 in
set_option maxRecDepth 100000 in
theorem kX5_comes {r : zS} (hC0 : zC p m c cX5_comes 3 s args wsX5_comes RX5 D cI cZ) (hQ : zRv p l e rmX5_comes s m args below meth c cX5_comes D A (wM a cI cZ) Q r) {S : zS} {x1 : Int32} {x2 : Int32} (hf : fX5_comes S x1 x2 = some r) {H : Heap} {locs : List Loc} (hP : va_P D vwCl (wM a cI cZ S) H) (hD : va_D A (wM a cI cZ S)) (hS : va_S A s.heap H locs) {ls : Array Slot} (hl : lv_has ls 3 [(0, .ref (a 0)), (1, .int x1), (2, .int x2)]) : W p l e rmX5_comes s m args below meth c H locs 0 0 Q (F0 m 0 ls []) := by
  obtain ⟨hC, hK, hN⟩ := id hC0
  obtain ⟨hx, hb, hml, hown, hts⟩ := id hC
  have iw5 := iwX5_comes_5
  unfold fX5_comes at hf
  refine lv_aload_n hx hb dX5_comes_0 rfl (lv_at hl 0 rfl) ?_
  refine lv_iconst (v := (-1 : Int32)) hx hb dX5_comes_1 (by decide) ?_
  obtain ⟨y_1, S_1, hg_1, hf⟩ := obnd_some hf
  refine zci (va_runV (As := [.int (-1 : Int32)]) (rest := []) hC (tX5_entries hg_1) (cwV 1 hts gX5_comes_X5_entries rfl rfl rfl (by decide +kernel) ⟨Nat.le_of_ble_eq_true rfl, Nat.le_of_ble_eq_true rfl⟩) (zpV hP hK hD hN (rM_0 hK hP)) rfl rfl hl.1 rfl (lv_room (Nat.le_of_ble_eq_true rfl)) dX5_comes_2 ⟨Nat.zero_le _, Nat.zero_le _⟩) hS (fun H locs hP hD hS => ?_)
  refine lv_iconst (v := (5 : Int32)) hx hb dX5_comes_5 (by decide) ?_
  refine lv_icmp_ne (tgt := 17) hx hb dX5_comes_6 (by decide) (fun h_1 => ?_) (fun h_1 => ?_)
  · have hf := zf h_1 hf
    exact kX5_comes_17 hC0 hQ hf hP hD hS (lv_sub hl [0, 1, 2] rfl)
  · have hf := zt h_1 hf
    refine lv_aload_n hx hb dX5_comes_9 rfl (lv_at hl 0 rfl) ?_
    refine lv_aload_n hx hb dX5_comes_10 rfl (lv_at hl 0 rfl) ?_
    obtain ⟨y_2, S_2, hg_2, hf⟩ := obnd_some hf
    refine zci (va_runV (As := []) (rest := [.ref (a 0)]) hC (tX5_oldest hg_2) (cwV 0 hts gX5_comes_X5_oldest rfl rfl rfl (by decide +kernel) ⟨Nat.le_of_ble_eq_true rfl, Nat.le_of_ble_eq_true rfl⟩) (zpV hP hK hD hN (rM_0 hK hP)) rfl rfl hl.1 rfl (lv_room (Nat.le_of_ble_eq_true rfl)) dX5_comes_11 ⟨Nat.zero_le _, Nat.zero_le _⟩) hS (fun H locs hP hD hS => ?_)
    obtain ⟨S_3, hg_3, hf⟩ := obnv_some hf
    refine zcv (va_runV (As := [.int y_2]) (rest := []) hC (tX5_goes hg_3) (cwV 1 hts gX5_comes_X5_goes rfl rfl rfl (by decide +kernel) ⟨Nat.le_of_ble_eq_true rfl, Nat.le_of_ble_eq_true rfl⟩) (zpV hP hK hD hN (rM_0 hK hP)) rfl rfl hl.1 rfl (lv_room (Nat.le_of_ble_eq_true rfl)) dX5_comes_14 ⟨Nat.zero_le _, Nat.zero_le _⟩) hS (fun H locs hP hD hS => ?_)
    exact kX5_comes_17 hC0 hQ hf hP hD hS (lv_sub hl [0, 1, 2] rfl)
theorem tX5_comes {S : zS} {x1 : Int32} {x2 : Int32} {r : zS} (hf : fX5_comes S x1 x2 = some r) : zMv l yX5_comes wsX5_comes rmX5_comes D (zT cI cZ) A (wM a cI cZ) [.ref (a 0), .int x1, .int x2] S r :=
  zMv_of (by decide) rfl rfl (Nat.le_of_ble_eq_true rfl) (fun hC0 hQ hP hD hS _ hl => kX5_comes hC0 hQ hf hP hD hS hl)
end KY1
