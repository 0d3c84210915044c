section KY2
variable {p : Program} {l : Launch} {e : Env} {s : State} {m : MethodId} {args : Array Value} {below : List Frame} {meth : Method} {c : Code} {Q : State → Prop} {D : va_G} {a : Nat → Nat} {cI cZ : ClassId} {A : Nat → Prop}
abbrev rmX5_letGo : Room := { frames := 1, cells := 0, slots := 0, locals := 26 }
theorem iwX5_letGo_5 : ∀ w ∈ wsX50, w ∈ wsX5_letGo := fun _ h => List.mem_cons_of_mem _ (List.mem_append_right _ h)
set_option maxHeartbeats 4000000 in
set_option maxRecDepth 100000 in
theorem kX5_letGo_2b {r : zS} (hC0 : zC p m c cX5_letGo 3 s args wsX5_letGo RX5 D cI cZ) (hQ : zRv p l e rmX5_letGo s m args below meth c cX5_letGo D A (wM a cI cZ) Q r) {F2 : zS → Int32 → Int32 → Option (zS)} (hF2 : ∀ (S : zS) (x1 : Int32) (x2 : Int32), F2 S x1 x2 = some r → ∀ {H : Heap} {locs : List Loc}, va_P D vwCl (wM a cI cZ S) H → va_D A (wM a cI cZ S) → va_S A s.heap H locs → ∀ {ls : Array Slot}, lv_has ls 3 [(0, .ref (a 0)), (1, .int x1), (2, .int x2)] → W p l e rmX5_letGo s m args below meth c H locs 0 0 Q (F0 m 2 ls [])) {S : zS} {x1 : Int32} {x2 : Int32} (hf : bX5_letGo_2 F2 S x1 x2 = some r) {H : Heap} {locs : List Loc} (hP : va_P D vwCl (wM a cI cZ S) H) (hD : va_D A (wM a cI cZ S)) (hS : va_S A s.heap H locs) {ls : Array Slot} (hl : lv_has ls 3 [(0, .ref (a 0)), (1, .int x1), (2, .int x2)]) : W p l e rmX5_letGo s m args below meth c H locs 0 0 Q (F0 m 2 ls []) := by
  obtain ⟨hC, hK, hN⟩ := id hC0
  obtain ⟨hx, hb, hml, hown, hts⟩ := id hC
  have iw5 := iwX5_letGo_5
  unfold bX5_letGo_2 at hf
  refine lv_iload_n hx hb dX5_letGo_2 rfl (lv_at hl 2 rfl) ?_
  refine lv_aload_n hx hb dX5_letGo_3 rfl (lv_at hl 0 rfl) ?_
  refine gM5_heldMany hx hb hts iw5 hown hK hP (List.mem_of_getElem? (i := 1) rfl) dX5_letGo_4 ?_
  refine lv_iload_n hx hb dX5_letGo_7 rfl (lv_at hl 1 rfl) ?_
  refine lM5_heldMany hf hx hb hK hP dX5_letGo_8 (fun hf => ?_)
  refine lv_icmp_ge (tgt := 40) hx hb dX5_letGo_9 (by decide) (fun h_1 => ?_) (fun h_1 => ?_)
  · have hf := zt h_1 hf
    refine lv_aload_n hx hb dX5_letGo_40 rfl (lv_at hl 0 rfl) ?_
    refine gM5_heldMany hx hb hts iw5 hown hK hP (List.mem_of_getElem? (i := 1) rfl) dX5_letGo_41 ?_
    refine lv_iload_n hx hb dX5_letGo_44 rfl (lv_at hl 1 rfl) ?_
    refine lv_iconst (v := (0 : Int32)) hx hb dX5_letGo_45 (by decide) ?_
    refine sM5_heldMany hf hx hb hK hP hD hS dX5_letGo_46 (fun S_1 H locs hf hP hD hS => ?_)
    exact zrv hf hQ hP hD hS dX5_letGo_47
  · have hf := zf h_1 hf
    refine lv_aload_n hx hb dX5_letGo_12 rfl (lv_at hl 0 rfl) ?_
    refine lv_iconst (v := (0 : Int32)) hx hb dX5_letGo_13 (by decide) ?_
    refine lv_iload_n hx hb dX5_letGo_14 rfl (lv_at hl 1 rfl) ?_
    refine lv_aload_n hx hb dX5_letGo_15 rfl (lv_at hl 0 rfl) ?_
    refine gM5_mark hx hb hts iw5 hown hK hP (List.mem_of_getElem? (i := 2) rfl) dX5_letGo_16 ?_
    refine lv_iload_n hx hb dX5_letGo_19 rfl (lv_at hl 1 rfl) ?_
    refine lM5_mark hf hx hb hK hP dX5_letGo_20 (fun hf => ?_)
    refine lv_aload_n hx hb dX5_letGo_21 rfl (lv_at hl 0 rfl) ?_
    refine gM5_heldAt hx hb hts iw5 hown hK hP (List.mem_of_getElem? (i := 3) rfl) dX5_letGo_22 ?_
    refine lv_iconst (v := (3 : Int32)) hx hb dX5_letGo_25 (by decide) ?_
    refine lv_iload_n hx hb dX5_letGo_26 rfl (lv_at hl 1 rfl) ?_
    refine lv_imul hx hb dX5_letGo_27 ?_
    refine lv_iload_n hx hb dX5_letGo_28 rfl (lv_at hl 2 rfl) ?_
    refine lv_iadd hx hb dX5_letGo_29 ?_
    refine lM5_heldAt hf hx hb hK hP dX5_letGo_30 (fun hf => ?_)
    obtain ⟨S_2, hg_1, hf⟩ := obnv_some hf
    refine zcv (va_runV (As := [.int (0 : Int32), .int x1, .int (S.2.1 2 (x1).toNatClampNeg), .int (S.2.1 7 ((((3 : Int32) * x1) + x2)).toNatClampNeg)]) (rest := []) hC (tX5_goOut hg_1) (cwV 4 hts gX5_letGo_X5_goOut rfl rfl rfl (by decide +kernel) ⟨Nat.le_of_ble_eq_true rfl, Nat.le_of_ble_eq_true rfl⟩) (zpV hP hK hD hN (rM_0 hK hP)) rfl rfl hl.1 rfl (lv_room (Nat.le_of_ble_eq_true rfl)) dX5_letGo_31 ⟨Nat.zero_le _, Nat.zero_le _⟩) hS (fun H locs hP hD hS => ?_)
    refine z_iinc hf hx hb 2 (fun y => [(2, .int y), (0, .ref (a 0)), (1, .int x1)]) dX5_letGo_34 hl rfl (by decide) (by decide) (fun _ => rfl) (fun y_1 ls hf hl => ?_)
    refine lv_goto (tgt := 2) hx hb dX5_letGo_37 (by decide) ?_
    exact hF2 _ _ _ hf hP hD hS (lv_sub hl [1, 2, 0] rfl)
theorem kX5_letGo_2 {r : zS} (hC0 : zC p m c cX5_letGo 3 s args wsX5_letGo RX5 D cI cZ) (hQ : zRv p l e rmX5_letGo s m args below meth c cX5_letGo D A (wM a cI cZ) Q r) (n : Nat) : ∀ (S : zS) (x1 : Int32) (x2 : Int32), fX5_letGo_2 n S x1 x2 = some r → ∀ {H : Heap} {locs : List Loc}, va_P D vwCl (wM a cI cZ S) H → va_D A (wM a cI cZ S) → va_S A s.heap H locs → ∀ {ls : Array Slot}, lv_has ls 3 [(0, .ref (a 0)), (1, .int x1), (2, .int x2)] → W p l e rmX5_letGo s m args below meth c H locs 0 0 Q (F0 m 2 ls []) := by
  induction n with
  | zero => intro S x1 x2 hf; cases hf
  | succ n ih => intro S x1 x2 hf; exact kX5_letGo_2b hC0 hQ ih hf
set_option maxHeartbeats 4000000 in
set_option maxRecDepth 100000 in
theorem kX5_letGo {r : zS} (hC0 : zC p m c cX5_letGo 3 s args wsX5_letGo RX5 D cI cZ) (hQ : zRv p l e rmX5_letGo s m args below meth c cX5_letGo D A (wM a cI cZ) Q r) {S : zS} {x1 : Int32} (hf : fX5_letGo S x1 = some r) {H : Heap} {locs : List Loc} (hP : va_P D vwCl (wM a cI cZ S) H) (hD : va_D A (wM a cI cZ S)) (hS : va_S A s.heap H locs) {ls : Array Slot} (hl : lv_has ls 3 [(0, .ref (a 0)), (1, .int x1)]) : W p l e rmX5_letGo s m args below meth c H locs 0 0 Q (F0 m 0 ls []) := by
  obtain ⟨hC, hK, hN⟩ := id hC0
  obtain ⟨hx, hb, hml, hown, hts⟩ := id hC
  have iw5 := iwX5_letGo_5
  unfold fX5_letGo at hf
  refine lv_iconst (v := (0 : Int32)) hx hb dX5_letGo_0 (by decide) ?_
  refine z_istore_n hf hx hb (fun y => [(2, .int y), (0, .ref (a 0)), (1, .int x1)]) dX5_letGo_1 rfl hl (by decide) (fun _ => rfl) (fun y_1 ls hf hl => ?_)
  exact kX5_letGo_2 hC0 hQ 64 _ _ _ hf hP hD hS (lv_sub hl [1, 2, 0] rfl)
theorem tX5_letGo {S : zS} {x1 : Int32} {r : zS} (hf : fX5_letGo S x1 = some r) : zMv l yX5_letGo wsX5_letGo rmX5_letGo D (zT cI cZ) A (wM a cI cZ) [.ref (a 0), .int x1] S r :=
  zMv_of (by decide) rfl rfl (Nat.le_of_ble_eq_true rfl) (fun hC0 hQ hP hD hS _ hl => kX5_letGo hC0 hQ hf hP hD hS hl)
abbrev rmX5_hold : Room := { frames := 0, cells := 0, slots := 0, locals := 0 }
theorem iwX5_hold_5 : ∀ w ∈ wsX50, w ∈ wsX5_hold := fun _ h => List.mem_cons_of_mem _ (List.mem_append_right _ h)
set_option maxHeartbeats 4000000 in
set_option maxRecDepth 100000 in
theorem kX5_hold_78 {r : Int32 × zS} (hC0 : zC p m c cX5_hold 4 s args wsX5_hold RX5 D cI cZ) (hQ : zRz p l e rmX5_hold s m args below meth c cX5_hold D A (wM a cI cZ) Q r) {S : zS} {x1 : Int32} {x2 : Int32} {x3 : Int32} (hf : fX5_hold_78 S x1 x2 x3 = some r) {H : Heap} {locs : List Loc} (hP : va_P D vwCl (wM a cI cZ S) H) (hD : va_D A (wM a cI cZ S)) (hS : va_S A s.heap H locs) {ls : Array Slot} (hl : lv_has ls 4 [(0, .ref (a 0)), (1, .int x1), (2, .int x2), (3, .int x3)]) : W p l e rmX5_hold s m args below meth c H locs 0 0 Q (F0 m 78 ls []) := by
  obtain ⟨hC, hK, hN⟩ := id hC0
  obtain ⟨hx, hb, hml, hown, hts⟩ := id hC
  have iw5 := iwX5_hold_5
  unfold fX5_hold_78 at hf
  refine lv_aload_n hx hb dX5_hold_78 rfl (lv_at hl 0 rfl) ?_
  refine gM5_heldAt hx hb hts iw5 hown hK hP (List.mem_of_getElem? (i := 2) rfl) dX5_hold_79 ?_
  refine lv_iconst (v := (3 : Int32)) hx hb dX5_hold_82 (by decide) ?_
  refine lv_iload_n hx hb dX5_hold_83 rfl (lv_at hl 1 rfl) ?_
  refine lv_imul hx hb dX5_hold_84 ?_
  refine lv_aload_n hx hb dX5_hold_85 rfl (lv_at hl 0 rfl) ?_
  refine gM5_heldMany hx hb hts iw5 hown hK hP (List.mem_of_getElem? (i := 1) rfl) dX5_hold_86 ?_
  refine lv_iload_n hx hb dX5_hold_89 rfl (lv_at hl 1 rfl) ?_
  refine lM5_heldMany hf hx hb hK hP dX5_hold_90 (fun hf => ?_)
  refine lv_iadd hx hb dX5_hold_91 ?_
  refine lv_iload_n hx hb dX5_hold_92 rfl (lv_at hl 2 rfl) ?_
  refine sM5_heldAt hf hx hb hK hP hD hS dX5_hold_93 (fun S_1 H locs hf hP hD hS => ?_)
  refine lv_aload_n hx hb dX5_hold_94 rfl (lv_at hl 0 rfl) ?_
  refine gM5_heldMany hx hb hts iw5 hown hK hP (List.mem_of_getElem? (i := 1) rfl) dX5_hold_95 ?_
  refine lv_iload_n hx hb dX5_hold_98 rfl (lv_at hl 1 rfl) ?_
  refine lv_dup2_11 hx hb dX5_hold_99 rfl rfl ?_
  refine lM5_heldMany hf hx hb hK hP dX5_hold_100 (fun hf => ?_)
  refine lv_iconst (v := (1 : Int32)) hx hb dX5_hold_101 (by decide) ?_
  refine lv_iadd hx hb dX5_hold_102 ?_
  refine sM5_heldMany hf hx hb hK hP hD hS dX5_hold_103 (fun S_2 H locs hf hP hD hS => ?_)
  refine lv_iload_n hx hb dX5_hold_104 rfl (lv_at hl 3 rfl) ?_
  obtain ⟨hz_1, hf⟩ := zbl_some hf
  exact zrz hf hz_1 hQ hP hD hS dX5_hold_105
set_option maxHeartbeats 4000000 in
set_option maxRecDepth 100000 in
theorem kX5_hold_15 {r : Int32 × zS} (hC0 : zC p m c cX5_hold 4 s args wsX5_hold RX5 D cI cZ) (hQ : zRz p l e rmX5_hold s m args below meth c cX5_hold D A (wM a cI cZ) Q r) {S : zS} {x1 : Int32} {x2 : Int32} {t0 : Int32} (hf : fX5_hold_15 S x1 x2 t0 = some r) {H : Heap} {locs : List Loc} (hP : va_P D vwCl (wM a cI cZ S) H) (hD : va_D A (wM a cI cZ S)) (hS : va_S A s.heap H locs) {ls : Array Slot} (hl : lv_has ls 4 [(0, .ref (a 0)), (1, .int x1), (2, .int x2)]) : W p l e rmX5_hold s m args below meth c H locs 0 0 Q (F0 m 15 ls [.int t0]) := by
  obtain ⟨hC, hK, hN⟩ := id hC0
  obtain ⟨hx, hb, hml, hown, hts⟩ := id hC
  have iw5 := iwX5_hold_5
  unfold fX5_hold_15 at hf
  refine z_istore_n hf hx hb (fun y => [(3, .int y), (0, .ref (a 0)), (1, .int x1), (2, .int x2)]) dX5_hold_15 rfl hl (by decide) (fun _ => rfl) (fun y_1 ls hf hl => ?_)
  refine lv_iload_n hx hb dX5_hold_16 rfl (lv_at hl 0 rfl) ?_
  refine lv_if_eq (tgt := 78) hx hb dX5_hold_17 (by decide) (fun h_1 => ?_) (fun h_1 => ?_)
  · have hf := zt h_1 hf
    exact kX5_hold_78 hC0 hQ hf hP hD hS (lv_sub hl [1, 2, 3, 0] rfl)
  · have hf := zf h_1 hf
    refine lv_aload_n hx hb dX5_hold_20 rfl (lv_at hl 1 rfl) ?_
    refine gM5_heldAt hx hb hts iw5 hown hK hP (List.mem_of_getElem? (i := 2) rfl) dX5_hold_21 ?_
    refine lv_iconst (v := (3 : Int32)) hx hb dX5_hold_24 (by decide) ?_
    refine lv_iload_n hx hb dX5_hold_25 rfl (lv_at hl 2 rfl) ?_
    refine lv_imul hx hb dX5_hold_26 ?_
    refine lv_aload_n hx hb dX5_hold_27 rfl (lv_at hl 1 rfl) ?_
    refine gM5_heldAt hx hb hts iw5 hown hK hP (List.mem_of_getElem? (i := 2) rfl) dX5_hold_28 ?_
    refine lv_iconst (v := (3 : Int32)) hx hb dX5_hold_31 (by decide) ?_
    refine lv_iload_n hx hb dX5_hold_32 rfl (lv_at hl 2 rfl) ?_
    refine lv_imul hx hb dX5_hold_33 ?_
    refine lv_iconst (v := (1 : Int32)) hx hb dX5_hold_34 (by decide) ?_
    refine lv_iadd hx hb dX5_hold_35 ?_
    refine lM5_heldAt hf hx hb hK hP dX5_hold_36 (fun hf => ?_)
    refine sM5_heldAt hf hx hb hK hP hD hS dX5_hold_37 (fun S_1 H locs hf hP hD hS => ?_)
    refine lv_aload_n hx hb dX5_hold_38 rfl (lv_at hl 1 rfl) ?_
    refine gM5_heldAt hx hb hts iw5 hown hK hP (List.mem_of_getElem? (i := 2) rfl) dX5_hold_39 ?_
    refine lv_iconst (v := (3 : Int32)) hx hb dX5_hold_42 (by decide) ?_
    refine lv_iload_n hx hb dX5_hold_43 rfl (lv_at hl 2 rfl) ?_
    refine lv_imul hx hb dX5_hold_44 ?_
    refine lv_iconst (v := (1 : Int32)) hx hb dX5_hold_45 (by decide) ?_
    refine lv_iadd hx hb dX5_hold_46 ?_
    refine lv_aload_n hx hb dX5_hold_47 rfl (lv_at hl 1 rfl) ?_
    refine gM5_heldAt hx hb hts iw5 hown hK hP (List.mem_of_getElem? (i := 2) rfl) dX5_hold_48 ?_
    refine lv_iconst (v := (3 : Int32)) hx hb dX5_hold_51 (by decide) ?_
    refine lv_iload_n hx hb dX5_hold_52 rfl (lv_at hl 2 rfl) ?_
    refine lv_imul hx hb dX5_hold_53 ?_
    refine lv_iconst (v := (2 : Int32)) hx hb dX5_hold_54 (by decide) ?_
    refine lv_iadd hx hb dX5_hold_55 ?_
    refine lM5_heldAt hf hx hb hK hP dX5_hold_56 (fun hf => ?_)
    refine sM5_heldAt hf hx hb hK hP hD hS dX5_hold_57 (fun S_2 H locs hf hP hD hS => ?_)
    refine lv_aload_n hx hb dX5_hold_58 rfl (lv_at hl 1 rfl) ?_
    refine gM5_heldMany hx hb hts iw5 hown hK hP (List.mem_of_getElem? (i := 1) rfl) dX5_hold_59 ?_
    refine lv_iload_n hx hb dX5_hold_62 rfl (lv_at hl 2 rfl) ?_
    refine lv_dup2_11 hx hb dX5_hold_63 rfl rfl ?_
    refine lM5_heldMany hf hx hb hK hP dX5_hold_64 (fun hf => ?_)
    refine lv_iconst (v := (1 : Int32)) hx hb dX5_hold_65 (by decide) ?_
    refine lv_isub hx hb dX5_hold_66 ?_
    refine sM5_heldMany hf hx hb hK hP hD hS dX5_hold_67 (fun S_3 H locs hf hP hD hS => ?_)
    refine lv_aload_n hx hb dX5_hold_68 rfl (lv_at hl 1 rfl) ?_
    refine lv_dup hx hb dX5_hold_69 rfl ?_
    refine gM5_lost hx hb hts iw5 hown hK hP (List.mem_of_getElem? (i := 3) rfl) dX5_hold_70 ?_
    refine lv_iconst (v := (1 : Int32)) hx hb dX5_hold_73 (by decide) ?_
    refine lv_iadd hx hb dX5_hold_74 ?_
    refine pM5_lost hf hx hb hts iw5 hown hK hP hD hS (List.mem_of_getElem? (i := 3) rfl) dX5_hold_75 (fun S_4 H locs hf hP hD hS => ?_)
    exact kX5_hold_78 hC0 hQ hf hP hD hS (lv_sub hl [1, 2, 3, 0] rfl)
set_option maxHeartbeats 4000000 in
set_option maxRecDepth 100000 in
theorem kX5_hold {r : Int32 × zS} (hC0 : zC p m c cX5_hold 4 s args wsX5_hold RX5 D cI cZ) (hQ : zRz p l e rmX5_hold s m args below meth c cX5_hold D A (wM a cI cZ) Q r) {S : zS} {x1 : Int32} {x2 : Int32} (hf : fX5_hold S x1 x2 = some r) {H : Heap} {locs : List Loc} (hP : va_P D vwCl (wM a cI cZ S) H) (hD : va_D A (wM a cI cZ S)) (hS : va_S A s.heap H locs) {ls : Array Slot} (hl : lv_has ls 4 [(0, .ref (a 0)), (1, .int x1), (2, .int x2)]) : W p l e rmX5_hold s m args below meth c H locs 0 0 Q (F0 m 0 ls []) := by
  obtain ⟨hC, hK, hN⟩ := id hC0
  obtain ⟨hx, hb, hml, hown, hts⟩ := id hC
  have iw5 := iwX5_hold_5
  unfold fX5_hold at hf
  refine lv_aload_n hx hb dX5_hold_0 rfl (lv_at hl 0 rfl) ?_
  refine gM5_heldMany hx hb hts iw5 hown hK hP (List.mem_of_getElem? (i := 1) rfl) dX5_hold_1 ?_
  refine lv_iload_n hx hb dX5_hold_4 rfl (lv_at hl 1 rfl) ?_
  refine lM5_heldMany hf hx hb hK hP dX5_hold_5 (fun hf => ?_)
  refine lv_iconst (v := (3 : Int32)) hx hb dX5_hold_6 (by decide) ?_
  refine lv_icmp_ne (tgt := 14) hx hb dX5_hold_7 (by decide) (fun h_1 => ?_) (fun h_1 => ?_)
  · have hf := zf h_1 hf
    refine lv_iconst (v := (0 : Int32)) hx hb dX5_hold_14 (by decide) ?_
    exact kX5_hold_15 hC0 hQ hf hP hD hS (lv_sub hl [0, 1, 2] rfl)
  · have hf := zt h_1 hf
    refine lv_iconst (v := (1 : Int32)) hx hb dX5_hold_10 (by decide) ?_
    refine lv_goto (tgt := 15) hx hb dX5_hold_11 (by decide) ?_
    exact kX5_hold_15 hC0 hQ hf hP hD hS (lv_sub hl [0, 1, 2] rfl)
theorem tX5_hold {S : zS} {x1 : Int32} {x2 : Int32} {r : Int32 × zS} (hf : fX5_hold S x1 x2 = some r) : zMi l yX5_hold wsX5_hold rmX5_hold D (zT cI cZ) A (wM a cI cZ) [.ref (a 0), .int x1, .int x2] S r :=
  zMz_of (by decide) rfl rfl (Nat.le_of_ble_eq_true rfl) (fun hC0 hQ hP hD hS _ hl => kX5_hold hC0 hQ hf hP hD hS hl)
abbrev rmX5_sendNow : Room := { frames := 3, cells := 0, slots := 0, locals := 66 }
theorem iwX5_sendNow_5 : ∀ w ∈ wsX50, w ∈ wsX5_sendNow := fun _ h => List.mem_cons_of_mem _ (List.mem_append_right _ h)
set_option maxHeartbeats 4000000 in
set_option maxRecDepth 100000 in
theorem kX5_sendNow_31 {r : Int32 × zS} (hC0 : zC p m c cX5_sendNow 3 s args wsX5_sendNow RX5 D cI cZ) (hQ : zRi p l e rmX5_sendNow s m args below meth c cX5_sendNow D A (wM a cI cZ) Q r) {S : zS} {x1 : Int32} {x2 : Int32} (hf : fX5_sendNow_31 S x1 x2 = some r) {H : Heap} {locs : List Loc} (hP : va_P D vwCl (wM a cI cZ S) H) (hD : va_D A (wM a cI cZ S)) (hS : va_S A s.heap H locs) {ls : Array Slot} (hl : lv_has ls 3 [(0, .ref (a 0)), (1, .int x1), (2, .int x2)]) : W p l e rmX5_sendNow s m args below meth c H locs 0 0 Q (F0 m 31 ls []) := by
  obtain ⟨hC, hK, hN⟩ := id hC0
  obtain ⟨hx, hb, hml, hown, hts⟩ := id hC
  have iw5 := iwX5_sendNow_5
  unfold fX5_sendNow_31 at hf
  refine lv_aload_n hx hb dX5_sendNow_31 rfl (lv_at hl 0 rfl) ?_
  refine gM5_used hx hb hts iw5 hown hK hP (List.mem_of_getElem? (i := 2) rfl) dX5_sendNow_32 ?_
  refine lv_iload_n hx hb dX5_sendNow_35 rfl (lv_at hl 1 rfl) ?_
  refine lv_aload_n hx hb dX5_sendNow_36 rfl (lv_at hl 0 rfl) ?_
  refine gM5_clock hx hb hts iw5 hown hK hP (List.mem_of_getElem? (i := 3) rfl) dX5_sendNow_37 ?_
  refine sM5_used hf hx hb hK hP hD hS dX5_sendNow_40 (fun S_1 H locs hf hP hD hS => ?_)
  refine lv_aload_n hx hb dX5_sendNow_41 rfl (lv_at hl 0 rfl) ?_
  refine gM5_state hx hb hts iw5 hown hK hP (List.mem_of_getElem? (i := 4) rfl) dX5_sendNow_42 ?_
  refine lv_iload_n hx hb dX5_sendNow_45 rfl (lv_at hl 1 rfl) ?_
  refine lM5_state hf hx hb hK hP dX5_sendNow_46 (fun hf => ?_)
  refine lv_if_ne (tgt := 65) hx hb dX5_sendNow_47 (by decide) (fun h_1 => ?_) (fun h_1 => ?_)
  · have hf := zf h_1 hf
    refine lv_aload_n hx hb dX5_sendNow_65 rfl (lv_at hl 0 rfl) ?_
    refine lv_iconst (v := (0 : Int32)) hx hb dX5_sendNow_66 (by decide) ?_
    refine lv_iload_n hx hb dX5_sendNow_67 rfl (lv_at hl 1 rfl) ?_
    refine lv_aload_n hx hb dX5_sendNow_68 rfl (lv_at hl 0 rfl) ?_
    refine gM5_mark hx hb hts iw5 hown hK hP (List.mem_of_getElem? (i := 5) rfl) dX5_sendNow_69 ?_
    refine lv_iload_n hx hb dX5_sendNow_72 rfl (lv_at hl 1 rfl) ?_
    refine lM5_mark hf hx hb hK hP dX5_sendNow_73 (fun hf => ?_)
    refine lv_iload_n hx hb dX5_sendNow_74 rfl (lv_at hl 2 rfl) ?_
    obtain ⟨S_2, hg_1, hf⟩ := obnv_some hf
    refine zcv (va_runV (As := [.int (0 : Int32), .int x1, .int (S_1.2.1 2 (x1).toNatClampNeg), .int x2]) (rest := []) hC (tX5_goOut hg_1) (cwV 4 hts gX5_sendNow_X5_goOut rfl rfl rfl (by decide +kernel) ⟨Nat.le_of_ble_eq_true rfl, Nat.le_of_ble_eq_true rfl⟩) (zpV hP hK hD hN (rM_0 hK hP)) rfl rfl hl.1 rfl (lv_room (Nat.le_of_ble_eq_true rfl)) dX5_sendNow_75 ⟨Nat.zero_le _, Nat.zero_le _⟩) hS (fun H locs hP hD hS => ?_)
    refine lv_aload_n hx hb dX5_sendNow_78 rfl (lv_at hl 0 rfl) ?_
    refine gM5_state hx hb hts iw5 hown hK hP (List.mem_of_getElem? (i := 4) rfl) dX5_sendNow_79 ?_
    refine lv_iload_n hx hb dX5_sendNow_82 rfl (lv_at hl 1 rfl) ?_
    refine lM5_state hf hx hb hK hP dX5_sendNow_83 (fun hf => ?_)
    refine lv_iconst (v := (2 : Int32)) hx hb dX5_sendNow_84 (by decide) ?_
    refine lv_icmp_ne (tgt := 95) hx hb dX5_sendNow_85 (by decide) (fun h_2 => ?_) (fun h_2 => ?_)
    · have hf := zf h_2 hf
      refine lv_iconst (v := (0 : Int32)) hx hb dX5_sendNow_95 (by decide) ?_
      exact zri hf hQ hP hD hS dX5_sendNow_96
    · have hf := zt h_2 hf
      refine lv_aload_n hx hb dX5_sendNow_88 rfl (lv_at hl 0 rfl) ?_
      refine lv_iload_n hx hb dX5_sendNow_89 rfl (lv_at hl 1 rfl) ?_
      refine lv_iconst (v := (3 : Int32)) hx hb dX5_sendNow_90 (by decide) ?_
      refine lv_iconst (v := (5 : Int32)) hx hb dX5_sendNow_91 (by decide) ?_
      obtain ⟨S_3, hg_2, hf⟩ := obnv_some hf
      refine zcv (va_runV (As := [.int x1, .int (3 : Int32), .int (5 : Int32)]) (rest := []) hC (tX5_become hg_2) (cwV 3 hts gX5_sendNow_X5_become rfl rfl rfl (by decide +kernel) ⟨Nat.le_of_ble_eq_true rfl, Nat.le_of_ble_eq_true rfl⟩) (zpV hP hK hD hN (rM_0 hK hP)) rfl rfl hl.1 rfl (lv_room (Nat.le_of_ble_eq_true rfl)) dX5_sendNow_92 ⟨Nat.zero_le _, Nat.zero_le _⟩) hS (fun H locs hP hD hS => ?_)
      refine lv_iconst (v := (0 : Int32)) hx hb dX5_sendNow_95 (by decide) ?_
      exact zri hf hQ hP hD hS dX5_sendNow_96
  · have hf := zt h_1 hf
    refine lv_aload_n hx hb dX5_sendNow_50 rfl (lv_at hl 0 rfl) ?_
    refine lv_iload_n hx hb dX5_sendNow_51 rfl (lv_at hl 1 rfl) ?_
    refine lv_iload_n hx hb dX5_sendNow_52 rfl (lv_at hl 2 rfl) ?_
    obtain ⟨y_1, S_4, hg_3, hf⟩ := obnd_some hf
    refine zci (va_runV (As := [.int x1, .int x2]) (rest := []) hC (tX5_hold hg_3) (cwV 2 hts gX5_sendNow_X5_hold rfl rfl rfl (by decide +kernel) ⟨Nat.le_of_ble_eq_true rfl, Nat.le_of_ble_eq_true rfl⟩) (zpV hP hK hD hN (rM_0 hK hP)) rfl rfl hl.1 rfl (lv_room (Nat.le_of_ble_eq_true rfl)) dX5_sendNow_53 ⟨Nat.zero_le _, Nat.zero_le _⟩) hS (fun H locs hP hD hS => ?_)
    refine lv_if_eq (tgt := 63) hx hb dX5_sendNow_56 (by decide) (fun h_3 => ?_) (fun h_3 => ?_)
    · have hf := zt h_3 hf
      refine lv_iconst (v := (1 : Int32)) hx hb dX5_sendNow_63 (by decide) ?_
      exact zri hf hQ hP hD hS dX5_sendNow_64
    · have hf := zf h_3 hf
      refine lv_iconst (v := (2 : Int32)) hx hb dX5_sendNow_59 (by decide) ?_
      refine lv_goto (tgt := 64) hx hb dX5_sendNow_60 (by decide) ?_
      exact zri hf hQ hP hD hS dX5_sendNow_64
set_option maxHeartbeats 4000000 in
set_option maxRecDepth 100000 in
theorem kX5_sendNow {r : Int32 × zS} (hC0 : zC p m c cX5_sendNow 3 s args wsX5_sendNow RX5 D cI cZ) (hQ : zRi p l e rmX5_sendNow s m args below meth c cX5_sendNow D A (wM a cI cZ) Q r) {S : zS} {x1 : Int32} {x2 : Int32} (hf : fX5_sendNow S x1 x2 = some r) {H : Heap} {locs : List Loc} (hP : va_P D vwCl (wM a cI cZ S) H) (hD : va_D A (wM a cI cZ S)) (hS : va_S A s.heap H locs) {ls : Array Slot} (hl : lv_has ls 3 [(0, .ref (a 0)), (1, .int x1), (2, .int x2)]) : W p l e rmX5_sendNow s m args below meth c H locs 0 0 Q (F0 m 0 ls []) := by
  obtain ⟨hC, hK, hN⟩ := id hC0
  obtain ⟨hx, hb, hml, hown, hts⟩ := id hC
  have iw5 := iwX5_sendNow_5
  unfold fX5_sendNow at hf
  refine lv_aload_n hx hb dX5_sendNow_0 rfl (lv_at hl 0 rfl) ?_
  refine gM5_isThere hx hb hts iw5 hown hK hP (List.mem_of_getElem? (i := 1) rfl) dX5_sendNow_1 ?_
  refine lv_iload_n hx hb dX5_sendNow_4 rfl (lv_at hl 1 rfl) ?_
  refine lM5_isThere hf hx hb hK hP dX5_sendNow_5 (fun hf => ?_)
  refine lv_if_ne (tgt := 31) hx hb dX5_sendNow_6 (by decide) (fun h_1 => ?_) (fun h_1 => ?_)
  · have hf := zf h_1 hf
    exact kX5_sendNow_31 hC0 hQ hf hP hD hS (lv_sub hl [0, 1, 2] rfl)
  · have hf := zt h_1 hf
    refine lv_aload_n hx hb dX5_sendNow_9 rfl (lv_at hl 0 rfl) ?_
    refine lv_iload_n hx hb dX5_sendNow_10 rfl (lv_at hl 1 rfl) ?_
    refine lv_iconst (v := (0 : Int32)) hx hb dX5_sendNow_11 (by decide) ?_
    obtain ⟨S_1, hg_1, hf⟩ := obnv_some hf
    refine zcv (va_runV (As := [.int x1, .int (0 : Int32)]) (rest := []) hC (tX5_comes hg_1) (cwV 2 hts gX5_sendNow_X5_comes rfl rfl rfl (by decide +kernel) ⟨Nat.le_of_ble_eq_true rfl, Nat.le_of_ble_eq_true rfl⟩) (zpV hP hK hD hN (rM_0 hK hP)) rfl rfl hl.1 rfl (lv_room (Nat.le_of_ble_eq_true rfl)) dX5_sendNow_12 ⟨Nat.zero_le _, Nat.zero_le _⟩) hS (fun H locs hP hD hS => ?_)
    refine lv_aload_n hx hb dX5_sendNow_15 rfl (lv_at hl 0 rfl) ?_
    refine lv_iload_n hx hb dX5_sendNow_16 rfl (lv_at hl 1 rfl) ?_
    refine lv_iconst (v := (0 : Int32)) hx hb dX5_sendNow_17 (by decide) ?_
    refine lv_bipush (v := (6 : Int32)) hx hb dX5_sendNow_18 (by decide) ?_
    obtain ⟨S_2, hg_2, hf⟩ := obnv_some hf
    refine zcv (va_runV (As := [.int x1, .int (0 : Int32), .int (6 : Int32)]) (rest := []) hC (tX5_become hg_2) (cwV 3 hts gX5_sendNow_X5_become rfl rfl rfl (by decide +kernel) ⟨Nat.le_of_ble_eq_true rfl, Nat.le_of_ble_eq_true rfl⟩) (zpV hP hK hD hN (rM_0 hK hP)) rfl rfl hl.1 rfl (lv_room (Nat.le_of_ble_eq_true rfl)) dX5_sendNow_20 ⟨Nat.zero_le _, Nat.zero_le _⟩) hS (fun H locs hP hD hS => ?_)
    refine lv_aload_n hx hb dX5_sendNow_23 rfl (lv_at hl 0 rfl) ?_
    refine lv_iconst (v := (1 : Int32)) hx hb dX5_sendNow_24 (by decide) ?_
    refine lv_iload_n hx hb dX5_sendNow_25 rfl (lv_at hl 1 rfl) ?_
    refine lv_iconst (v := (0 : Int32)) hx hb dX5_sendNow_26 (by decide) ?_
    refine lv_iconst (v := (0 : Int32)) hx hb dX5_sendNow_27 (by decide) ?_
    obtain ⟨S_3, hg_3, hf⟩ := obnv_some hf
    refine zcv (va_runV (As := [.int (1 : Int32), .int x1, .int (0 : Int32), .int (0 : Int32)]) (rest := []) hC (tX5_goOut hg_3) (cwV 4 hts gX5_sendNow_X5_goOut rfl rfl rfl (by decide +kernel) ⟨Nat.le_of_ble_eq_true rfl, Nat.le_of_ble_eq_true rfl⟩) (zpV hP hK hD hN (rM_0 hK hP)) rfl rfl hl.1 rfl (lv_room (Nat.le_of_ble_eq_true rfl)) dX5_sendNow_28 ⟨Nat.zero_le _, Nat.zero_le _⟩) hS (fun H locs hP hD hS => ?_)
    exact kX5_sendNow_31 hC0 hQ hf hP hD hS (lv_sub hl [0, 1, 2] rfl)
theorem tX5_sendNow {S : zS} {x1 : Int32} {x2 : Int32} {r : Int32 × zS} (hf : fX5_sendNow S x1 x2 = some r) : zMi l yX5_sendNow wsX5_sendNow rmX5_sendNow D (zT cI cZ) A (wM a cI cZ) [.ref (a 0), .int x1, .int x2] S r :=
  zMi_of (by decide) rfl rfl (Nat.le_of_ble_eq_true rfl) (fun hC0 hQ hP hD hS _ hl => kX5_sendNow hC0 hQ hf hP hD hS hl)
abbrev rmX5_hear : Room := { frames := 3, cells := 0, slots := 0, locals := 66 }
theorem iwX5_hear_5 : ∀ w ∈ wsX50, w ∈ wsX5_hear := fun _ h => List.mem_cons_of_mem _ (List.mem_append_right _ h)
set_option maxHeartbeats 4000000 in
set_option maxRecDepth 100000 in
theorem kX5_hear_59 {r : zS} (hC0 : zC p m c cX5_hear 4 s args wsX5_hear RX5 D cI cZ) (hQ : zRv p l e rmX5_hear s m args below meth c cX5_hear D A (wM a cI cZ) Q r) {S : zS} {x1 : Int32} {x2 : Int32} (hf : fX5_hear_59 S x1 x2 = some r) {H : Heap} {locs : List Loc} (hP : va_P D vwCl (wM a cI cZ S) H) (hD : va_D A (wM a cI cZ S)) (hS : va_S A s.heap H locs) {ls : Array Slot} (hl : lv_has ls 4 [(0, .ref (a 0)), (1, .int x1), (2, .int x2)]) : W p l e rmX5_hear s m args below meth c H locs 0 0 Q (F0 m 59 ls []) := by
  obtain ⟨hC, hK, hN⟩ := id hC0
  obtain ⟨hx, hb, hml, hown, hts⟩ := id hC
  have iw5 := iwX5_hear_5
  unfold fX5_hear_59 at hf
  refine lv_aload_n hx hb dX5_hear_59 rfl (lv_at hl 0 rfl) ?_
  refine gM5_mark hx hb hts iw5 hown hK hP (List.mem_of_getElem? (i := 3) rfl) dX5_hear_60 ?_
  refine lv_iload_n hx hb dX5_hear_63 rfl (lv_at hl 1 rfl) ?_
  refine lv_iload_n hx hb dX5_hear_64 rfl (lv_at hl 2 rfl) ?_
  refine sM5_mark hf hx hb hK hP hD hS dX5_hear_65 (fun S_1 H locs hf hP hD hS => ?_)
  refine lv_aload_n hx hb dX5_hear_66 rfl (lv_at hl 0 rfl) ?_
  refine lv_iload_n hx hb dX5_hear_67 rfl (lv_at hl 1 rfl) ?_
  refine lv_iconst (v := (2 : Int32)) hx hb dX5_hear_68 (by decide) ?_
  refine lv_iconst (v := (0 : Int32)) hx hb dX5_hear_69 (by decide) ?_
  obtain ⟨S_2, hg_1, hf⟩ := obnv_some hf
  refine zcv (va_runV (As := [.int x1, .int (2 : Int32), .int (0 : Int32)]) (rest := []) hC (tX5_become hg_1) (cwV 3 hts gX5_hear_X5_become rfl rfl rfl (by decide +kernel) ⟨Nat.le_of_ble_eq_true rfl, Nat.le_of_ble_eq_true rfl⟩) (zpV hP hK hD hN (rM_0 hK hP)) rfl rfl hl.1 rfl (lv_room (Nat.le_of_ble_eq_true rfl)) dX5_hear_70 ⟨Nat.zero_le _, Nat.zero_le _⟩) hS (fun H locs hP hD hS => ?_)
  refine lv_aload_n hx hb dX5_hear_73 rfl (lv_at hl 0 rfl) ?_
  refine lv_iload_n hx hb dX5_hear_74 rfl (lv_at hl 1 rfl) ?_
  obtain ⟨S_3, hg_2, hf⟩ := obnv_some hf
  refine zcv (va_runV (As := [.int x1]) (rest := []) hC (tX5_letGo hg_2) (cwV 1 hts gX5_hear_X5_letGo rfl rfl rfl (by decide +kernel) ⟨Nat.le_of_ble_eq_true rfl, Nat.le_of_ble_eq_true rfl⟩) (zpV hP hK hD hN (rM_0 hK hP)) rfl rfl hl.1 rfl (lv_room (Nat.le_of_ble_eq_true rfl)) dX5_hear_75 ⟨Nat.zero_le _, Nat.zero_le _⟩) hS (fun H locs hP hD hS => ?_)
  exact zrv hf hQ hP hD hS dX5_hear_78
set_option maxHeartbeats 4000000 in
set_option maxRecDepth 100000 in
theorem kX5_hear_44 {r : zS} (hC0 : zC p m c cX5_hear 4 s args wsX5_hear RX5 D cI cZ) (hQ : zRv p l e rmX5_hear s m args below meth c cX5_hear D A (wM a cI cZ) Q r) {S : zS} {x1 : Int32} {x2 : Int32} {t0 : Int32} (hf : fX5_hear_44 S x1 x2 t0 = some r) {H : Heap} {locs : List Loc} (hP : va_P D vwCl (wM a cI cZ S) H) (hD : va_D A (wM a cI cZ S)) (hS : va_S A s.heap H locs) {ls : Array Slot} (hl : lv_has ls 4 [(0, .ref (a 0)), (1, .int x1), (2, .int x2)]) : W p l e rmX5_hear s m args below meth c H locs 0 0 Q (F0 m 44 ls [.int t0]) := by
  obtain ⟨hC, hK, hN⟩ := id hC0
  obtain ⟨hx, hb, hml, hown, hts⟩ := id hC
  have iw5 := iwX5_hear_5
  unfold fX5_hear_44 at hf
  refine z_istore_n hf hx hb (fun y => [(3, .int y), (0, .ref (a 0)), (1, .int x1), (2, .int x2)]) dX5_hear_44 rfl hl (by decide) (fun _ => rfl) (fun y_1 ls hf hl => ?_)
  refine lv_iload_n hx hb dX5_hear_45 rfl (lv_at hl 0 rfl) ?_
  refine lv_if_ne (tgt := 59) hx hb dX5_hear_46 (by decide) (fun h_1 => ?_) (fun h_1 => ?_)
  · have hf := zf h_1 hf
    exact kX5_hear_59 hC0 hQ hf hP hD hS (lv_sub hl [1, 2, 3] rfl)
  · have hf := zt h_1 hf
    refine lv_aload_n hx hb dX5_hear_49 rfl (lv_at hl 1 rfl) ?_
    refine gM5_mark hx hb hts iw5 hown hK hP (List.mem_of_getElem? (i := 3) rfl) dX5_hear_50 ?_
    refine lv_iload_n hx hb dX5_hear_53 rfl (lv_at hl 2 rfl) ?_
    refine lM5_mark hf hx hb hK hP dX5_hear_54 (fun hf => ?_)
    refine lv_iload_n hx hb dX5_hear_55 rfl (lv_at hl 3 rfl) ?_
    refine lv_icmp_eq (tgt := 78) hx hb dX5_hear_56 (by decide) (fun h_2 => ?_) (fun h_2 => ?_)
    · have hf := zt h_2 hf
      exact zrv hf hQ hP hD hS dX5_hear_78
    · have hf := zf h_2 hf
      exact kX5_hear_59 hC0 hQ hf hP hD hS (lv_sub hl [1, 2, 3] rfl)
set_option maxHeartbeats 4000000 in
set_option maxRecDepth 100000 in
theorem kX5_hear {r : zS} (hC0 : zC p m c cX5_hear 4 s args wsX5_hear RX5 D cI cZ) (hQ : zRv p l e rmX5_hear s m args below meth c cX5_hear D A (wM a cI cZ) Q r) {S : zS} {x1 : Int32} {x2 : Int32} (hf : fX5_hear S x1 x2 = some r) {H : Heap} {locs : List Loc} (hP : va_P D vwCl (wM a cI cZ S) H) (hD : va_D A (wM a cI cZ S)) (hS : va_S A s.heap H locs) {ls : Array Slot} (hl : lv_has ls 4 [(0, .ref (a 0)), (1, .int x1), (2, .int x2)]) : W p l e rmX5_hear s m args below meth c H locs 0 0 Q (F0 m 0 ls []) := by
  obtain ⟨hC, hK, hN⟩ := id hC0
  obtain ⟨hx, hb, hml, hown, hts⟩ := id hC
  have iw5 := iwX5_hear_5
  unfold fX5_hear at hf
  refine lv_aload_n hx hb dX5_hear_0 rfl (lv_at hl 0 rfl) ?_
  refine gM5_isThere hx hb hts iw5 hown hK hP (List.mem_of_getElem? (i := 1) rfl) dX5_hear_1 ?_
  refine lv_iload_n hx hb dX5_hear_4 rfl (lv_at hl 1 rfl) ?_
  refine lM5_isThere hf hx hb hK hP dX5_hear_5 (fun hf => ?_)
  refine lv_if_ne (tgt := 30) hx hb dX5_hear_6 (by decide) (fun h_1 => ?_) (fun h_1 => ?_)
  · have hf := zf h_1 hf
    refine lv_aload_n hx hb dX5_hear_30 rfl (lv_at hl 0 rfl) ?_
    refine gM5_state hx hb hts iw5 hown hK hP (List.mem_of_getElem? (i := 2) rfl) dX5_hear_31 ?_
    refine lv_iload_n hx hb dX5_hear_34 rfl (lv_at hl 1 rfl) ?_
    refine lM5_state hf hx hb hK hP dX5_hear_35 (fun hf => ?_)
    refine lv_if_ne (tgt := 43) hx hb dX5_hear_36 (by decide) (fun h_2 => ?_) (fun h_2 => ?_)
    · have hf := zf h_2 hf
      refine lv_iconst (v := (0 : Int32)) hx hb dX5_hear_43 (by decide) ?_
      exact kX5_hear_44 hC0 hQ hf hP hD hS (lv_sub hl [0, 1, 2] rfl)
    · have hf := zt h_2 hf
      refine lv_iconst (v := (1 : Int32)) hx hb dX5_hear_39 (by decide) ?_
      refine lv_goto (tgt := 44) hx hb dX5_hear_40 (by decide) ?_
      exact kX5_hear_44 hC0 hQ hf hP hD hS (lv_sub hl [0, 1, 2] rfl)
  · have hf := zt h_1 hf
    refine lv_aload_n hx hb dX5_hear_9 rfl (lv_at hl 0 rfl) ?_
    obtain ⟨y_1, S_1, hg_1, hf⟩ := obnd_some hf
    refine zci (va_runV (As := []) (rest := []) hC (tX5_isRoom hg_1) (cwV 0 hts gX5_hear_X5_isRoom rfl rfl rfl (by decide +kernel) ⟨Nat.le_of_ble_eq_true rfl, Nat.le_of_ble_eq_true rfl⟩) (zpV hP hK hD hN (rM_0 hK hP)) rfl rfl hl.1 rfl (lv_room (Nat.le_of_ble_eq_true rfl)) dX5_hear_10 ⟨Nat.zero_le _, Nat.zero_le _⟩) hS (fun H locs hP hD hS => ?_)
    refine lv_if_eq (tgt := 29) hx hb dX5_hear_13 (by decide) (fun h_3 => ?_) (fun h_3 => ?_)
    · have hf := zt h_3 hf
      exact zrv hf hQ hP hD hS dX5_hear_29
    · have hf := zf h_3 hf
      refine lv_aload_n hx hb dX5_hear_16 rfl (lv_at hl 0 rfl) ?_
      refine lv_iload_n hx hb dX5_hear_17 rfl (lv_at hl 1 rfl) ?_
      refine lv_iload_n hx hb dX5_hear_18 rfl (lv_at hl 2 rfl) ?_
      obtain ⟨S_2, hg_2, hf⟩ := obnv_some hf
      refine zcv (va_runV (As := [.int x1, .int x2]) (rest := []) hC (tX5_comes hg_2) (cwV 2 hts gX5_hear_X5_comes rfl rfl rfl (by decide +kernel) ⟨Nat.le_of_ble_eq_true rfl, Nat.le_of_ble_eq_true rfl⟩) (zpV hP hK hD hN (rM_0 hK hP)) rfl rfl hl.1 rfl (lv_room (Nat.le_of_ble_eq_true rfl)) dX5_hear_19 ⟨Nat.zero_le _, Nat.zero_le _⟩) hS (fun H locs hP hD hS => ?_)
      refine lv_aload_n hx hb dX5_hear_22 rfl (lv_at hl 0 rfl) ?_
      refine lv_iload_n hx hb dX5_hear_23 rfl (lv_at hl 1 rfl) ?_
      refine lv_iconst (v := (2 : Int32)) hx hb dX5_hear_24 (by decide) ?_
      refine lv_iconst (v := (0 : Int32)) hx hb dX5_hear_25 (by decide) ?_
      obtain ⟨S_3, hg_3, hf⟩ := obnv_some hf
      refine zcv (va_runV (As := [.int x1, .int (2 : Int32), .int (0 : Int32)]) (rest := []) hC (tX5_become hg_3) (cwV 3 hts gX5_hear_X5_become rfl rfl rfl (by decide +kernel) ⟨Nat.le_of_ble_eq_true rfl, Nat.le_of_ble_eq_true rfl⟩) (zpV hP hK hD hN (rM_0 hK hP)) rfl rfl hl.1 rfl (lv_room (Nat.le_of_ble_eq_true rfl)) dX5_hear_26 ⟨Nat.zero_le _, Nat.zero_le _⟩) hS (fun H locs hP hD hS => ?_)
      exact zrv hf hQ hP hD hS dX5_hear_29
theorem tX5_hear {S : zS} {x1 : Int32} {x2 : Int32} {r : zS} (hf : fX5_hear S x1 x2 = some r) : zMv l yX5_hear wsX5_hear rmX5_hear D (zT cI cZ) A (wM a cI cZ) [.ref (a 0), .int x1, .int x2] S r :=
  zMv_of (by decide) rfl rfl (Nat.le_of_ble_eq_true rfl) (fun hC0 hQ hP hD hS _ hl => kX5_hear hC0 hQ hf hP hD hS hl)
abbrev rmX5_isGood : Room := { frames := 0, cells := 0, slots := 0, locals := 0 }
theorem iwX5_isGood_5 : ∀ w ∈ wsX50, w ∈ wsX5_isGood := fun _ h => List.mem_cons_of_mem _ (List.mem_append_right _ h)
set_option maxHeartbeats 4000000 in
set_option maxRecDepth 100000 in
theorem kX5_isGood {r : Int32 × zS} (hC0 : zC p m c cX5_isGood 2 s args wsX5_isGood RX5 D cI cZ) (hQ : zRz p l e rmX5_isGood s m args below meth c cX5_isGood D A (wM a cI cZ) Q r) {S : zS} {x1 : Int32} (hf : fX5_isGood S x1 = some r) {H : Heap} {locs : List Loc} (hP : va_P D vwCl (wM a cI cZ S) H) (hD : va_D A (wM a cI cZ S)) (hS : va_S A s.heap H locs) {ls : Array Slot} (hl : lv_has ls 2 [(0, .ref (a 0)), (1, .int x1)]) : W p l e rmX5_isGood s m args below meth c H locs 0 0 Q (F0 m 0 ls []) := by
  obtain ⟨hC, hK, hN⟩ := id hC0
  obtain ⟨hx, hb, hml, hown, hts⟩ := id hC
  have iw5 := iwX5_isGood_5
  unfold fX5_isGood at hf
  refine lv_aload_n hx hb dX5_isGood_0 rfl (lv_at hl 0 rfl) ?_
  refine gM5_isThere hx hb hts iw5 hown hK hP (List.mem_of_getElem? (i := 1) rfl) dX5_isGood_1 ?_
  refine lv_iload_n hx hb dX5_isGood_4 rfl (lv_at hl 1 rfl) ?_
  refine lM5_isThere hf hx hb hK hP dX5_isGood_5 (fun hf => ?_)
  refine lv_if_eq (tgt := 22) hx hb dX5_isGood_6 (by decide) (fun h_1 => ?_) (fun h_1 => ?_)
  · have hf := zt h_1 hf
    refine lv_iconst (v := (0 : Int32)) hx hb dX5_isGood_22 (by decide) ?_
    exact zrz hf (Or.inl rfl) hQ hP hD hS dX5_isGood_23
  · have hf := zf h_1 hf
    refine lv_aload_n hx hb dX5_isGood_9 rfl (lv_at hl 0 rfl) ?_
    refine gM5_state hx hb hts iw5 hown hK hP (List.mem_of_getElem? (i := 2) rfl) dX5_isGood_10 ?_
    refine lv_iload_n hx hb dX5_isGood_13 rfl (lv_at hl 1 rfl) ?_
    refine lM5_state hf hx hb hK hP dX5_isGood_14 (fun hf => ?_)
    refine lv_if_eq (tgt := 22) hx hb dX5_isGood_15 (by decide) (fun h_2 => ?_) (fun h_2 => ?_)
    · have hf := zt h_2 hf
      refine lv_iconst (v := (0 : Int32)) hx hb dX5_isGood_22 (by decide) ?_
      exact zrz hf (Or.inl rfl) hQ hP hD hS dX5_isGood_23
    · have hf := zf h_2 hf
      refine lv_iconst (v := (1 : Int32)) hx hb dX5_isGood_18 (by decide) ?_
      refine lv_goto (tgt := 23) hx hb dX5_isGood_19 (by decide) ?_
      exact zrz hf (Or.inr rfl) hQ hP hD hS dX5_isGood_23
theorem tX5_isGood {S : zS} {x1 : Int32} {r : Int32 × zS} (hf : fX5_isGood S x1 = some r) : zMi l yX5_isGood wsX5_isGood rmX5_isGood D (zT cI cZ) A (wM a cI cZ) [.ref (a 0), .int x1] S r :=
  zMz_of (by decide) rfl rfl (Nat.le_of_ble_eq_true rfl) (fun hC0 hQ hP hD hS _ hl => kX5_isGood hC0 hQ hf hP hD hS hl)
abbrev rmX5_routers : Room := { frames := 0, cells := 0, slots := 0, locals := 0 }
theorem iwX5_routers_5 : ∀ w ∈ wsX50, w ∈ wsX5_routers := fun _ h => List.mem_cons_of_mem _ (List.mem_append_right _ h)
set_option maxHeartbeats 4000000 in
set_option maxRecDepth 100000 in
theorem kX5_routers_25 {r : Int32 × zS} (hC0 : zC p m c cX5_routers 3 s args wsX5_routers RX5 D cI cZ) (hQ : zRi p l e rmX5_routers s m args below meth c cX5_routers D A (wM a cI cZ) Q r) {F4 : zS → Int32 → Int32 → Option (Int32 × zS)} (hF4 : ∀ (S : zS) (x1 : Int32) (x2 : Int32), F4 S x1 x2 = some r → ∀ {H : Heap} {locs : List Loc}, va_P D vwCl (wM a cI cZ S) H → va_D A (wM a cI cZ S) → va_S A s.heap H locs → ∀ {ls : Array Slot}, lv_has ls 3 [(0, .ref (a 0)), (1, .int x1), (2, .int x2)] → W p l e rmX5_routers s m args below meth c H locs 0 0 Q (F0 m 4 ls [])) {S : zS} {x2 : Int32} {t0 : Int32} {t1 : Int32} (hf : fX5_routers_25 F4 S x2 t0 t1 = some r) {H : Heap} {locs : List Loc} (hP : va_P D vwCl (wM a cI cZ S) H) (hD : va_D A (wM a cI cZ S)) (hS : va_S A s.heap H locs) {ls : Array Slot} (hl : lv_has ls 3 [(0, .ref (a 0)), (2, .int x2)]) : W p l e rmX5_routers s m args below meth c H locs 0 0 Q (F0 m 25 ls [.int t1, .int t0]) := by
  obtain ⟨hC, hK, hN⟩ := id hC0
  obtain ⟨hx, hb, hml, hown, hts⟩ := id hC
  have iw5 := iwX5_routers_5
  unfold fX5_routers_25 at hf
  refine lv_iadd hx hb dX5_routers_25 ?_
  refine z_istore_n hf hx hb (fun y => [(1, .int y), (0, .ref (a 0)), (2, .int x2)]) dX5_routers_26 rfl hl (by decide) (fun _ => rfl) (fun y_1 ls hf hl => ?_)
  refine z_iinc hf hx hb 2 (fun y => [(2, .int y), (1, .int y_1), (0, .ref (a 0))]) dX5_routers_27 hl rfl (by decide) (by decide) (fun _ => rfl) (fun y_2 ls hf hl => ?_)
  refine lv_goto (tgt := 4) hx hb dX5_routers_30 (by decide) ?_
  exact hF4 _ _ _ hf hP hD hS (lv_sub hl [2, 1, 0] rfl)
set_option maxHeartbeats 4000000 in
set_option maxRecDepth 100000 in
theorem kX5_routers_4b {r : Int32 × zS} (hC0 : zC p m c cX5_routers 3 s args wsX5_routers RX5 D cI cZ) (hQ : zRi p l e rmX5_routers s m args below meth c cX5_routers D A (wM a cI cZ) Q r) {F4 : zS → Int32 → Int32 → Option (Int32 × zS)} (hF4 : ∀ (S : zS) (x1 : Int32) (x2 : Int32), F4 S x1 x2 = some r → ∀ {H : Heap} {locs : List Loc}, va_P D vwCl (wM a cI cZ S) H → va_D A (wM a cI cZ S) → va_S A s.heap H locs → ∀ {ls : Array Slot}, lv_has ls 3 [(0, .ref (a 0)), (1, .int x1), (2, .int x2)] → W p l e rmX5_routers s m args below meth c H locs 0 0 Q (F0 m 4 ls [])) {S : zS} {x1 : Int32} {x2 : Int32} (hf : bX5_routers_4 F4 S x1 x2 = some r) {H : Heap} {locs : List Loc} (hP : va_P D vwCl (wM a cI cZ S) H) (hD : va_D A (wM a cI cZ S)) (hS : va_S A s.heap H locs) {ls : Array Slot} (hl : lv_has ls 3 [(0, .ref (a 0)), (1, .int x1), (2, .int x2)]) : W p l e rmX5_routers s m args below meth c H locs 0 0 Q (F0 m 4 ls []) := by
  obtain ⟨hC, hK, hN⟩ := id hC0
  obtain ⟨hx, hb, hml, hown, hts⟩ := id hC
  have iw5 := iwX5_routers_5
  unfold bX5_routers_4 at hf
  refine lv_iload_n hx hb dX5_routers_4 rfl (lv_at hl 2 rfl) ?_
  refine lv_bipush (v := (16 : Int32)) hx hb dX5_routers_5 (by decide) ?_
  refine lv_icmp_ge (tgt := 33) hx hb dX5_routers_7 (by decide) (fun h_1 => ?_) (fun h_1 => ?_)
  · have hf := zt h_1 hf
    refine lv_iload_n hx hb dX5_routers_33 rfl (lv_at hl 1 rfl) ?_
    exact zri hf hQ hP hD hS dX5_routers_34
  · have hf := zf h_1 hf
    refine lv_iload_n hx hb dX5_routers_10 rfl (lv_at hl 1 rfl) ?_
    refine lv_aload_n hx hb dX5_routers_11 rfl (lv_at hl 0 rfl) ?_
    refine gM5_isRouter hx hb hts iw5 hown hK hP (List.mem_of_getElem? (i := 1) rfl) dX5_routers_12 ?_
    refine lv_iload_n hx hb dX5_routers_15 rfl (lv_at hl 2 rfl) ?_
    refine lM5_isRouter hf hx hb hK hP dX5_routers_16 (fun hf => ?_)
    refine lv_if_eq (tgt := 24) hx hb dX5_routers_17 (by decide) (fun h_2 => ?_) (fun h_2 => ?_)
    · have hf := zt h_2 hf
      refine lv_iconst (v := (0 : Int32)) hx hb dX5_routers_24 (by decide) ?_
      exact kX5_routers_25 hC0 hQ hF4 hf hP hD hS (lv_sub hl [0, 2] rfl)
    · have hf := zf h_2 hf
      refine lv_iconst (v := (1 : Int32)) hx hb dX5_routers_20 (by decide) ?_
      refine lv_goto (tgt := 25) hx hb dX5_routers_21 (by decide) ?_
      exact kX5_routers_25 hC0 hQ hF4 hf hP hD hS (lv_sub hl [0, 2] rfl)
theorem kX5_routers_4 {r : Int32 × zS} (hC0 : zC p m c cX5_routers 3 s args wsX5_routers RX5 D cI cZ) (hQ : zRi p l e rmX5_routers s m args below meth c cX5_routers D A (wM a cI cZ) Q r) (n : Nat) : ∀ (S : zS) (x1 : Int32) (x2 : Int32), fX5_routers_4 n S x1 x2 = some r → ∀ {H : Heap} {locs : List Loc}, va_P D vwCl (wM a cI cZ S) H → va_D A (wM a cI cZ S) → va_S A s.heap H locs → ∀ {ls : Array Slot}, lv_has ls 3 [(0, .ref (a 0)), (1, .int x1), (2, .int x2)] → W p l e rmX5_routers s m args below meth c H locs 0 0 Q (F0 m 4 ls []) := by
  induction n with
  | zero => intro S x1 x2 hf; cases hf
  | succ n ih => intro S x1 x2 hf; exact kX5_routers_4b hC0 hQ ih hf
set_option maxHeartbeats 4000000 in
set_option maxRecDepth 100000 in
theorem kX5_routers {r : Int32 × zS} (hC0 : zC p m c cX5_routers 3 s args wsX5_routers RX5 D cI cZ) (hQ : zRi p l e rmX5_routers s m args below meth c cX5_routers D A (wM a cI cZ) Q r) {S : zS} (hf : fX5_routers S = some r) {H : Heap} {locs : List Loc} (hP : va_P D vwCl (wM a cI cZ S) H) (hD : va_D A (wM a cI cZ S)) (hS : va_S A s.heap H locs) {ls : Array Slot} (hl : lv_has ls 3 [(0, .ref (a 0))]) : W p l e rmX5_routers s m args below meth c H locs 0 0 Q (F0 m 0 ls []) := by
  obtain ⟨hC, hK, hN⟩ := id hC0
  obtain ⟨hx, hb, hml, hown, hts⟩ := id hC
  have iw5 := iwX5_routers_5
  unfold fX5_routers at hf
  refine lv_iconst (v := (0 : Int32)) hx hb dX5_routers_0 (by decide) ?_
  refine z_istore_n hf hx hb (fun y => [(1, .int y), (0, .ref (a 0))]) dX5_routers_1 rfl hl (by decide) (fun _ => rfl) (fun y_1 ls hf hl => ?_)
  refine lv_iconst (v := (0 : Int32)) hx hb dX5_routers_2 (by decide) ?_
  refine z_istore_n hf hx hb (fun y => [(2, .int y), (1, .int y_1), (0, .ref (a 0))]) dX5_routers_3 rfl hl (by decide) (fun _ => rfl) (fun y_2 ls hf hl => ?_)
  exact kX5_routers_4 hC0 hQ 64 _ _ _ hf hP hD hS (lv_sub hl [2, 1, 0] rfl)
theorem tX5_routers {S : zS} {r : Int32 × zS} (hf : fX5_routers S = some r) : zMi l yX5_routers wsX5_routers rmX5_routers D (zT cI cZ) A (wM a cI cZ) [.ref (a 0)] S r :=
  zMi_of (by decide) rfl rfl (Nat.le_of_ble_eq_true rfl) (fun hC0 hQ hP hD hS _ hl => kX5_routers hC0 hQ hf hP hD hS hl)
abbrev rmX5_isAhead : Room := { frames := 1, cells := 0, slots := 0, locals := 21 }
theorem iwX5_isAhead_5 : ∀ w ∈ wsX50, w ∈ wsX5_isAhead := fun _ h => List.mem_cons_of_mem _ (List.mem_append_right _ h)
set_option maxHeartbeats 4000000 in
set_option maxRecDepth 100000 in
theorem kX5_isAhead_54 {r : Int32 × zS} (hC0 : zC p m c cX5_isAhead 3 s args wsX5_isAhead RX5 D cI cZ) (hQ : zRz p l e rmX5_isAhead s m args below meth c cX5_isAhead D A (wM a cI cZ) Q r) {S : zS} (hf : fX5_isAhead_54 S = some r) {H : Heap} {locs : List Loc} (hP : va_P D vwCl (wM a cI cZ S) H) (hD : va_D A (wM a cI cZ S)) (hS : va_S A s.heap H locs) {ls : Array Slot} (hl : lv_has ls 3 []) : W p l e rmX5_isAhead s m args below meth c H locs 0 0 Q (F0 m 54 ls []) := by
  obtain ⟨hC, hK, hN⟩ := id hC0
  obtain ⟨hx, hb, hml, hown, hts⟩ := id hC
  have iw5 := iwX5_isAhead_5
  unfold fX5_isAhead_54 at hf
  refine lv_iconst (v := (1 : Int32)) hx hb dX5_isAhead_54 (by decide) ?_
  refine lv_goto (tgt := 59) hx hb dX5_isAhead_55 (by decide) ?_
  exact zrz hf (Or.inr rfl) hQ hP hD hS dX5_isAhead_59
set_option maxHeartbeats 4000000 in
set_option maxRecDepth 100000 in
theorem kX5_isAhead {r : Int32 × zS} (hC0 : zC p m c cX5_isAhead 3 s args wsX5_isAhead RX5 D cI cZ) (hQ : zRz p l e rmX5_isAhead s m args below meth c cX5_isAhead D A (wM a cI cZ) Q r) {S : zS} {x1 : Int32} {x2 : Int32} (hf : fX5_isAhead S x1 x2 = some r) {H : Heap} {locs : List Loc} (hP : va_P D vwCl (wM a cI cZ S) H) (hD : va_D A (wM a cI cZ S)) (hS : va_S A s.heap H locs) {ls : Array Slot} (hl : lv_has ls 3 [(0, .ref (a 0)), (1, .int x1), (2, .int x2)]) : W p l e rmX5_isAhead s m args below meth c H locs 0 0 Q (F0 m 0 ls []) := by
  obtain ⟨hC, hK, hN⟩ := id hC0
  obtain ⟨hx, hb, hml, hown, hts⟩ := id hC
  have iw5 := iwX5_isAhead_5
  unfold fX5_isAhead at hf
  refine lv_aload_n hx hb dX5_isAhead_0 rfl (lv_at hl 0 rfl) ?_
  refine lv_iload_n hx hb dX5_isAhead_1 rfl (lv_at hl 1 rfl) ?_
  obtain ⟨y_1, S_1, hg_1, hf⟩ := obnd_some hf
  refine zci (va_runV (As := [.int x1]) (rest := []) hC (tX5_isGood hg_1) (cwV 1 hts gX5_isAhead_X5_isGood rfl rfl rfl (by decide +kernel) ⟨Nat.le_of_ble_eq_true rfl, Nat.le_of_ble_eq_true rfl⟩) (zpV hP hK hD hN (rM_0 hK hP)) rfl rfl hl.1 rfl (lv_room (Nat.le_of_ble_eq_true rfl)) dX5_isAhead_2 ⟨Nat.zero_le _, Nat.zero_le _⟩) hS (fun H locs hP hD hS => ?_)
  refine lv_aload_n hx hb dX5_isAhead_5 rfl (lv_at hl 0 rfl) ?_
  refine lv_iload_n hx hb dX5_isAhead_6 rfl (lv_at hl 2 rfl) ?_
  obtain ⟨y_2, S_2, hg_2, hf⟩ := obnd_some hf
  refine zci (va_runV (As := [.int x2]) (rest := [.int y_1]) hC (tX5_isGood hg_2) (cwV 1 hts gX5_isAhead_X5_isGood rfl rfl rfl (by decide +kernel) ⟨Nat.le_of_ble_eq_true rfl, Nat.le_of_ble_eq_true rfl⟩) (zpV hP hK hD hN (rM_0 hK hP)) rfl rfl hl.1 rfl (lv_room (Nat.le_of_ble_eq_true rfl)) dX5_isAhead_7 ⟨Nat.zero_le _, Nat.zero_le _⟩) hS (fun H locs hP hD hS => ?_)
  refine lv_icmp_eq (tgt := 19) hx hb dX5_isAhead_10 (by decide) (fun h_1 => ?_) (fun h_1 => ?_)
  · have hf := zt h_1 hf
    refine lv_aload_n hx hb dX5_isAhead_19 rfl (lv_at hl 0 rfl) ?_
    refine gM5_rank hx hb hts iw5 hown hK hP (List.mem_of_getElem? (i := 1) rfl) dX5_isAhead_20 ?_
    refine lv_iload_n hx hb dX5_isAhead_23 rfl (lv_at hl 1 rfl) ?_
    refine lM5_rank hf hx hb hK hP dX5_isAhead_24 (fun hf => ?_)
    refine lv_aload_n hx hb dX5_isAhead_25 rfl (lv_at hl 0 rfl) ?_
    refine gM5_rank hx hb hts iw5 hown hK hP (List.mem_of_getElem? (i := 1) rfl) dX5_isAhead_26 ?_
    refine lv_iload_n hx hb dX5_isAhead_29 rfl (lv_at hl 2 rfl) ?_
    refine lM5_rank hf hx hb hK hP dX5_isAhead_30 (fun hf => ?_)
    refine lv_icmp_gt (tgt := 54) hx hb dX5_isAhead_31 (by decide) (fun h_2 => ?_) (fun h_2 => ?_)
    · have hf := zt h_2 hf
      exact kX5_isAhead_54 hC0 hQ hf hP hD hS (lv_sub hl [] rfl)
    · have hf := zf h_2 hf
      refine lv_aload_n hx hb dX5_isAhead_34 rfl (lv_at hl 0 rfl) ?_
      refine gM5_rank hx hb hts iw5 hown hK hP (List.mem_of_getElem? (i := 1) rfl) dX5_isAhead_35 ?_
      refine lv_iload_n hx hb dX5_isAhead_38 rfl (lv_at hl 1 rfl) ?_
      refine lM5_rank hf hx hb hK hP dX5_isAhead_39 (fun hf => ?_)
      refine lv_aload_n hx hb dX5_isAhead_40 rfl (lv_at hl 0 rfl) ?_
      refine gM5_rank hx hb hts iw5 hown hK hP (List.mem_of_getElem? (i := 1) rfl) dX5_isAhead_41 ?_
      refine lv_iload_n hx hb dX5_isAhead_44 rfl (lv_at hl 2 rfl) ?_
      refine lM5_rank hf hx hb hK hP dX5_isAhead_45 (fun hf => ?_)
      refine lv_icmp_ne (tgt := 58) hx hb dX5_isAhead_46 (by decide) (fun h_3 => ?_) (fun h_3 => ?_)
      · have hf := zf h_3 hf
        refine lv_iconst (v := (0 : Int32)) hx hb dX5_isAhead_58 (by decide) ?_
        exact zrz hf (Or.inl rfl) hQ hP hD hS dX5_isAhead_59
      · have hf := zt h_3 hf
        refine lv_iload_n hx hb dX5_isAhead_49 rfl (lv_at hl 1 rfl) ?_
        refine lv_iload_n hx hb dX5_isAhead_50 rfl (lv_at hl 2 rfl) ?_
        refine lv_icmp_ge (tgt := 58) hx hb dX5_isAhead_51 (by decide) (fun h_4 => ?_) (fun h_4 => ?_)
        · have hf := zt h_4 hf
          refine lv_iconst (v := (0 : Int32)) hx hb dX5_isAhead_58 (by decide) ?_
          exact zrz hf (Or.inl rfl) hQ hP hD hS dX5_isAhead_59
        · have hf := zf h_4 hf
          exact kX5_isAhead_54 hC0 hQ hf hP hD hS (lv_sub hl [] rfl)
  · have hf := zf h_1 hf
    refine lv_aload_n hx hb dX5_isAhead_13 rfl (lv_at hl 0 rfl) ?_
    refine lv_iload_n hx hb dX5_isAhead_14 rfl (lv_at hl 1 rfl) ?_
    obtain ⟨y_3, S_3, hg_3, hf⟩ := obnd_some hf
    refine zci (va_runV (As := [.int x1]) (rest := []) hC (tX5_isGood hg_3) (cwV 1 hts gX5_isAhead_X5_isGood rfl rfl rfl (by decide +kernel) ⟨Nat.le_of_ble_eq_true rfl, Nat.le_of_ble_eq_true rfl⟩) (zpV hP hK hD hN (rM_0 hK hP)) rfl rfl hl.1 rfl (lv_room (Nat.le_of_ble_eq_true rfl)) dX5_isAhead_15 ⟨Nat.zero_le _, Nat.zero_le _⟩) hS (fun H locs hP hD hS => ?_)
    obtain ⟨hz_1, hf⟩ := zbl_some hf
    exact zrz hf hz_1 hQ hP hD hS dX5_isAhead_18
theorem tX5_isAhead {S : zS} {x1 : Int32} {x2 : Int32} {r : Int32 × zS} (hf : fX5_isAhead S x1 x2 = some r) : zMi l yX5_isAhead wsX5_isAhead rmX5_isAhead D (zT cI cZ) A (wM a cI cZ) [.ref (a 0), .int x1, .int x2] S r :=
  zMz_of (by decide) rfl rfl (Nat.le_of_ble_eq_true rfl) (fun hC0 hQ hP hD hS _ hl => kX5_isAhead hC0 hQ hf hP hD hS hl)
abbrev rmX5_placeOf : Room := { frames := 2, cells := 0, slots := 0, locals := 43 }
theorem iwX5_placeOf_5 : ∀ w ∈ wsX50, w ∈ wsX5_placeOf := fun _ h => List.mem_cons_of_mem _ (List.mem_append_right _ h)
set_option maxHeartbeats 4000000 in
set_option maxRecDepth 100000 in
theorem kX5_placeOf_39 {r : Int32 × zS} (hC0 : zC p m c cX5_placeOf 4 s args wsX5_placeOf RX5 D cI cZ) (hQ : zRi p l e rmX5_placeOf s m args below meth c cX5_placeOf D A (wM a cI cZ) Q r) {F4 : zS → Int32 → Int32 → Int32 → Option (Int32 × zS)} (hF4 : ∀ (S : zS) (x1 : Int32) (x2 : Int32) (x3 : Int32), F4 S x1 x2 x3 = some r → ∀ {H : Heap} {locs : List Loc}, va_P D vwCl (wM a cI cZ S) H → va_D A (wM a cI cZ S) → va_S A s.heap H locs → ∀ {ls : Array Slot}, lv_has ls 4 [(0, .ref (a 0)), (1, .int x1), (2, .int x2), (3, .int x3)] → W p l e rmX5_placeOf s m args below meth c H locs 0 0 Q (F0 m 4 ls [])) {S : zS} {x1 : Int32} {x3 : Int32} {t0 : Int32} {t1 : Int32} (hf : fX5_placeOf_39 F4 S x1 x3 t0 t1 = some r) {H : Heap} {locs : List Loc} (hP : va_P D vwCl (wM a cI cZ S) H) (hD : va_D A (wM a cI cZ S)) (hS : va_S A s.heap H locs) {ls : Array Slot} (hl : lv_has ls 4 [(0, .ref (a 0)), (1, .int x1), (3, .int x3)]) : W p l e rmX5_placeOf s m args below meth c H locs 0 0 Q (F0 m 39 ls [.int t1, .int t0]) := by
  obtain ⟨hC, hK, hN⟩ := id hC0
  obtain ⟨hx, hb, hml, hown, hts⟩ := id hC
  have iw5 := iwX5_placeOf_5
  unfold fX5_placeOf_39 at hf
  refine lv_iadd hx hb dX5_placeOf_39 ?_
  refine z_istore_n hf hx hb (fun y => [(2, .int y), (0, .ref (a 0)), (1, .int x1), (3, .int x3)]) dX5_placeOf_40 rfl hl (by decide) (fun _ => rfl) (fun y_1 ls hf hl => ?_)
  refine z_iinc hf hx hb 3 (fun y => [(3, .int y), (2, .int y_1), (0, .ref (a 0)), (1, .int x1)]) dX5_placeOf_41 hl rfl (by decide) (by decide) (fun _ => rfl) (fun y_2 ls hf hl => ?_)
  refine lv_goto (tgt := 4) hx hb dX5_placeOf_44 (by decide) ?_
  exact hF4 _ _ _ _ hf hP hD hS (lv_sub hl [2, 3, 1, 0] rfl)
set_option maxHeartbeats 4000000 in
set_option maxRecDepth 100000 in
theorem kX5_placeOf_38 {r : Int32 × zS} (hC0 : zC p m c cX5_placeOf 4 s args wsX5_placeOf RX5 D cI cZ) (hQ : zRi p l e rmX5_placeOf s m args below meth c cX5_placeOf D A (wM a cI cZ) Q r) {F4 : zS → Int32 → Int32 → Int32 → Option (Int32 × zS)} (hF4 : ∀ (S : zS) (x1 : Int32) (x2 : Int32) (x3 : Int32), F4 S x1 x2 x3 = some r → ∀ {H : Heap} {locs : List Loc}, va_P D vwCl (wM a cI cZ S) H → va_D A (wM a cI cZ S) → va_S A s.heap H locs → ∀ {ls : Array Slot}, lv_has ls 4 [(0, .ref (a 0)), (1, .int x1), (2, .int x2), (3, .int x3)] → W p l e rmX5_placeOf s m args below meth c H locs 0 0 Q (F0 m 4 ls [])) {S : zS} {x1 : Int32} {x3 : Int32} {t0 : Int32} (hf : fX5_placeOf_38 F4 S x1 x3 t0 = some r) {H : Heap} {locs : List Loc} (hP : va_P D vwCl (wM a cI cZ S) H) (hD : va_D A (wM a cI cZ S)) (hS : va_S A s.heap H locs) {ls : Array Slot} (hl : lv_has ls 4 [(0, .ref (a 0)), (1, .int x1), (3, .int x3)]) : W p l e rmX5_placeOf s m args below meth c H locs 0 0 Q (F0 m 38 ls [.int t0]) := by
  obtain ⟨hC, hK, hN⟩ := id hC0
  obtain ⟨hx, hb, hml, hown, hts⟩ := id hC
  have iw5 := iwX5_placeOf_5
  unfold fX5_placeOf_38 at hf
  refine lv_iconst (v := (0 : Int32)) hx hb dX5_placeOf_38 (by decide) ?_
  exact kX5_placeOf_39 hC0 hQ hF4 hf hP hD hS (lv_sub hl [0, 1, 2] rfl)
set_option maxHeartbeats 4000000 in
set_option maxRecDepth 100000 in
theorem kX5_placeOf_4b {r : Int32 × zS} (hC0 : zC p m c cX5_placeOf 4 s args wsX5_placeOf RX5 D cI cZ) (hQ : zRi p l e rmX5_placeOf s m args below meth c cX5_placeOf D A (wM a cI cZ) Q r) {F4 : zS → Int32 → Int32 → Int32 → Option (Int32 × zS)} (hF4 : ∀ (S : zS) (x1 : Int32) (x2 : Int32) (x3 : Int32), F4 S x1 x2 x3 = some r → ∀ {H : Heap} {locs : List Loc}, va_P D vwCl (wM a cI cZ S) H → va_D A (wM a cI cZ S) → va_S A s.heap H locs → ∀ {ls : Array Slot}, lv_has ls 4 [(0, .ref (a 0)), (1, .int x1), (2, .int x2), (3, .int x3)] → W p l e rmX5_placeOf s m args below meth c H locs 0 0 Q (F0 m 4 ls [])) {S : zS} {x1 : Int32} {x2 : Int32} {x3 : Int32} (hf : bX5_placeOf_4 F4 S x1 x2 x3 = some r) {H : Heap} {locs : List Loc} (hP : va_P D vwCl (wM a cI cZ S) H) (hD : va_D A (wM a cI cZ S)) (hS : va_S A s.heap H locs) {ls : Array Slot} (hl : lv_has ls 4 [(0, .ref (a 0)), (1, .int x1), (2, .int x2), (3, .int x3)]) : W p l e rmX5_placeOf s m args below meth c H locs 0 0 Q (F0 m 4 ls []) := by
  obtain ⟨hC, hK, hN⟩ := id hC0
  obtain ⟨hx, hb, hml, hown, hts⟩ := id hC
  have iw5 := iwX5_placeOf_5
  unfold bX5_placeOf_4 at hf
  refine lv_iload_n hx hb dX5_placeOf_4 rfl (lv_at hl 3 rfl) ?_
  refine lv_bipush (v := (16 : Int32)) hx hb dX5_placeOf_5 (by decide) ?_
  refine lv_icmp_ge (tgt := 47) hx hb dX5_placeOf_7 (by decide) (fun h_1 => ?_) (fun h_1 => ?_)
  · have hf := zt h_1 hf
    refine lv_iload_n hx hb dX5_placeOf_47 rfl (lv_at hl 2 rfl) ?_
    exact zri hf hQ hP hD hS dX5_placeOf_48
  · have hf := zf h_1 hf
    refine lv_iload_n hx hb dX5_placeOf_10 rfl (lv_at hl 2 rfl) ?_
    refine lv_aload_n hx hb dX5_placeOf_11 rfl (lv_at hl 0 rfl) ?_
    refine gM5_isRouter hx hb hts iw5 hown hK hP (List.mem_of_getElem? (i := 1) rfl) dX5_placeOf_12 ?_
    refine lv_iload_n hx hb dX5_placeOf_15 rfl (lv_at hl 3 rfl) ?_
    refine lM5_isRouter hf hx hb hK hP dX5_placeOf_16 (fun hf => ?_)
    refine lv_if_eq (tgt := 38) hx hb dX5_placeOf_17 (by decide) (fun h_2 => ?_) (fun h_2 => ?_)
    · have hf := zt h_2 hf
      exact kX5_placeOf_38 hC0 hQ hF4 hf hP hD hS (lv_sub hl [0, 1, 3] rfl)
    · have hf := zf h_2 hf
      refine lv_iload_n hx hb dX5_placeOf_20 rfl (lv_at hl 3 rfl) ?_
      refine lv_iload_n hx hb dX5_placeOf_21 rfl (lv_at hl 1 rfl) ?_
      refine lv_icmp_eq (tgt := 38) hx hb dX5_placeOf_22 (by decide) (fun h_3 => ?_) (fun h_3 => ?_)
      · have hf := zt h_3 hf
        exact kX5_placeOf_38 hC0 hQ hF4 hf hP hD hS (lv_sub hl [0, 1, 3] rfl)
      · have hf := zf h_3 hf
        refine lv_aload_n hx hb dX5_placeOf_25 rfl (lv_at hl 0 rfl) ?_
        refine lv_iload_n hx hb dX5_placeOf_26 rfl (lv_at hl 3 rfl) ?_
        refine lv_iload_n hx hb dX5_placeOf_27 rfl (lv_at hl 1 rfl) ?_
        obtain ⟨y_1, S_1, hg_1, hf⟩ := obnd_some hf
        refine zci (va_runV (As := [.int x3, .int x1]) (rest := [.int x2]) hC (tX5_isAhead hg_1) (cwV 2 hts gX5_placeOf_X5_isAhead rfl rfl rfl (by decide +kernel) ⟨Nat.le_of_ble_eq_true rfl, Nat.le_of_ble_eq_true rfl⟩) (zpV hP hK hD hN (rM_0 hK hP)) rfl rfl hl.1 rfl (lv_room (Nat.le_of_ble_eq_true rfl)) dX5_placeOf_28 ⟨Nat.zero_le _, Nat.zero_le _⟩) hS (fun H locs hP hD hS => ?_)
        refine lv_if_eq (tgt := 38) hx hb dX5_placeOf_31 (by decide) (fun h_4 => ?_) (fun h_4 => ?_)
        · have hf := zt h_4 hf
          exact kX5_placeOf_38 hC0 hQ hF4 hf hP hD hS (lv_sub hl [0, 1, 3] rfl)
        · have hf := zf h_4 hf
          refine lv_iconst (v := (1 : Int32)) hx hb dX5_placeOf_34 (by decide) ?_
          refine lv_goto (tgt := 39) hx hb dX5_placeOf_35 (by decide) ?_
          exact kX5_placeOf_39 hC0 hQ hF4 hf hP hD hS (lv_sub hl [0, 1, 3] rfl)
theorem kX5_placeOf_4 {r : Int32 × zS} (hC0 : zC p m c cX5_placeOf 4 s args wsX5_placeOf RX5 D cI cZ) (hQ : zRi p l e rmX5_placeOf s m args below meth c cX5_placeOf D A (wM a cI cZ) Q r) (n : Nat) : ∀ (S : zS) (x1 : Int32) (x2 : Int32) (x3 : Int32), fX5_placeOf_4 n S x1 x2 x3 = some r → ∀ {H : Heap} {locs : List Loc}, va_P D vwCl (wM a cI cZ S) H → va_D A (wM a cI cZ S) → va_S A s.heap H locs → ∀ {ls : Array Slot}, lv_has ls 4 [(0, .ref (a 0)), (1, .int x1), (2, .int x2), (3, .int x3)] → W p l e rmX5_placeOf s m args below meth c H locs 0 0 Q (F0 m 4 ls []) := by
  induction n with
  | zero => intro S x1 x2 x3 hf; cases hf
  | succ n ih => intro S x1 x2 x3 hf; exact kX5_placeOf_4b hC0 hQ ih hf
set_option maxHeartbeats 4000000 in
set_option maxRecDepth 100000 in
theorem kX5_placeOf {r : Int32 × zS} (hC0 : zC p m c cX5_placeOf 4 s args wsX5_placeOf RX5 D cI cZ) (hQ : zRi p l e rmX5_placeOf s m args below meth c cX5_placeOf D A (wM a cI cZ) Q r) {S : zS} {x1 : Int32} (hf : fX5_placeOf S x1 = some r) {H : Heap} {locs : List Loc} (hP : va_P D vwCl (wM a cI cZ S) H) (hD : va_D A (wM a cI cZ S)) (hS : va_S A s.heap H locs) {ls : Array Slot} (hl : lv_has ls 4 [(0, .ref (a 0)), (1, .int x1)]) : W p l e rmX5_placeOf s m args below meth c H locs 0 0 Q (F0 m 0 ls []) := by
  obtain ⟨hC, hK, hN⟩ := id hC0
  obtain ⟨hx, hb, hml, hown, hts⟩ := id hC
  have iw5 := iwX5_placeOf_5
  unfold fX5_placeOf at hf
  refine lv_iconst (v := (0 : Int32)) hx hb dX5_placeOf_0 (by decide) ?_
  refine z_istore_n hf hx hb (fun y => [(2, .int y), (0, .ref (a 0)), (1, .int x1)]) dX5_placeOf_1 rfl hl (by decide) (fun _ => rfl) (fun y_1 ls hf hl => ?_)
  refine lv_iconst (v := (0 : Int32)) hx hb dX5_placeOf_2 (by decide) ?_
  refine z_istore_n hf hx hb (fun y => [(3, .int y), (2, .int y_1), (0, .ref (a 0)), (1, .int x1)]) dX5_placeOf_3 rfl hl (by decide) (fun _ => rfl) (fun y_2 ls hf hl => ?_)
  exact kX5_placeOf_4 hC0 hQ 64 _ _ _ _ hf hP hD hS (lv_sub hl [2, 3, 1, 0] rfl)
theorem tX5_placeOf {S : zS} {x1 : Int32} {r : Int32 × zS} (hf : fX5_placeOf S x1 = some r) : zMi l yX5_placeOf wsX5_placeOf rmX5_placeOf D (zT cI cZ) A (wM a cI cZ) [.ref (a 0), .int x1] S r :=
  zMi_of (by decide) rfl rfl (Nat.le_of_ble_eq_true rfl) (fun hC0 hQ hP hD hS _ hl => kX5_placeOf hC0 hQ hf hP hD hS hl)
abbrev rmX5_routerAt : Room := { frames := 3, cells := 0, slots := 0, locals := 66 }
theorem iwX5_routerAt_5 : ∀ w ∈ wsX50, w ∈ wsX5_routerAt := fun _ h => List.mem_cons_of_mem _ (List.mem_append_right _ h)
set_option maxHeartbeats 4000000 in
set_option maxRecDepth 100000 in
theorem kX5_routerAt_20 {r : Int32 × zS} (hC0 : zC p m c cX5_routerAt 3 s args wsX5_routerAt RX5 D cI cZ) (hQ : zRi p l e rmX5_routerAt s m args below meth c cX5_routerAt D A (wM a cI cZ) Q r) {F2 : zS → Int32 → Int32 → Option (Int32 × zS)} (hF2 : ∀ (S : zS) (x1 : Int32) (x2 : Int32), F2 S x1 x2 = some r → ∀ {H : Heap} {locs : List Loc}, va_P D vwCl (wM a cI cZ S) H → va_D A (wM a cI cZ S) → va_S A s.heap H locs → ∀ {ls : Array Slot}, lv_has ls 3 [(0, .ref (a 0)), (1, .int x1), (2, .int x2)] → W p l e rmX5_routerAt s m args below meth c H locs 0 0 Q (F0 m 2 ls [])) {S : zS} {x1 : Int32} {x2 : Int32} (hf : fX5_routerAt_20 F2 S x1 x2 = some r) {H : Heap} {locs : List Loc} (hP : va_P D vwCl (wM a cI cZ S) H) (hD : va_D A (wM a cI cZ S)) (hS : va_S A s.heap H locs) {ls : Array Slot} (hl : lv_has ls 3 [(0, .ref (a 0)), (1, .int x1), (2, .int x2)]) : W p l e rmX5_routerAt s m args below meth c H locs 0 0 Q (F0 m 20 ls []) := by
  obtain ⟨hC, hK, hN⟩ := id hC0
  obtain ⟨hx, hb, hml, hown, hts⟩ := id hC
  have iw5 := iwX5_routerAt_5
  unfold fX5_routerAt_20 at hf
  refine z_iinc hf hx hb 2 (fun y => [(2, .int y), (0, .ref (a 0)), (1, .int x1)]) dX5_routerAt_20 hl rfl (by decide) (by decide) (fun _ => rfl) (fun y_1 ls hf hl => ?_)
  refine lv_goto (tgt := 2) hx hb dX5_routerAt_23 (by decide) ?_
  exact hF2 _ _ _ hf hP hD hS (lv_sub hl [1, 2, 0] rfl)
set_option maxHeartbeats 4000000 in
set_option maxRecDepth 100000 in
theorem kX5_routerAt_2b {r : Int32 × zS} (hC0 : zC p m c cX5_routerAt 3 s args wsX5_routerAt RX5 D cI cZ) (hQ : zRi p l e rmX5_routerAt s m args below meth c cX5_routerAt D A (wM a cI cZ) Q r) {F2 : zS → Int32 → Int32 → Option (Int32 × zS)} (hF2 : ∀ (S : zS) (x1 : Int32) (x2 : Int32), F2 S x1 x2 = some r → ∀ {H : Heap} {locs : List Loc}, va_P D vwCl (wM a cI cZ S) H → va_D A (wM a cI cZ S) → va_S A s.heap H locs → ∀ {ls : Array Slot}, lv_has ls 3 [(0, .ref (a 0)), (1, .int x1), (2, .int x2)] → W p l e rmX5_routerAt s m args below meth c H locs 0 0 Q (F0 m 2 ls [])) {S : zS} {x1 : Int32} {x2 : Int32} (hf : bX5_routerAt_2 F2 S x1 x2 = some r) {H : Heap} {locs : List Loc} (hP : va_P D vwCl (wM a cI cZ S) H) (hD : va_D A (wM a cI cZ S)) (hS : va_S A s.heap H locs) {ls : Array Slot} (hl : lv_has ls 3 [(0, .ref (a 0)), (1, .int x1), (2, .int x2)]) : W p l e rmX5_routerAt s m args below meth c H locs 0 0 Q (F0 m 2 ls []) := by
  obtain ⟨hC, hK, hN⟩ := id hC0
  obtain ⟨hx, hb, hml, hown, hts⟩ := id hC
  have iw5 := iwX5_routerAt_5
  unfold bX5_routerAt_2 at hf
  refine lv_aload_n hx hb dX5_routerAt_2 rfl (lv_at hl 0 rfl) ?_
  refine gM5_isRouter hx hb hts iw5 hown hK hP (List.mem_of_getElem? (i := 1) rfl) dX5_routerAt_3 ?_
  refine lv_iload_n hx hb dX5_routerAt_6 rfl (lv_at hl 2 rfl) ?_
  refine lM5_isRouter hf hx hb hK hP dX5_routerAt_7 (fun hf => ?_)
  refine lv_if_eq (tgt := 20) hx hb dX5_routerAt_8 (by decide) (fun h_1 => ?_) (fun h_1 => ?_)
  · have hf := zt h_1 hf
    exact kX5_routerAt_20 hC0 hQ hF2 hf hP hD hS (lv_sub hl [0, 1, 2] rfl)
  · have hf := zf h_1 hf
    refine lv_aload_n hx hb dX5_routerAt_11 rfl (lv_at hl 0 rfl) ?_
    refine lv_iload_n hx hb dX5_routerAt_12 rfl (lv_at hl 2 rfl) ?_
    obtain ⟨y_1, S_1, hg_1, hf⟩ := obnd_some hf
    refine zci (va_runV (As := [.int x2]) (rest := []) hC (tX5_placeOf hg_1) (cwV 1 hts gX5_routerAt_X5_placeOf rfl rfl rfl (by decide +kernel) ⟨Nat.le_of_ble_eq_true rfl, Nat.le_of_ble_eq_true rfl⟩) (zpV hP hK hD hN (rM_0 hK hP)) rfl rfl hl.1 rfl (lv_room (Nat.le_of_ble_eq_true rfl)) dX5_routerAt_13 ⟨Nat.zero_le _, Nat.zero_le _⟩) hS (fun H locs hP hD hS => ?_)
    refine lv_iload_n hx hb dX5_routerAt_16 rfl (lv_at hl 1 rfl) ?_
    refine lv_icmp_eq (tgt := 26) hx hb dX5_routerAt_17 (by decide) (fun h_2 => ?_) (fun h_2 => ?_)
    · have hf := zt h_2 hf
      refine lv_iload_n hx hb dX5_routerAt_26 rfl (lv_at hl 2 rfl) ?_
      exact zri hf hQ hP hD hS dX5_routerAt_27
    · have hf := zf h_2 hf
      exact kX5_routerAt_20 hC0 hQ hF2 hf hP hD hS (lv_sub hl [0, 1, 2] rfl)
theorem kX5_routerAt_2 {r : Int32 × zS} (hC0 : zC p m c cX5_routerAt 3 s args wsX5_routerAt RX5 D cI cZ) (hQ : zRi p l e rmX5_routerAt s m args below meth c cX5_routerAt D A (wM a cI cZ) Q r) (n : Nat) : ∀ (S : zS) (x1 : Int32) (x2 : Int32), fX5_routerAt_2 n S x1 x2 = some r → ∀ {H : Heap} {locs : List Loc}, va_P D vwCl (wM a cI cZ S) H → va_D A (wM a cI cZ S) → va_S A s.heap H locs → ∀ {ls : Array Slot}, lv_has ls 3 [(0, .ref (a 0)), (1, .int x1), (2, .int x2)] → W p l e rmX5_routerAt s m args below meth c H locs 0 0 Q (F0 m 2 ls []) := by
  induction n with
  | zero => intro S x1 x2 hf; cases hf
  | succ n ih => intro S x1 x2 hf; exact kX5_routerAt_2b hC0 hQ ih hf
set_option maxHeartbeats 4000000 in
set_option maxRecDepth 100000 in
theorem kX5_routerAt {r : Int32 × zS} (hC0 : zC p m c cX5_routerAt 3 s args wsX5_routerAt RX5 D cI cZ) (hQ : zRi p l e rmX5_routerAt s m args below meth c cX5_routerAt D A (wM a cI cZ) Q r) {S : zS} {x1 : Int32} (hf : fX5_routerAt S x1 = some r) {H : Heap} {locs : List Loc} (hP : va_P D vwCl (wM a cI cZ S) H) (hD : va_D A (wM a cI cZ S)) (hS : va_S A s.heap H locs) {ls : Array Slot} (hl : lv_has ls 3 [(0, .ref (a 0)), (1, .int x1)]) : W p l e rmX5_routerAt s m args below meth c H locs 0 0 Q (F0 m 0 ls []) := by
  obtain ⟨hC, hK, hN⟩ := id hC0
  obtain ⟨hx, hb, hml, hown, hts⟩ := id hC
  have iw5 := iwX5_routerAt_5
  unfold fX5_routerAt at hf
  refine lv_iconst (v := (0 : Int32)) hx hb dX5_routerAt_0 (by decide) ?_
  refine z_istore_n hf hx hb (fun y => [(2, .int y), (0, .ref (a 0)), (1, .int x1)]) dX5_routerAt_1 rfl hl (by decide) (fun _ => rfl) (fun y_1 ls hf hl => ?_)
  exact kX5_routerAt_2 hC0 hQ 64 _ _ _ hf hP hD hS (lv_sub hl [1, 2, 0] rfl)
theorem tX5_routerAt {S : zS} {x1 : Int32} {r : Int32 × zS} (hf : fX5_routerAt S x1 = some r) : zMi l yX5_routerAt wsX5_routerAt rmX5_routerAt D (zT cI cZ) A (wM a cI cZ) [.ref (a 0), .int x1] S r :=
  zMi_of (by decide) rfl rfl (Nat.le_of_ble_eq_true rfl) (fun hC0 hQ hP hD hS _ hl => kX5_routerAt hC0 hQ hf hP hD hS hl)
abbrev rmX5_inTurn : Room := { frames := 0, cells := 0, slots := 0, locals := 0 }
theorem iwX5_inTurn_5 : ∀ w ∈ wsX50, w ∈ wsX5_inTurn := fun _ h => List.mem_cons_of_mem _ (List.mem_append_right _ h)
set_option maxHeartbeats 4000000 in
set_option maxRecDepth 100000 in
theorem kX5_inTurn_56 {r : Int32 × zS} (hC0 : zC p m c cX5_inTurn 4 s args wsX5_inTurn RX5 D cI cZ) (hQ : zRi p l e rmX5_inTurn s m args below meth c cX5_inTurn D A (wM a cI cZ) Q r) {F7 : zS → Int32 → Int32 → Int32 → Option (Int32 × zS)} (hF7 : ∀ (S : zS) (x1 : Int32) (x2 : Int32) (x3 : Int32), F7 S x1 x2 x3 = some r → ∀ {H : Heap} {locs : List Loc}, va_P D vwCl (wM a cI cZ S) H → va_D A (wM a cI cZ S) → va_S A s.heap H locs → ∀ {ls : Array Slot}, lv_has ls 4 [(0, .ref (a 0)), (1, .int x1), (2, .int x2), (3, .int x3)] → W p l e rmX5_inTurn s m args below meth c H locs 0 0 Q (F0 m 7 ls [])) {S : zS} {x1 : Int32} {x3 : Int32} {t0 : Int32} (hf : fX5_inTurn_56 F7 S x1 x3 t0 = some r) {H : Heap} {locs : List Loc} (hP : va_P D vwCl (wM a cI cZ S) H) (hD : va_D A (wM a cI cZ S)) (hS : va_S A s.heap H locs) {ls : Array Slot} (hl : lv_has ls 4 [(0, .ref (a 0)), (1, .int x1), (3, .int x3)]) : W p l e rmX5_inTurn s m args below meth c H locs 0 0 Q (F0 m 56 ls [.int t0]) := by
  obtain ⟨hC, hK, hN⟩ := id hC0
  obtain ⟨hx, hb, hml, hown, hts⟩ := id hC
  have iw5 := iwX5_inTurn_5
  unfold fX5_inTurn_56 at hf
  refine z_istore_n hf hx hb (fun y => [(2, .int y), (0, .ref (a 0)), (1, .int x1), (3, .int x3)]) dX5_inTurn_56 rfl hl (by decide) (fun _ => rfl) (fun y_1 ls hf hl => ?_)
  refine z_iinc hf hx hb 3 (fun y => [(3, .int y), (2, .int y_1), (0, .ref (a 0)), (1, .int x1)]) dX5_inTurn_57 hl rfl (by decide) (by decide) (fun _ => rfl) (fun y_2 ls hf hl => ?_)
  refine lv_goto (tgt := 7) hx hb dX5_inTurn_60 (by decide) ?_
  exact hF7 _ _ _ _ hf hP hD hS (lv_sub hl [2, 3, 1, 0] rfl)
set_option maxHeartbeats 4000000 in
set_option maxRecDepth 100000 in
theorem kX5_inTurn_55 {r : Int32 × zS} (hC0 : zC p m c cX5_inTurn 4 s args wsX5_inTurn RX5 D cI cZ) (hQ : zRi p l e rmX5_inTurn s m args below meth c cX5_inTurn D A (wM a cI cZ) Q r) {F7 : zS → Int32 → Int32 → Int32 → Option (Int32 × zS)} (hF7 : ∀ (S : zS) (x1 : Int32) (x2 : Int32) (x3 : Int32), F7 S x1 x2 x3 = some r → ∀ {H : Heap} {locs : List Loc}, va_P D vwCl (wM a cI cZ S) H → va_D A (wM a cI cZ S) → va_S A s.heap H locs → ∀ {ls : Array Slot}, lv_has ls 4 [(0, .ref (a 0)), (1, .int x1), (2, .int x2), (3, .int x3)] → W p l e rmX5_inTurn s m args below meth c H locs 0 0 Q (F0 m 7 ls [])) {S : zS} {x1 : Int32} {x2 : Int32} {x3 : Int32} (hf : fX5_inTurn_55 F7 S x1 x2 x3 = some r) {H : Heap} {locs : List Loc} (hP : va_P D vwCl (wM a cI cZ S) H) (hD : va_D A (wM a cI cZ S)) (hS : va_S A s.heap H locs) {ls : Array Slot} (hl : lv_has ls 4 [(0, .ref (a 0)), (1, .int x1), (2, .int x2), (3, .int x3)]) : W p l e rmX5_inTurn s m args below meth c H locs 0 0 Q (F0 m 55 ls []) := by
  obtain ⟨hC, hK, hN⟩ := id hC0
  obtain ⟨hx, hb, hml, hown, hts⟩ := id hC
  have iw5 := iwX5_inTurn_5
  unfold fX5_inTurn_55 at hf
  refine lv_iload_n hx hb dX5_inTurn_55 rfl (lv_at hl 2 rfl) ?_
  exact kX5_inTurn_56 hC0 hQ hF7 hf hP hD hS (lv_sub hl [0, 1, 3] rfl)
set_option maxHeartbeats 4000000 in
set_option maxRecDepth 100000 in
theorem kX5_inTurn_25 {r : Int32 × zS} (hC0 : zC p m c cX5_inTurn 4 s args wsX5_inTurn RX5 D cI cZ) (hQ : zRi p l e rmX5_inTurn s m args below meth c cX5_inTurn D A (wM a cI cZ) Q r) {F7 : zS → Int32 → Int32 → Int32 → Option (Int32 × zS)} (hF7 : ∀ (S : zS) (x1 : Int32) (x2 : Int32) (x3 : Int32), F7 S x1 x2 x3 = some r → ∀ {H : Heap} {locs : List Loc}, va_P D vwCl (wM a cI cZ S) H → va_D A (wM a cI cZ S) → va_S A s.heap H locs → ∀ {ls : Array Slot}, lv_has ls 4 [(0, .ref (a 0)), (1, .int x1), (2, .int x2), (3, .int x3)] → W p l e rmX5_inTurn s m args below meth c H locs 0 0 Q (F0 m 7 ls [])) {S : zS} {x2 : Int32} {x3 : Int32} {t0 : Int32} (hf : fX5_inTurn_25 F7 S x2 x3 t0 = some r) {H : Heap} {locs : List Loc} (hP : va_P D vwCl (wM a cI cZ S) H) (hD : va_D A (wM a cI cZ S)) (hS : va_S A s.heap H locs) {ls : Array Slot} (hl : lv_has ls 4 [(0, .ref (a 0)), (2, .int x2), (3, .int x3)]) : W p l e rmX5_inTurn s m args below meth c H locs 0 0 Q (F0 m 25 ls [.int t0]) := by
  obtain ⟨hC, hK, hN⟩ := id hC0
  obtain ⟨hx, hb, hml, hown, hts⟩ := id hC
  have iw5 := iwX5_inTurn_5
  unfold fX5_inTurn_25 at hf
  refine z_istore_n hf hx hb (fun y => [(1, .int y), (0, .ref (a 0)), (2, .int x2), (3, .int x3)]) dX5_inTurn_25 rfl hl (by decide) (fun _ => rfl) (fun y_1 ls hf hl => ?_)
  refine lv_aload_n hx hb dX5_inTurn_26 rfl (lv_at hl 1 rfl) ?_
  refine gM5_isRouter hx hb hts iw5 hown hK hP (List.mem_of_getElem? (i := 1) rfl) dX5_inTurn_27 ?_
  refine lv_iload_n hx hb dX5_inTurn_30 rfl (lv_at hl 3 rfl) ?_
  refine lM5_isRouter hf hx hb hK hP dX5_inTurn_31 (fun hf => ?_)
  refine lv_if_eq (tgt := 55) hx hb dX5_inTurn_32 (by decide) (fun h_1 => ?_) (fun h_1 => ?_)
  · have hf := zt h_1 hf
    exact kX5_inTurn_55 hC0 hQ hF7 hf hP hD hS (lv_sub hl [1, 0, 2, 3] rfl)
  · have hf := zf h_1 hf
    refine lv_aload_n hx hb dX5_inTurn_35 rfl (lv_at hl 1 rfl) ?_
    refine gM5_turn hx hb hts iw5 hown hK hP (List.mem_of_getElem? (i := 2) rfl) dX5_inTurn_36 ?_
    refine lv_iconst (v := (-1 : Int32)) hx hb dX5_inTurn_39 (by decide) ?_
    refine lv_icmp_eq (tgt := 55) hx hb dX5_inTurn_40 (by decide) (fun h_2 => ?_) (fun h_2 => ?_)
    · have hf := zt h_2 hf
      exact kX5_inTurn_55 hC0 hQ hF7 hf hP hD hS (lv_sub hl [1, 0, 2, 3] rfl)
    · have hf := zf h_2 hf
      refine lv_iload_n hx hb dX5_inTurn_43 rfl (lv_at hl 3 rfl) ?_
      refine lv_aload_n hx hb dX5_inTurn_44 rfl (lv_at hl 1 rfl) ?_
      refine gM5_turn hx hb hts iw5 hown hK hP (List.mem_of_getElem? (i := 2) rfl) dX5_inTurn_45 ?_
      refine lv_icmp_le (tgt := 55) hx hb dX5_inTurn_48 (by decide) (fun h_3 => ?_) (fun h_3 => ?_)
      · have hf := zt h_3 hf
        exact kX5_inTurn_55 hC0 hQ hF7 hf hP hD hS (lv_sub hl [1, 0, 2, 3] rfl)
      · have hf := zf h_3 hf
        refine lv_iload_n hx hb dX5_inTurn_51 rfl (lv_at hl 3 rfl) ?_
        refine lv_goto (tgt := 56) hx hb dX5_inTurn_52 (by decide) ?_
        exact kX5_inTurn_56 hC0 hQ hF7 hf hP hD hS (lv_sub hl [1, 0, 3] rfl)
set_option maxHeartbeats 4000000 in
set_option maxRecDepth 100000 in
theorem kX5_inTurn_7b {r : Int32 × zS} (hC0 : zC p m c cX5_inTurn 4 s args wsX5_inTurn RX5 D cI cZ) (hQ : zRi p l e rmX5_inTurn s m args below meth c cX5_inTurn D A (wM a cI cZ) Q r) {F7 : zS → Int32 → Int32 → Int32 → Option (Int32 × zS)} (hF7 : ∀ (S : zS) (x1 : Int32) (x2 : Int32) (x3 : Int32), F7 S x1 x2 x3 = some r → ∀ {H : Heap} {locs : List Loc}, va_P D vwCl (wM a cI cZ S) H → va_D A (wM a cI cZ S) → va_S A s.heap H locs → ∀ {ls : Array Slot}, lv_has ls 4 [(0, .ref (a 0)), (1, .int x1), (2, .int x2), (3, .int x3)] → W p l e rmX5_inTurn s m args below meth c H locs 0 0 Q (F0 m 7 ls [])) {S : zS} {x1 : Int32} {x2 : Int32} {x3 : Int32} (hf : bX5_inTurn_7 F7 S x1 x2 x3 = some r) {H : Heap} {locs : List Loc} (hP : va_P D vwCl (wM a cI cZ S) H) (hD : va_D A (wM a cI cZ S)) (hS : va_S A s.heap H locs) {ls : Array Slot} (hl : lv_has ls 4 [(0, .ref (a 0)), (1, .int x1), (2, .int x2), (3, .int x3)]) : W p l e rmX5_inTurn s m args below meth c H locs 0 0 Q (F0 m 7 ls []) := by
  obtain ⟨hC, hK, hN⟩ := id hC0
  obtain ⟨hx, hb, hml, hown, hts⟩ := id hC
  have iw5 := iwX5_inTurn_5
  unfold bX5_inTurn_7 at hf
  refine lv_iload_n hx hb dX5_inTurn_7 rfl (lv_at hl 3 rfl) ?_
  refine lv_if_lt (tgt := 63) hx hb dX5_inTurn_8 (by decide) (fun h_1 => ?_) (fun h_1 => ?_)
  · have hf := zt h_1 hf
    refine lv_iload_n hx hb dX5_inTurn_63 rfl (lv_at hl 2 rfl) ?_
    refine lv_iconst (v := (-1 : Int32)) hx hb dX5_inTurn_64 (by decide) ?_
    refine lv_icmp_ne (tgt := 72) hx hb dX5_inTurn_65 (by decide) (fun h_2 => ?_) (fun h_2 => ?_)
    · have hf := zf h_2 hf
      refine lv_iload_n hx hb dX5_inTurn_72 rfl (lv_at hl 2 rfl) ?_
      exact zri hf hQ hP hD hS dX5_inTurn_73
    · have hf := zt h_2 hf
      refine lv_iload_n hx hb dX5_inTurn_68 rfl (lv_at hl 1 rfl) ?_
      refine lv_goto (tgt := 73) hx hb dX5_inTurn_69 (by decide) ?_
      exact zri hf hQ hP hD hS dX5_inTurn_73
  · have hf := zf h_1 hf
    refine lv_aload_n hx hb dX5_inTurn_11 rfl (lv_at hl 0 rfl) ?_
    refine gM5_isRouter hx hb hts iw5 hown hK hP (List.mem_of_getElem? (i := 1) rfl) dX5_inTurn_12 ?_
    refine lv_iload_n hx hb dX5_inTurn_15 rfl (lv_at hl 3 rfl) ?_
    refine lM5_isRouter hf hx hb hK hP dX5_inTurn_16 (fun hf => ?_)
    refine lv_if_eq (tgt := 24) hx hb dX5_inTurn_17 (by decide) (fun h_3 => ?_) (fun h_3 => ?_)
    · have hf := zt h_3 hf
      refine lv_iload_n hx hb dX5_inTurn_24 rfl (lv_at hl 1 rfl) ?_
      exact kX5_inTurn_25 hC0 hQ hF7 hf hP hD hS (lv_sub hl [0, 2, 3] rfl)
    · have hf := zf h_3 hf
      refine lv_iload_n hx hb dX5_inTurn_20 rfl (lv_at hl 3 rfl) ?_
      refine lv_goto (tgt := 25) hx hb dX5_inTurn_21 (by decide) ?_
      exact kX5_inTurn_25 hC0 hQ hF7 hf hP hD hS (lv_sub hl [0, 2, 3] rfl)
theorem kX5_inTurn_7 {r : Int32 × zS} (hC0 : zC p m c cX5_inTurn 4 s args wsX5_inTurn RX5 D cI cZ) (hQ : zRi p l e rmX5_inTurn s m args below meth c cX5_inTurn D A (wM a cI cZ) Q r) (n : Nat) : ∀ (S : zS) (x1 : Int32) (x2 : Int32) (x3 : Int32), fX5_inTurn_7 n S x1 x2 x3 = some r → ∀ {H : Heap} {locs : List Loc}, va_P D vwCl (wM a cI cZ S) H → va_D A (wM a cI cZ S) → va_S A s.heap H locs → ∀ {ls : Array Slot}, lv_has ls 4 [(0, .ref (a 0)), (1, .int x1), (2, .int x2), (3, .int x3)] → W p l e rmX5_inTurn s m args below meth c H locs 0 0 Q (F0 m 7 ls []) := by
  induction n with
  | zero => intro S x1 x2 x3 hf; cases hf
  | succ n ih => intro S x1 x2 x3 hf; exact kX5_inTurn_7b hC0 hQ ih hf
set_option maxHeartbeats 4000000 in
set_option maxRecDepth 100000 in
theorem kX5_inTurn {r : Int32 × zS} (hC0 : zC p m c cX5_inTurn 4 s args wsX5_inTurn RX5 D cI cZ) (hQ : zRi p l e rmX5_inTurn s m args below meth c cX5_inTurn D A (wM a cI cZ) Q r) {S : zS} (hf : fX5_inTurn S = some r) {H : Heap} {locs : List Loc} (hP : va_P D vwCl (wM a cI cZ S) H) (hD : va_D A (wM a cI cZ S)) (hS : va_S A s.heap H locs) {ls : Array Slot} (hl : lv_has ls 4 [(0, .ref (a 0))]) : W p l e rmX5_inTurn s m args below meth c H locs 0 0 Q (F0 m 0 ls []) := by
  obtain ⟨hC, hK, hN⟩ := id hC0
  obtain ⟨hx, hb, hml, hown, hts⟩ := id hC
  have iw5 := iwX5_inTurn_5
  unfold fX5_inTurn at hf
  refine lv_iconst (v := (-1 : Int32)) hx hb dX5_inTurn_0 (by decide) ?_
  refine z_istore_n hf hx hb (fun y => [(1, .int y), (0, .ref (a 0))]) dX5_inTurn_1 rfl hl (by decide) (fun _ => rfl) (fun y_1 ls hf hl => ?_)
  refine lv_iconst (v := (-1 : Int32)) hx hb dX5_inTurn_2 (by decide) ?_
  refine z_istore_n hf hx hb (fun y => [(2, .int y), (1, .int y_1), (0, .ref (a 0))]) dX5_inTurn_3 rfl hl (by decide) (fun _ => rfl) (fun y_2 ls hf hl => ?_)
  refine lv_bipush (v := (15 : Int32)) hx hb dX5_inTurn_4 (by decide) ?_
  refine z_istore_n hf hx hb (fun y => [(3, .int y), (2, .int y_2), (1, .int y_1), (0, .ref (a 0))]) dX5_inTurn_6 rfl hl (by decide) (fun _ => rfl) (fun y_3 ls hf hl => ?_)
  exact kX5_inTurn_7 hC0 hQ 64 _ _ _ _ hf hP hD hS (lv_sub hl [3, 2, 1, 0] rfl)
theorem tX5_inTurn {S : zS} {r : Int32 × zS} (hf : fX5_inTurn S = some r) : zMi l yX5_inTurn wsX5_inTurn rmX5_inTurn D (zT cI cZ) A (wM a cI cZ) [.ref (a 0)] S r :=
  zMi_of (by decide) rfl rfl (Nat.le_of_ble_eq_true rfl) (fun hC0 hQ hP hD hS _ hl => kX5_inTurn hC0 hQ hf hP hD hS hl)
end KY2
