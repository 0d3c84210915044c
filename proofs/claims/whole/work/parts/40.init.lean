/-! ===== constructors ===== -/
def zad (l : List Nat) : Nat → Nat := fun k => l.getD k 0
def zPn (D : va_G) (tys : List (ClassId × FieldType)) (A : Nat → Prop) (w : va_W) (U : State) : Prop := zPre D tys A w U ∧ ∀ q, U.heap.size ≤ q → A q
theorem zFBn {as : List Value} {D : va_G} {tys : List (ClassId × FieldType)} {A : Nat → Prop} {w : va_W} : FrameBlind (va_Pc as (zPn D tys A w)) := by
  intro b U g mk q
  obtain ⟨q0, ⟨qP, qK, qD, qN⟩, qA⟩ := q
  exact ⟨q0, ⟨qP, va_K.moved (u := U) (U := U.calling g mk b) (Vm.Alike.refl U.vm) qK, qD, zN.same rfl qN⟩, qA⟩
section ZN
variable {p : Program} {l : Launch} {e : Env} {R : Room} {s : State} {m : MethodId} {args : Array Value} {below : List Frame} {meth : Method} {c : Code} {H H0 : Heap} {locs : List Loc} {cells slots : Nat} {Q : State → Prop} {cc : ByteArray} {pc : Nat} {ls : Array Slot} {rest : List Value} {D : va_G} {a : Nat → Nat} {cI cZ : ClassId} {A : Nat → Prop} {S : zS}
theorem z_newI {N : Nat} {n : Int32} {ws : va_W} (hx : p.tables.exec = Jvm.exec) (hb : c.code = cc) (harr : (Cond.arrayClass .int).before args s = true) (hK : va_K D vwCl (zT cI cZ) s) (hP : va_P D vwCl ws H) (hD : va_D A ws) (hS : va_S A H0 H locs) (hA : ∀ q, H0.size ≤ q → A q) (hn : ¬ n < 0) (hN : n.toNatClampNeg = N) (hby : N * componentBytes .int ≤ 536870912) (hc : cells + 1 ≤ R.cells) (hs : slots + N ≤ R.slots) (hdg : decode cc pc = .ok (.newarray .int, 2)) (kk : ∀ (q : Nat) (H : Heap), va_P D vwCl (ws ++ [(q, .inl (cI, N, .inl (fun _ => 0)))]) H → va_D A (ws ++ [(q, .inl (cI, N, .inl (fun _ => 0)))]) → va_S A H0 H locs → W p l e R s m args below meth c H locs (cells + 1) (slots + N) Q (F0 m (pc + 2) ls (.ref q :: rest))) : W p l e R s m args below meth c H locs cells slots Q (F0 m pc ls (.int n :: rest)) := by
  refine va_newa (atype := .int) (ty := .int) (a0 := (N, .inl (fun _ => 0))) hx hb harr rfl hK hP hD hS hA (fun cA => rfl) hn hN hby hc hs hdg (fun q cA H1 hK1 h1 h2 h3 => ?_)
  have e1 : va_RA s cA .int := (hK1.2 2 (cA, .int) rfl).2
  have e2 : va_RA s cI .int := (hK.2 0 (cI, .int) rfl).2
  have e : cA = cI := Option.some.inj (e1.symm.trans e2)
  rw [e] at h1 h2
  exact kk q H1 h1 h2 h3
theorem z_newZ {N : Nat} {n : Int32} {ws : va_W} (hx : p.tables.exec = Jvm.exec) (hb : c.code = cc) (harr : (Cond.arrayClass .boolean).before args s = true) (hK : va_K D vwCl (zT cI cZ) s) (hP : va_P D vwCl ws H) (hD : va_D A ws) (hS : va_S A H0 H locs) (hA : ∀ q, H0.size ≤ q → A q) (hn : ¬ n < 0) (hN : n.toNatClampNeg = N) (hby : N * componentBytes .boolean ≤ 536870912) (hc : cells + 1 ≤ R.cells) (hs : slots + N ≤ R.slots) (hdg : decode cc pc = .ok (.newarray .boolean, 2)) (kk : ∀ (q : Nat) (H : Heap), va_P D vwCl (ws ++ [(q, .inl (cZ, N, .inl (fun _ => 0)))]) H → va_D A (ws ++ [(q, .inl (cZ, N, .inl (fun _ => 0)))]) → va_S A H0 H locs → W p l e R s m args below meth c H locs (cells + 1) (slots + N) Q (F0 m (pc + 2) ls (.ref q :: rest))) : W p l e R s m args below meth c H locs cells slots Q (F0 m pc ls (.int n :: rest)) := by
  refine va_newa (atype := .boolean) (ty := .boolean) (a0 := (N, .inl (fun _ => 0))) hx hb harr rfl hK hP hD hS hA (fun cA => rfl) hn hN hby hc hs hdg (fun q cA H1 hK1 h1 h2 h3 => ?_)
  have e1 : va_RA s cA .boolean := (hK1.2 2 (cA, .boolean) rfl).2
  have e2 : va_RA s cZ .boolean := (hK.2 1 (cZ, .boolean) rfl).2
  have e : cA = cZ := Option.some.inj (e1.symm.trans e2)
  rw [e] at h1 h2
  exact kk q H1 h1 h2 h3
end ZN
section ZK
variable {l : Launch} {D : va_G} {cI cZ : ClassId}
theorem iwX2_init_2 : ∀ w ∈ wsX20, w ∈ wsX2_init := fun _ h => List.mem_cons_of_mem _ (List.mem_append_right _ h)
set_option maxHeartbeats 4000000 in
set_option maxRecDepth 100000 in
theorem iX2_init {A : Nat → Prop} {h0 : Nat} : Met l yX2_init wsX2_init { frames := 1, cells := 1, slots := 50, locals := 12 } (va_Pc [.ref h0] (zPn D (zT cI cZ) A [(h0, .inr (2, [.null, .int 0, .int 0, .int 0, .int 0]))])) (va_Qv (fun _ : Nat → Nat => True) (fun u t => va_P D vwCl [(h0, .inr (2, [.ref (u 0), .int (9), .int (0), .int (0), .int (0)])), ((u 0), .inl (cI, 50, .inl (fun _ => 0)))] t.heap ∧ va_D A [(h0, .inr (2, [.ref (u 0), .int (9), .int (0), .int (0), .int (0)])), ((u 0), .inl (cI, 50, .inl (fun _ => 0)))]) A) 1 50 A := by
  refine Met.ofW (cc := cX2_init) (maxL := 1) (ret := none) (by decide) rfl ?_
  intro p e s m args below meth c s₁ B hml hv
  obtain ⟨rfl, ⟨hP, hK, hD, hN⟩, hA⟩ := hv
  have hx := B.exec
  have hb := B.bytes
  have hr := B.returns
  have hts := atoms_spec (ws := wsX2_init) B.pre
  have hown : s.vm.findClass RX2 = some m.cls := findClass_of_methodNamed B.named
  have hlocks := B.notSynchronized
  have hin : meth.name = "<init>" := (name_of_methodNamed B.named B.method).1
  have hS : va_S A s.heap s.heap [] := va_S.rf
  have iw2 := iwX2_init_2
  have hl := lv_entry ([.ref h0]) (n := 1) (Nat.le_of_ble_eq_true rfl)
  rw [lg_entry_eq]
  generalize (lg_sl ([.ref h0]) ++ List.replicate (1 - (lg_sl ([.ref h0])).length) Slot.unset).toArray = ls at hl ⊢
  have hl : lv_has ls 1 [(0, .ref h0)] := hl
  refine lv_aload_n hx hb dX2_init_0 rfl (lv_at hl 0 rfl) ?_
  refine W.objInit hx hb hown (hts (.methodLink RX2 3 objectInit) (List.mem_of_getElem? (i := 1) rfl)) (hts (.instanceMethod objectInit) (List.mem_of_getElem? (i := 2) rfl)) (hts (.code objectInit ⟨#[0xb1]⟩ 1 none) (List.mem_of_getElem? (i := 3) rfl)) rfl (by rw [hml]; exact hl.1) rfl dX2_init_1 (Nat.le_of_ble_eq_true rfl) (Nat.le_of_ble_eq_true rfl) ?_
  refine W.eq (g2 := F0 m 4 ls []) rfl ?_
  refine lv_aload_n hx hb dX2_init_4 rfl (lv_at hl 0 rfl) ?_
  refine lv_bipush (v := (50 : Int32)) hx hb dX2_init_5 (by decide) ?_
  refine z_newI (N := 50) hx hb (hts (.arrayClass .int) (List.mem_of_getElem? (i := 4) rfl)) hK hP hD hS hA (by decide) (by decide) (by decide) (Nat.le_of_ble_eq_true rfl) (Nat.le_of_ble_eq_true rfl) dX2_init_7 (fun q7 H hP hD hS => ?_)
  have hP : va_P D vwCl [(h0, .inr (2, [.null, .int 0, .int 0, .int 0, .int 0])), (q7, .inl (cI, 50, .inl (fun _ => 0)))] H := hP
  have hD : va_D A [(h0, .inr (2, [.null, .int 0, .int 0, .int 0, .int 0])), (q7, .inl (cI, 50, .inl (fun _ => 0)))] := hD
  refine va_putF (D := D) (ci := 2) (v := .ref q7) (ty := .array .int) (C := RX2) (T := TX2) (N := 5) hx hb hts iw2 tyX2 tyX2_ok nmX2 hown hK hP hD hS 0 rfl rfl 0 (by decide) (hts _ (List.mem_of_getElem? (i := 5) rfl)) (fun _ h9 => h9) rfl hin rfl (by decide +kernel) rfl rfl (Nat.le_of_ble_eq_true rfl) dX2_init_9 (fun H locs hP hD hS => ?_)
  have hP : va_P D vwCl [(h0, .inr (2, [.ref q7, .int 0, .int 0, .int 0, .int 0])), (q7, .inl (cI, 50, .inl (fun _ => 0)))] H := hP
  have hD : va_D A [(h0, .inr (2, [.ref q7, .int 0, .int 0, .int 0, .int 0])), (q7, .inl (cI, 50, .inl (fun _ => 0)))] := hD
  refine lv_aload_n hx hb dX2_init_12 rfl (lv_at hl 0 rfl) ?_
  refine lv_bipush (v := (9 : Int32)) hx hb dX2_init_13 (by decide) ?_
  refine va_put (D := D) (ci := 2) (v := .int (9)) (ty := .int) (C := RX2) (T := TX2) (N := 5) hx hb hts iw2 tyX2 tyX2_ok nmX2 hown hK hP hD hS 0 rfl rfl 1 (by decide) (hts _ (List.mem_of_getElem? (i := 6) rfl)) (fun _ h9 => h9) rfl (by decide +kernel) rfl rfl (Nat.le_of_ble_eq_true rfl) dX2_init_15 (fun H locs hP hD hS => ?_)
  have hP : va_P D vwCl [(h0, .inr (2, [.ref q7, .int (9), .int 0, .int 0, .int 0])), (q7, .inl (cI, 50, .inl (fun _ => 0)))] H := hP
  have hD : va_D A [(h0, .inr (2, [.ref q7, .int (9), .int 0, .int 0, .int 0])), (q7, .inl (cI, 50, .inl (fun _ => 0)))] := hD
  refine lv_aload_n hx hb dX2_init_18 rfl (lv_at hl 0 rfl) ?_
  refine lv_iconst (v := (0 : Int32)) hx hb dX2_init_19 (by decide) ?_
  refine va_put (D := D) (ci := 2) (v := .int (0)) (ty := .int) (C := RX2) (T := TX2) (N := 5) hx hb hts iw2 tyX2 tyX2_ok nmX2 hown hK hP hD hS 0 rfl rfl 2 (by decide) (hts _ (List.mem_of_getElem? (i := 7) rfl)) (fun _ h9 => h9) rfl (by decide +kernel) rfl rfl (Nat.le_of_ble_eq_true rfl) dX2_init_20 (fun H locs hP hD hS => ?_)
  have hP : va_P D vwCl [(h0, .inr (2, [.ref q7, .int (9), .int (0), .int 0, .int 0])), (q7, .inl (cI, 50, .inl (fun _ => 0)))] H := hP
  have hD : va_D A [(h0, .inr (2, [.ref q7, .int (9), .int (0), .int 0, .int 0])), (q7, .inl (cI, 50, .inl (fun _ => 0)))] := hD
  refine lv_aload_n hx hb dX2_init_23 rfl (lv_at hl 0 rfl) ?_
  refine lv_iconst (v := (0 : Int32)) hx hb dX2_init_24 (by decide) ?_
  refine va_put (D := D) (ci := 2) (v := .int (0)) (ty := .int) (C := RX2) (T := TX2) (N := 5) hx hb hts iw2 tyX2 tyX2_ok nmX2 hown hK hP hD hS 0 rfl rfl 3 (by decide) (hts _ (List.mem_of_getElem? (i := 8) rfl)) (fun _ h9 => h9) rfl (by decide +kernel) rfl rfl (Nat.le_of_ble_eq_true rfl) dX2_init_25 (fun H locs hP hD hS => ?_)
  have hP : va_P D vwCl [(h0, .inr (2, [.ref q7, .int (9), .int (0), .int (0), .int 0])), (q7, .inl (cI, 50, .inl (fun _ => 0)))] H := hP
  have hD : va_D A [(h0, .inr (2, [.ref q7, .int (9), .int (0), .int (0), .int 0])), (q7, .inl (cI, 50, .inl (fun _ => 0)))] := hD
  refine lv_aload_n hx hb dX2_init_28 rfl (lv_at hl 0 rfl) ?_
  refine lv_iconst (v := (0 : Int32)) hx hb dX2_init_29 (by decide) ?_
  refine va_put (D := D) (ci := 2) (v := .int (0)) (ty := .int) (C := RX2) (T := TX2) (N := 5) hx hb hts iw2 tyX2 tyX2_ok nmX2 hown hK hP hD hS 0 rfl rfl 4 (by decide) (hts _ (List.mem_of_getElem? (i := 9) rfl)) (fun _ h9 => h9) rfl (by decide +kernel) rfl rfl (Nat.le_of_ble_eq_true rfl) dX2_init_30 (fun H locs hP hD hS => ?_)
  have hP : va_P D vwCl [(h0, .inr (2, [.ref q7, .int (9), .int (0), .int (0), .int (0)])), (q7, .inl (cI, 50, .inl (fun _ => 0)))] H := hP
  have hD : va_D A [(h0, .inr (2, [.ref q7, .int (9), .int (0), .int (0), .int (0)])), (q7, .inl (cI, 50, .inl (fun _ => 0)))] := hD
  exact W.vret hx hb hr (fun t ht hW => ⟨⟨zad [q7], rfl, trivial, by rw [ht]; exact hP, hD⟩, hS.F ht⟩) hS.2.2 dX2_init_33
theorem iwX1_init_1 : ∀ w ∈ wsX10, w ∈ wsX1_init := fun _ h => List.mem_cons_of_mem _ (List.mem_append_right _ h)
set_option maxHeartbeats 4000000 in
set_option maxRecDepth 100000 in
theorem iX1_init {A : Nat → Prop} {h0 : Nat} : Met l yX1_init wsX1_init { frames := 1, cells := 2, slots := 8, locals := 12 } (va_Pc [.ref h0] (zPn D (zT cI cZ) A [(h0, .inr (1, [.null, .null, .int 0]))])) (va_Qv (fun _ : Nat → Nat => True) (fun u t => va_P D vwCl [(h0, .inr (1, [.ref (u 0), .ref (u 1), .int (0)])), ((u 0), .inl (cI, 4, .inl (fun _ => 0))), ((u 1), .inl (cI, 4, .inl (fun _ => 0)))] t.heap ∧ va_D A [(h0, .inr (1, [.ref (u 0), .ref (u 1), .int (0)])), ((u 0), .inl (cI, 4, .inl (fun _ => 0))), ((u 1), .inl (cI, 4, .inl (fun _ => 0)))]) A) 2 8 A := by
  refine Met.ofW (cc := cX1_init) (maxL := 1) (ret := none) (by decide) rfl ?_
  intro p e s m args below meth c s₁ B hml hv
  obtain ⟨rfl, ⟨hP, hK, hD, hN⟩, hA⟩ := hv
  have hx := B.exec
  have hb := B.bytes
  have hr := B.returns
  have hts := atoms_spec (ws := wsX1_init) B.pre
  have hown : s.vm.findClass RX1 = some m.cls := findClass_of_methodNamed B.named
  have hlocks := B.notSynchronized
  have hin : meth.name = "<init>" := (name_of_methodNamed B.named B.method).1
  have hS : va_S A s.heap s.heap [] := va_S.rf
  have iw1 := iwX1_init_1
  have hl := lv_entry ([.ref h0]) (n := 1) (Nat.le_of_ble_eq_true rfl)
  rw [lg_entry_eq]
  generalize (lg_sl ([.ref h0]) ++ List.replicate (1 - (lg_sl ([.ref h0])).length) Slot.unset).toArray = ls at hl ⊢
  have hl : lv_has ls 1 [(0, .ref h0)] := hl
  refine lv_aload_n hx hb dX1_init_0 rfl (lv_at hl 0 rfl) ?_
  refine W.objInit hx hb hown (hts (.methodLink RX1 3 objectInit) (List.mem_of_getElem? (i := 1) rfl)) (hts (.instanceMethod objectInit) (List.mem_of_getElem? (i := 2) rfl)) (hts (.code objectInit ⟨#[0xb1]⟩ 1 none) (List.mem_of_getElem? (i := 3) rfl)) rfl (by rw [hml]; exact hl.1) rfl dX1_init_1 (Nat.le_of_ble_eq_true rfl) (Nat.le_of_ble_eq_true rfl) ?_
  refine W.eq (g2 := F0 m 4 ls []) rfl ?_
  refine lv_aload_n hx hb dX1_init_4 rfl (lv_at hl 0 rfl) ?_
  refine lv_iconst (v := (4 : Int32)) hx hb dX1_init_5 (by decide) ?_
  refine z_newI (N := 4) hx hb (hts (.arrayClass .int) (List.mem_of_getElem? (i := 4) rfl)) hK hP hD hS hA (by decide) (by decide) (by decide) (Nat.le_of_ble_eq_true rfl) (Nat.le_of_ble_eq_true rfl) dX1_init_6 (fun q6 H hP hD hS => ?_)
  have hP : va_P D vwCl [(h0, .inr (1, [.null, .null, .int 0])), (q6, .inl (cI, 4, .inl (fun _ => 0)))] H := hP
  have hD : va_D A [(h0, .inr (1, [.null, .null, .int 0])), (q6, .inl (cI, 4, .inl (fun _ => 0)))] := hD
  refine va_putF (D := D) (ci := 1) (v := .ref q6) (ty := .array .int) (C := RX1) (T := TX1) (N := 3) hx hb hts iw1 tyX1 tyX1_ok nmX1 hown hK hP hD hS 0 rfl rfl 0 (by decide) (hts _ (List.mem_of_getElem? (i := 5) rfl)) (fun _ h9 => h9) rfl hin rfl (by decide +kernel) rfl rfl (Nat.le_of_ble_eq_true rfl) dX1_init_8 (fun H locs hP hD hS => ?_)
  have hP : va_P D vwCl [(h0, .inr (1, [.ref q6, .null, .int 0])), (q6, .inl (cI, 4, .inl (fun _ => 0)))] H := hP
  have hD : va_D A [(h0, .inr (1, [.ref q6, .null, .int 0])), (q6, .inl (cI, 4, .inl (fun _ => 0)))] := hD
  refine lv_aload_n hx hb dX1_init_11 rfl (lv_at hl 0 rfl) ?_
  refine lv_iconst (v := (4 : Int32)) hx hb dX1_init_12 (by decide) ?_
  refine z_newI (N := 4) hx hb (hts (.arrayClass .int) (List.mem_of_getElem? (i := 4) rfl)) hK hP hD hS hA (by decide) (by decide) (by decide) (Nat.le_of_ble_eq_true rfl) (Nat.le_of_ble_eq_true rfl) dX1_init_13 (fun q13 H hP hD hS => ?_)
  have hP : va_P D vwCl [(h0, .inr (1, [.ref q6, .null, .int 0])), (q6, .inl (cI, 4, .inl (fun _ => 0))), (q13, .inl (cI, 4, .inl (fun _ => 0)))] H := hP
  have hD : va_D A [(h0, .inr (1, [.ref q6, .null, .int 0])), (q6, .inl (cI, 4, .inl (fun _ => 0))), (q13, .inl (cI, 4, .inl (fun _ => 0)))] := hD
  refine va_putF (D := D) (ci := 1) (v := .ref q13) (ty := .array .int) (C := RX1) (T := TX1) (N := 3) hx hb hts iw1 tyX1 tyX1_ok nmX1 hown hK hP hD hS 0 rfl rfl 1 (by decide) (hts _ (List.mem_of_getElem? (i := 6) rfl)) (fun _ h9 => h9) rfl hin rfl (by decide +kernel) rfl rfl (Nat.le_of_ble_eq_true rfl) dX1_init_15 (fun H locs hP hD hS => ?_)
  have hP : va_P D vwCl [(h0, .inr (1, [.ref q6, .ref q13, .int 0])), (q6, .inl (cI, 4, .inl (fun _ => 0))), (q13, .inl (cI, 4, .inl (fun _ => 0)))] H := hP
  have hD : va_D A [(h0, .inr (1, [.ref q6, .ref q13, .int 0])), (q6, .inl (cI, 4, .inl (fun _ => 0))), (q13, .inl (cI, 4, .inl (fun _ => 0)))] := hD
  refine lv_aload_n hx hb dX1_init_18 rfl (lv_at hl 0 rfl) ?_
  refine lv_iconst (v := (0 : Int32)) hx hb dX1_init_19 (by decide) ?_
  refine va_put (D := D) (ci := 1) (v := .int (0)) (ty := .int) (C := RX1) (T := TX1) (N := 3) hx hb hts iw1 tyX1 tyX1_ok nmX1 hown hK hP hD hS 0 rfl rfl 2 (by decide) (hts _ (List.mem_of_getElem? (i := 7) rfl)) (fun _ h9 => h9) rfl (by decide +kernel) rfl rfl (Nat.le_of_ble_eq_true rfl) dX1_init_20 (fun H locs hP hD hS => ?_)
  have hP : va_P D vwCl [(h0, .inr (1, [.ref q6, .ref q13, .int (0)])), (q6, .inl (cI, 4, .inl (fun _ => 0))), (q13, .inl (cI, 4, .inl (fun _ => 0)))] H := hP
  have hD : va_D A [(h0, .inr (1, [.ref q6, .ref q13, .int (0)])), (q6, .inl (cI, 4, .inl (fun _ => 0))), (q13, .inl (cI, 4, .inl (fun _ => 0)))] := hD
  exact W.vret hx hb hr (fun t ht hW => ⟨⟨zad [q6, q13], rfl, trivial, by rw [ht]; exact hP, hD⟩, hS.F ht⟩) hS.2.2 dX1_init_23
theorem iwX3_init_3 : ∀ w ∈ wsX30, w ∈ wsX3_init := fun _ h => List.mem_cons_of_mem _ (List.mem_append_right _ h)
set_option maxHeartbeats 4000000 in
set_option maxRecDepth 100000 in
theorem iX3_init {A : Nat → Prop} {h0 : Nat} : Met l yX3_init wsX3_init { frames := 1, cells := 3, slots := 12, locals := 12 } (va_Pc [.ref h0] (zPn D (zT cI cZ) A [(h0, .inr (3, [.null, .null, .null, .int 0]))])) (va_Qv (fun _ : Nat → Nat => True) (fun u t => va_P D vwCl [(h0, .inr (3, [.ref (u 0), .ref (u 1), .ref (u 2), .int (0)])), ((u 0), .inl (cI, 4, .inl (fun _ => 0))), ((u 1), .inl (cI, 4, .inl (fun _ => 0))), ((u 2), .inl (cI, 4, .inl (fun _ => 0)))] t.heap ∧ va_D A [(h0, .inr (3, [.ref (u 0), .ref (u 1), .ref (u 2), .int (0)])), ((u 0), .inl (cI, 4, .inl (fun _ => 0))), ((u 1), .inl (cI, 4, .inl (fun _ => 0))), ((u 2), .inl (cI, 4, .inl (fun _ => 0)))]) A) 3 12 A := by
  refine Met.ofW (cc := cX3_init) (maxL := 1) (ret := none) (by decide) rfl ?_
  intro p e s m args below meth c s₁ B hml hv
  obtain ⟨rfl, ⟨hP, hK, hD, hN⟩, hA⟩ := hv
  have hx := B.exec
  have hb := B.bytes
  have hr := B.returns
  have hts := atoms_spec (ws := wsX3_init) B.pre
  have hown : s.vm.findClass RX3 = some m.cls := findClass_of_methodNamed B.named
  have hlocks := B.notSynchronized
  have hin : meth.name = "<init>" := (name_of_methodNamed B.named B.method).1
  have hS : va_S A s.heap s.heap [] := va_S.rf
  have iw3 := iwX3_init_3
  have hl := lv_entry ([.ref h0]) (n := 1) (Nat.le_of_ble_eq_true rfl)
  rw [lg_entry_eq]
  generalize (lg_sl ([.ref h0]) ++ List.replicate (1 - (lg_sl ([.ref h0])).length) Slot.unset).toArray = ls at hl ⊢
  have hl : lv_has ls 1 [(0, .ref h0)] := hl
  refine lv_aload_n hx hb dX3_init_0 rfl (lv_at hl 0 rfl) ?_
  refine W.objInit hx hb hown (hts (.methodLink RX3 3 objectInit) (List.mem_of_getElem? (i := 1) rfl)) (hts (.instanceMethod objectInit) (List.mem_of_getElem? (i := 2) rfl)) (hts (.code objectInit ⟨#[0xb1]⟩ 1 none) (List.mem_of_getElem? (i := 3) rfl)) rfl (by rw [hml]; exact hl.1) rfl dX3_init_1 (Nat.le_of_ble_eq_true rfl) (Nat.le_of_ble_eq_true rfl) ?_
  refine W.eq (g2 := F0 m 4 ls []) rfl ?_
  refine lv_aload_n hx hb dX3_init_4 rfl (lv_at hl 0 rfl) ?_
  refine lv_iconst (v := (4 : Int32)) hx hb dX3_init_5 (by decide) ?_
  refine z_newI (N := 4) hx hb (hts (.arrayClass .int) (List.mem_of_getElem? (i := 4) rfl)) hK hP hD hS hA (by decide) (by decide) (by decide) (Nat.le_of_ble_eq_true rfl) (Nat.le_of_ble_eq_true rfl) dX3_init_6 (fun q6 H hP hD hS => ?_)
  have hP : va_P D vwCl [(h0, .inr (3, [.null, .null, .null, .int 0])), (q6, .inl (cI, 4, .inl (fun _ => 0)))] H := hP
  have hD : va_D A [(h0, .inr (3, [.null, .null, .null, .int 0])), (q6, .inl (cI, 4, .inl (fun _ => 0)))] := hD
  refine va_putF (D := D) (ci := 3) (v := .ref q6) (ty := .array .int) (C := RX3) (T := TX3) (N := 4) hx hb hts iw3 tyX3 tyX3_ok nmX3 hown hK hP hD hS 0 rfl rfl 0 (by decide) (hts _ (List.mem_of_getElem? (i := 5) rfl)) (fun _ h9 => h9) rfl hin rfl (by decide +kernel) rfl rfl (Nat.le_of_ble_eq_true rfl) dX3_init_8 (fun H locs hP hD hS => ?_)
  have hP : va_P D vwCl [(h0, .inr (3, [.ref q6, .null, .null, .int 0])), (q6, .inl (cI, 4, .inl (fun _ => 0)))] H := hP
  have hD : va_D A [(h0, .inr (3, [.ref q6, .null, .null, .int 0])), (q6, .inl (cI, 4, .inl (fun _ => 0)))] := hD
  refine lv_aload_n hx hb dX3_init_11 rfl (lv_at hl 0 rfl) ?_
  refine lv_iconst (v := (4 : Int32)) hx hb dX3_init_12 (by decide) ?_
  refine z_newI (N := 4) hx hb (hts (.arrayClass .int) (List.mem_of_getElem? (i := 4) rfl)) hK hP hD hS hA (by decide) (by decide) (by decide) (Nat.le_of_ble_eq_true rfl) (Nat.le_of_ble_eq_true rfl) dX3_init_13 (fun q13 H hP hD hS => ?_)
  have hP : va_P D vwCl [(h0, .inr (3, [.ref q6, .null, .null, .int 0])), (q6, .inl (cI, 4, .inl (fun _ => 0))), (q13, .inl (cI, 4, .inl (fun _ => 0)))] H := hP
  have hD : va_D A [(h0, .inr (3, [.ref q6, .null, .null, .int 0])), (q6, .inl (cI, 4, .inl (fun _ => 0))), (q13, .inl (cI, 4, .inl (fun _ => 0)))] := hD
  refine va_putF (D := D) (ci := 3) (v := .ref q13) (ty := .array .int) (C := RX3) (T := TX3) (N := 4) hx hb hts iw3 tyX3 tyX3_ok nmX3 hown hK hP hD hS 0 rfl rfl 1 (by decide) (hts _ (List.mem_of_getElem? (i := 6) rfl)) (fun _ h9 => h9) rfl hin rfl (by decide +kernel) rfl rfl (Nat.le_of_ble_eq_true rfl) dX3_init_15 (fun H locs hP hD hS => ?_)
  have hP : va_P D vwCl [(h0, .inr (3, [.ref q6, .ref q13, .null, .int 0])), (q6, .inl (cI, 4, .inl (fun _ => 0))), (q13, .inl (cI, 4, .inl (fun _ => 0)))] H := hP
  have hD : va_D A [(h0, .inr (3, [.ref q6, .ref q13, .null, .int 0])), (q6, .inl (cI, 4, .inl (fun _ => 0))), (q13, .inl (cI, 4, .inl (fun _ => 0)))] := hD
  refine lv_aload_n hx hb dX3_init_18 rfl (lv_at hl 0 rfl) ?_
  refine lv_iconst (v := (4 : Int32)) hx hb dX3_init_19 (by decide) ?_
  refine z_newI (N := 4) hx hb (hts (.arrayClass .int) (List.mem_of_getElem? (i := 4) rfl)) hK hP hD hS hA (by decide) (by decide) (by decide) (Nat.le_of_ble_eq_true rfl) (Nat.le_of_ble_eq_true rfl) dX3_init_20 (fun q20 H hP hD hS => ?_)
  have hP : va_P D vwCl [(h0, .inr (3, [.ref q6, .ref q13, .null, .int 0])), (q6, .inl (cI, 4, .inl (fun _ => 0))), (q13, .inl (cI, 4, .inl (fun _ => 0))), (q20, .inl (cI, 4, .inl (fun _ => 0)))] H := hP
  have hD : va_D A [(h0, .inr (3, [.ref q6, .ref q13, .null, .int 0])), (q6, .inl (cI, 4, .inl (fun _ => 0))), (q13, .inl (cI, 4, .inl (fun _ => 0))), (q20, .inl (cI, 4, .inl (fun _ => 0)))] := hD
  refine va_putF (D := D) (ci := 3) (v := .ref q20) (ty := .array .int) (C := RX3) (T := TX3) (N := 4) hx hb hts iw3 tyX3 tyX3_ok nmX3 hown hK hP hD hS 0 rfl rfl 2 (by decide) (hts _ (List.mem_of_getElem? (i := 7) rfl)) (fun _ h9 => h9) rfl hin rfl (by decide +kernel) rfl rfl (Nat.le_of_ble_eq_true rfl) dX3_init_22 (fun H locs hP hD hS => ?_)
  have hP : va_P D vwCl [(h0, .inr (3, [.ref q6, .ref q13, .ref q20, .int 0])), (q6, .inl (cI, 4, .inl (fun _ => 0))), (q13, .inl (cI, 4, .inl (fun _ => 0))), (q20, .inl (cI, 4, .inl (fun _ => 0)))] H := hP
  have hD : va_D A [(h0, .inr (3, [.ref q6, .ref q13, .ref q20, .int 0])), (q6, .inl (cI, 4, .inl (fun _ => 0))), (q13, .inl (cI, 4, .inl (fun _ => 0))), (q20, .inl (cI, 4, .inl (fun _ => 0)))] := hD
  refine lv_aload_n hx hb dX3_init_25 rfl (lv_at hl 0 rfl) ?_
  refine lv_iconst (v := (0 : Int32)) hx hb dX3_init_26 (by decide) ?_
  refine va_put (D := D) (ci := 3) (v := .int (0)) (ty := .int) (C := RX3) (T := TX3) (N := 4) hx hb hts iw3 tyX3 tyX3_ok nmX3 hown hK hP hD hS 0 rfl rfl 3 (by decide) (hts _ (List.mem_of_getElem? (i := 8) rfl)) (fun _ h9 => h9) rfl (by decide +kernel) rfl rfl (Nat.le_of_ble_eq_true rfl) dX3_init_27 (fun H locs hP hD hS => ?_)
  have hP : va_P D vwCl [(h0, .inr (3, [.ref q6, .ref q13, .ref q20, .int (0)])), (q6, .inl (cI, 4, .inl (fun _ => 0))), (q13, .inl (cI, 4, .inl (fun _ => 0))), (q20, .inl (cI, 4, .inl (fun _ => 0)))] H := hP
  have hD : va_D A [(h0, .inr (3, [.ref q6, .ref q13, .ref q20, .int (0)])), (q6, .inl (cI, 4, .inl (fun _ => 0))), (q13, .inl (cI, 4, .inl (fun _ => 0))), (q20, .inl (cI, 4, .inl (fun _ => 0)))] := hD
  exact W.vret hx hb hr (fun t ht hW => ⟨⟨zad [q6, q13, q20], rfl, trivial, by rw [ht]; exact hP, hD⟩, hS.F ht⟩) hS.2.2 dX3_init_30
theorem iwX0_init_0 : ∀ w ∈ wsX00, w ∈ wsX0_init := fun _ h => List.mem_cons_of_mem _ (List.mem_append_right _ h)
theorem fS_step (k : Nat) : upd (fun j => if j < k then -1 else 0) k (-1) = (fun j => if j < k + 1 then -1 else 0) := by
  funext j
  unfold upd
  by_cases h : j = k
  · subst h; simp
  · by_cases h2 : j < k
    · simp [h, h2, show j < k + 1 by omega]
    · simp [h, h2, show ¬ j < k + 1 by omega]
set_option maxHeartbeats 4000000 in
set_option maxRecDepth 100000 in
theorem iX0_loop {A : Nat → Prop} {h0 r1 r2 q7 q15 q23 q31 q39 q47 q55 : Nat} {p : Program} {e : Env} {s : State} {m : MethodId} {args : Array Value} {below : List Frame} {meth : Method} {c : Code} (hx : p.tables.exec = Jvm.exec) (hb : c.code = cX0_init) (hr : meth.sig.returnType = none) (hts : ∀ w ∈ wsX0_init, w.before args s = true) (hown : s.vm.findClass RX0 = some m.cls) (hlocks : meth.locks = false) (hK : va_K D vwCl (zT cI cZ) s) : ∀ (d k : Nat), k + d = 16 → ∀ (H : Heap) (locs : List Loc), va_P D vwCl [(h0, .inr (0, [.ref r1, .ref r2, .ref q7, .ref q15, .ref q23, .ref q31, .ref q39, .ref q47, .ref q55, .int (0), .int (0), .int (0)])), (q7, .inl (cI, 16, .inl (fun j => if j < k then -1 else 0))), (q15, .inl (cI, 16, .inl (fun _ => 0))), (q23, .inl (cI, 16, .inl (fun _ => 0))), (q31, .inl (cI, 16, .inl (fun _ => 0))), (q39, .inl (cI, 16, .inl (fun _ => 0))), (q47, .inl (cI, 16, .inl (fun _ => 0))), (q55, .inl (cI, 48, .inl (fun _ => 0)))] H → va_D A [(h0, .inr (0, [.ref r1, .ref r2, .ref q7, .ref q15, .ref q23, .ref q31, .ref q39, .ref q47, .ref q55, .int (0), .int (0), .int (0)])), (q7, .inl (cI, 16, .inl (fun j => if j < k then -1 else 0))), (q15, .inl (cI, 16, .inl (fun _ => 0))), (q23, .inl (cI, 16, .inl (fun _ => 0))), (q31, .inl (cI, 16, .inl (fun _ => 0))), (q39, .inl (cI, 16, .inl (fun _ => 0))), (q47, .inl (cI, 16, .inl (fun _ => 0))), (q55, .inl (cI, 48, .inl (fun _ => 0)))] → va_S A s.heap H locs → ∀ (ls : Array Slot), lv_has ls 4 [(0, .ref h0), (3, .int (nI k))] → W p l e ({ frames := 1, cells := 7, slots := 144, locals := 12 }) s m args below meth c H locs 7 144 (MQ below (va_Qv (fun _ : Nat → Nat => True) (fun u t => va_P D vwCl [(h0, .inr (0, [.ref r1, .ref r2, .ref (u 0), .ref (u 1), .ref (u 2), .ref (u 3), .ref (u 4), .ref (u 5), .ref (u 6), .int (0), .int (0), .int (0)])), ((u 0), .inl (cI, 16, .inl (fun j => if j < 16 then -1 else 0))), ((u 1), .inl (cI, 16, .inl (fun _ => 0))), ((u 2), .inl (cI, 16, .inl (fun _ => 0))), ((u 3), .inl (cI, 16, .inl (fun _ => 0))), ((u 4), .inl (cI, 16, .inl (fun _ => 0))), ((u 5), .inl (cI, 16, .inl (fun _ => 0))), ((u 6), .inl (cI, 48, .inl (fun _ => 0)))] t.heap ∧ va_D A [(h0, .inr (0, [.ref r1, .ref r2, .ref (u 0), .ref (u 1), .ref (u 2), .ref (u 3), .ref (u 4), .ref (u 5), .ref (u 6), .int (0), .int (0), .int (0)])), ((u 0), .inl (cI, 16, .inl (fun j => if j < 16 then -1 else 0))), ((u 1), .inl (cI, 16, .inl (fun _ => 0))), ((u 2), .inl (cI, 16, .inl (fun _ => 0))), ((u 3), .inl (cI, 16, .inl (fun _ => 0))), ((u 4), .inl (cI, 16, .inl (fun _ => 0))), ((u 5), .inl (cI, 16, .inl (fun _ => 0))), ((u 6), .inl (cI, 48, .inl (fun _ => 0)))]) A) args s 7 144 A) (F0 m 87 ls []) := by
  have iw0 := iwX0_init_0
  intro d
  induction d with
  | zero =>
    intro k hk H locs hP hD hS ls hl
    obtain rfl : k = 16 := by omega
    refine lv_iload_n hx hb dX0_init_87 rfl (lv_at hl 1 rfl) ?_
    refine lv_bipush (v := (16 : Int32)) hx hb dX0_init_88 (by decide) ?_
    refine lv_icmp_ge (tgt := 106) hx hb dX0_init_90 (by decide) (fun _ => ?_) (fun h => absurd z_16e h)
    exact W.vret hx hb hr (fun t ht hW => ⟨⟨zad [q7, q15, q23, q31, q39, q47, q55], rfl, trivial, by rw [ht]; exact hP, hD⟩, hS.F ht⟩) hS.2.2 dX0_init_106
  | succ d ih =>
    intro k hk H locs hP hD hS ls hl
    have h16 : k < 16 := by omega
    refine lv_iload_n hx hb dX0_init_87 rfl (lv_at hl 1 rfl) ?_
    refine lv_bipush (v := (16 : Int32)) hx hb dX0_init_88 (by decide) ?_
    refine lv_icmp_ge (tgt := 106) hx hb dX0_init_90 (by decide) (fun h => absurd h (z_16 h16)) (fun _ => ?_)
    refine lv_aload_n hx hb dX0_init_93 rfl (lv_at hl 0 rfl) ?_
    refine va_get (D := D) (ci := 0) (v := .ref q7) (C := RX0) (T := TX0) (N := 12) hx hb hts iw0 hown hK hP 0 rfl rfl 2 (by decide) (hts _ (List.mem_of_getElem? (i := 5) rfl)) (fun _ h9 => h9) rfl dX0_init_94 ?_
    refine lv_iload_n hx hb dX0_init_97 rfl (lv_at hl 1 rfl) ?_
    refine lv_iconst (v := (-1 : Int32)) hx hb dX0_init_98 (by decide) ?_
    refine va_iast hx hb hK hP hD hS 1 0 rfl rfl (vp_in_nI (N := 16) h16 (by decide)) dX0_init_99 (fun H locs hP hD hS => ?_)
    rw [z_cl (show k < 1000 by omega), fS_step] at hP hD
    refine lv_iinc (k := 1) (v := nI (k + 1)) (lv' := [(3, .int (nI (k + 1))), (0, .ref h0)]) hx hb dX0_init_100 hl rfl (z_sc k) (by decide) rfl (fun ls hl => ?_)
    refine lv_goto (tgt := 87) hx hb dX0_init_103 (by decide) ?_
    exact ih (k + 1) (by omega) H locs hP hD hS ls (lv_sub hl [1, 0] rfl)
set_option maxHeartbeats 4000000 in
set_option maxRecDepth 100000 in
theorem iX0_init {A : Nat → Prop} {h0 r1 r2 : Nat} : Met l yX0_init wsX0_init ({ frames := 1, cells := 7, slots := 144, locals := 12 }) (va_Pc [.ref h0, .ref r1, .ref r2] (zPn D (zT cI cZ) A [(h0, .inr (0, [.null, .null, .null, .null, .null, .null, .null, .null, .null, .int 0, .int 0, .int 0]))])) (va_Qv (fun _ : Nat → Nat => True) (fun u t => va_P D vwCl [(h0, .inr (0, [.ref r1, .ref r2, .ref (u 0), .ref (u 1), .ref (u 2), .ref (u 3), .ref (u 4), .ref (u 5), .ref (u 6), .int (0), .int (0), .int (0)])), ((u 0), .inl (cI, 16, .inl (fun j => if j < 16 then -1 else 0))), ((u 1), .inl (cI, 16, .inl (fun _ => 0))), ((u 2), .inl (cI, 16, .inl (fun _ => 0))), ((u 3), .inl (cI, 16, .inl (fun _ => 0))), ((u 4), .inl (cI, 16, .inl (fun _ => 0))), ((u 5), .inl (cI, 16, .inl (fun _ => 0))), ((u 6), .inl (cI, 48, .inl (fun _ => 0)))] t.heap ∧ va_D A [(h0, .inr (0, [.ref r1, .ref r2, .ref (u 0), .ref (u 1), .ref (u 2), .ref (u 3), .ref (u 4), .ref (u 5), .ref (u 6), .int (0), .int (0), .int (0)])), ((u 0), .inl (cI, 16, .inl (fun j => if j < 16 then -1 else 0))), ((u 1), .inl (cI, 16, .inl (fun _ => 0))), ((u 2), .inl (cI, 16, .inl (fun _ => 0))), ((u 3), .inl (cI, 16, .inl (fun _ => 0))), ((u 4), .inl (cI, 16, .inl (fun _ => 0))), ((u 5), .inl (cI, 16, .inl (fun _ => 0))), ((u 6), .inl (cI, 48, .inl (fun _ => 0)))]) A) 7 144 A := by
  refine Met.ofW (cc := cX0_init) (maxL := 4) (ret := none) (by decide) rfl ?_
  intro p e s m args below meth c s₁ B hml hv
  obtain ⟨rfl, ⟨hP, hK, hD, hN⟩, hA⟩ := hv
  have hx := B.exec
  have hb := B.bytes
  have hr := B.returns
  have hts := atoms_spec (ws := wsX0_init) B.pre
  have hown : s.vm.findClass RX0 = some m.cls := findClass_of_methodNamed B.named
  have hlocks := B.notSynchronized
  have hin : meth.name = "<init>" := (name_of_methodNamed B.named B.method).1
  have hS : va_S A s.heap s.heap [] := va_S.rf
  have iw0 := iwX0_init_0
  have hl := lv_entry ([.ref h0, .ref r1, .ref r2]) (n := 4) (Nat.le_of_ble_eq_true rfl)
  rw [lg_entry_eq]
  generalize (lg_sl ([.ref h0, .ref r1, .ref r2]) ++ List.replicate (4 - (lg_sl ([.ref h0, .ref r1, .ref r2])).length) Slot.unset).toArray = ls at hl ⊢
  have hl : lv_has ls 4 [(0, .ref h0), (1, .ref r1), (2, .ref r2)] := hl
  refine lv_aload_n hx hb dX0_init_0 rfl (lv_at hl 0 rfl) ?_
  refine W.objInit hx hb hown (hts (.methodLink RX0 3 objectInit) (List.mem_of_getElem? (i := 1) rfl)) (hts (.instanceMethod objectInit) (List.mem_of_getElem? (i := 2) rfl)) (hts (.code objectInit ⟨#[0xb1]⟩ 1 none) (List.mem_of_getElem? (i := 3) rfl)) rfl (by rw [hml]; exact hl.1) rfl dX0_init_1 (Nat.le_of_ble_eq_true rfl) (Nat.le_of_ble_eq_true rfl) ?_
  refine W.eq (g2 := F0 m 4 ls []) rfl ?_
  refine lv_aload_n hx hb dX0_init_4 rfl (lv_at hl 0 rfl) ?_
  refine lv_bipush (v := (16 : Int32)) hx hb dX0_init_5 (by decide) ?_
  refine z_newI (N := 16) hx hb (hts (.arrayClass .int) (List.mem_of_getElem? (i := 4) rfl)) hK hP hD hS hA (by decide) (by decide) (by decide) (Nat.le_of_ble_eq_true rfl) (Nat.le_of_ble_eq_true rfl) dX0_init_7 (fun q7 H hP hD hS => ?_)
  have hP : va_P D vwCl [(h0, .inr (0, [.null, .null, .null, .null, .null, .null, .null, .null, .null, .int 0, .int 0, .int 0])), (q7, .inl (cI, 16, .inl (fun _ => 0)))] H := hP
  have hD : va_D A [(h0, .inr (0, [.null, .null, .null, .null, .null, .null, .null, .null, .null, .int 0, .int 0, .int 0])), (q7, .inl (cI, 16, .inl (fun _ => 0)))] := hD
  refine va_putF (D := D) (ci := 0) (v := .ref q7) (ty := .array .int) (C := RX0) (T := TX0) (N := 12) hx hb hts iw0 tyX0 tyX0_ok nmX0 hown hK hP hD hS 0 rfl rfl 2 (by decide) (hts _ (List.mem_of_getElem? (i := 5) rfl)) (fun _ h9 => h9) rfl hin rfl (by decide +kernel) rfl rfl (Nat.le_of_ble_eq_true rfl) dX0_init_9 (fun H locs hP hD hS => ?_)
  have hP : va_P D vwCl [(h0, .inr (0, [.null, .null, .ref q7, .null, .null, .null, .null, .null, .null, .int 0, .int 0, .int 0])), (q7, .inl (cI, 16, .inl (fun _ => 0)))] H := hP
  have hD : va_D A [(h0, .inr (0, [.null, .null, .ref q7, .null, .null, .null, .null, .null, .null, .int 0, .int 0, .int 0])), (q7, .inl (cI, 16, .inl (fun _ => 0)))] := hD
  refine lv_aload_n hx hb dX0_init_12 rfl (lv_at hl 0 rfl) ?_
  refine lv_bipush (v := (16 : Int32)) hx hb dX0_init_13 (by decide) ?_
  refine z_newI (N := 16) hx hb (hts (.arrayClass .int) (List.mem_of_getElem? (i := 4) rfl)) hK hP hD hS hA (by decide) (by decide) (by decide) (Nat.le_of_ble_eq_true rfl) (Nat.le_of_ble_eq_true rfl) dX0_init_15 (fun q15 H hP hD hS => ?_)
  have hP : va_P D vwCl [(h0, .inr (0, [.null, .null, .ref q7, .null, .null, .null, .null, .null, .null, .int 0, .int 0, .int 0])), (q7, .inl (cI, 16, .inl (fun _ => 0))), (q15, .inl (cI, 16, .inl (fun _ => 0)))] H := hP
  have hD : va_D A [(h0, .inr (0, [.null, .null, .ref q7, .null, .null, .null, .null, .null, .null, .int 0, .int 0, .int 0])), (q7, .inl (cI, 16, .inl (fun _ => 0))), (q15, .inl (cI, 16, .inl (fun _ => 0)))] := hD
  refine va_putF (D := D) (ci := 0) (v := .ref q15) (ty := .array .int) (C := RX0) (T := TX0) (N := 12) hx hb hts iw0 tyX0 tyX0_ok nmX0 hown hK hP hD hS 0 rfl rfl 3 (by decide) (hts _ (List.mem_of_getElem? (i := 6) rfl)) (fun _ h9 => h9) rfl hin rfl (by decide +kernel) rfl rfl (Nat.le_of_ble_eq_true rfl) dX0_init_17 (fun H locs hP hD hS => ?_)
  have hP : va_P D vwCl [(h0, .inr (0, [.null, .null, .ref q7, .ref q15, .null, .null, .null, .null, .null, .int 0, .int 0, .int 0])), (q7, .inl (cI, 16, .inl (fun _ => 0))), (q15, .inl (cI, 16, .inl (fun _ => 0)))] H := hP
  have hD : va_D A [(h0, .inr (0, [.null, .null, .ref q7, .ref q15, .null, .null, .null, .null, .null, .int 0, .int 0, .int 0])), (q7, .inl (cI, 16, .inl (fun _ => 0))), (q15, .inl (cI, 16, .inl (fun _ => 0)))] := hD
  refine lv_aload_n hx hb dX0_init_20 rfl (lv_at hl 0 rfl) ?_
  refine lv_bipush (v := (16 : Int32)) hx hb dX0_init_21 (by decide) ?_
  refine z_newI (N := 16) hx hb (hts (.arrayClass .int) (List.mem_of_getElem? (i := 4) rfl)) hK hP hD hS hA (by decide) (by decide) (by decide) (Nat.le_of_ble_eq_true rfl) (Nat.le_of_ble_eq_true rfl) dX0_init_23 (fun q23 H hP hD hS => ?_)
  have hP : va_P D vwCl [(h0, .inr (0, [.null, .null, .ref q7, .ref q15, .null, .null, .null, .null, .null, .int 0, .int 0, .int 0])), (q7, .inl (cI, 16, .inl (fun _ => 0))), (q15, .inl (cI, 16, .inl (fun _ => 0))), (q23, .inl (cI, 16, .inl (fun _ => 0)))] H := hP
  have hD : va_D A [(h0, .inr (0, [.null, .null, .ref q7, .ref q15, .null, .null, .null, .null, .null, .int 0, .int 0, .int 0])), (q7, .inl (cI, 16, .inl (fun _ => 0))), (q15, .inl (cI, 16, .inl (fun _ => 0))), (q23, .inl (cI, 16, .inl (fun _ => 0)))] := hD
  refine va_putF (D := D) (ci := 0) (v := .ref q23) (ty := .array .int) (C := RX0) (T := TX0) (N := 12) hx hb hts iw0 tyX0 tyX0_ok nmX0 hown hK hP hD hS 0 rfl rfl 4 (by decide) (hts _ (List.mem_of_getElem? (i := 7) rfl)) (fun _ h9 => h9) rfl hin rfl (by decide +kernel) rfl rfl (Nat.le_of_ble_eq_true rfl) dX0_init_25 (fun H locs hP hD hS => ?_)
  have hP : va_P D vwCl [(h0, .inr (0, [.null, .null, .ref q7, .ref q15, .ref q23, .null, .null, .null, .null, .int 0, .int 0, .int 0])), (q7, .inl (cI, 16, .inl (fun _ => 0))), (q15, .inl (cI, 16, .inl (fun _ => 0))), (q23, .inl (cI, 16, .inl (fun _ => 0)))] H := hP
  have hD : va_D A [(h0, .inr (0, [.null, .null, .ref q7, .ref q15, .ref q23, .null, .null, .null, .null, .int 0, .int 0, .int 0])), (q7, .inl (cI, 16, .inl (fun _ => 0))), (q15, .inl (cI, 16, .inl (fun _ => 0))), (q23, .inl (cI, 16, .inl (fun _ => 0)))] := hD
  refine lv_aload_n hx hb dX0_init_28 rfl (lv_at hl 0 rfl) ?_
  refine lv_bipush (v := (16 : Int32)) hx hb dX0_init_29 (by decide) ?_
  refine z_newI (N := 16) hx hb (hts (.arrayClass .int) (List.mem_of_getElem? (i := 4) rfl)) hK hP hD hS hA (by decide) (by decide) (by decide) (Nat.le_of_ble_eq_true rfl) (Nat.le_of_ble_eq_true rfl) dX0_init_31 (fun q31 H hP hD hS => ?_)
  have hP : va_P D vwCl [(h0, .inr (0, [.null, .null, .ref q7, .ref q15, .ref q23, .null, .null, .null, .null, .int 0, .int 0, .int 0])), (q7, .inl (cI, 16, .inl (fun _ => 0))), (q15, .inl (cI, 16, .inl (fun _ => 0))), (q23, .inl (cI, 16, .inl (fun _ => 0))), (q31, .inl (cI, 16, .inl (fun _ => 0)))] H := hP
  have hD : va_D A [(h0, .inr (0, [.null, .null, .ref q7, .ref q15, .ref q23, .null, .null, .null, .null, .int 0, .int 0, .int 0])), (q7, .inl (cI, 16, .inl (fun _ => 0))), (q15, .inl (cI, 16, .inl (fun _ => 0))), (q23, .inl (cI, 16, .inl (fun _ => 0))), (q31, .inl (cI, 16, .inl (fun _ => 0)))] := hD
  refine va_putF (D := D) (ci := 0) (v := .ref q31) (ty := .array .int) (C := RX0) (T := TX0) (N := 12) hx hb hts iw0 tyX0 tyX0_ok nmX0 hown hK hP hD hS 0 rfl rfl 5 (by decide) (hts _ (List.mem_of_getElem? (i := 8) rfl)) (fun _ h9 => h9) rfl hin rfl (by decide +kernel) rfl rfl (Nat.le_of_ble_eq_true rfl) dX0_init_33 (fun H locs hP hD hS => ?_)
  have hP : va_P D vwCl [(h0, .inr (0, [.null, .null, .ref q7, .ref q15, .ref q23, .ref q31, .null, .null, .null, .int 0, .int 0, .int 0])), (q7, .inl (cI, 16, .inl (fun _ => 0))), (q15, .inl (cI, 16, .inl (fun _ => 0))), (q23, .inl (cI, 16, .inl (fun _ => 0))), (q31, .inl (cI, 16, .inl (fun _ => 0)))] H := hP
  have hD : va_D A [(h0, .inr (0, [.null, .null, .ref q7, .ref q15, .ref q23, .ref q31, .null, .null, .null, .int 0, .int 0, .int 0])), (q7, .inl (cI, 16, .inl (fun _ => 0))), (q15, .inl (cI, 16, .inl (fun _ => 0))), (q23, .inl (cI, 16, .inl (fun _ => 0))), (q31, .inl (cI, 16, .inl (fun _ => 0)))] := hD
  refine lv_aload_n hx hb dX0_init_36 rfl (lv_at hl 0 rfl) ?_
  refine lv_bipush (v := (16 : Int32)) hx hb dX0_init_37 (by decide) ?_
  refine z_newI (N := 16) hx hb (hts (.arrayClass .int) (List.mem_of_getElem? (i := 4) rfl)) hK hP hD hS hA (by decide) (by decide) (by decide) (Nat.le_of_ble_eq_true rfl) (Nat.le_of_ble_eq_true rfl) dX0_init_39 (fun q39 H hP hD hS => ?_)
  have hP : va_P D vwCl [(h0, .inr (0, [.null, .null, .ref q7, .ref q15, .ref q23, .ref q31, .null, .null, .null, .int 0, .int 0, .int 0])), (q7, .inl (cI, 16, .inl (fun _ => 0))), (q15, .inl (cI, 16, .inl (fun _ => 0))), (q23, .inl (cI, 16, .inl (fun _ => 0))), (q31, .inl (cI, 16, .inl (fun _ => 0))), (q39, .inl (cI, 16, .inl (fun _ => 0)))] H := hP
  have hD : va_D A [(h0, .inr (0, [.null, .null, .ref q7, .ref q15, .ref q23, .ref q31, .null, .null, .null, .int 0, .int 0, .int 0])), (q7, .inl (cI, 16, .inl (fun _ => 0))), (q15, .inl (cI, 16, .inl (fun _ => 0))), (q23, .inl (cI, 16, .inl (fun _ => 0))), (q31, .inl (cI, 16, .inl (fun _ => 0))), (q39, .inl (cI, 16, .inl (fun _ => 0)))] := hD
  refine va_putF (D := D) (ci := 0) (v := .ref q39) (ty := .array .int) (C := RX0) (T := TX0) (N := 12) hx hb hts iw0 tyX0 tyX0_ok nmX0 hown hK hP hD hS 0 rfl rfl 6 (by decide) (hts _ (List.mem_of_getElem? (i := 9) rfl)) (fun _ h9 => h9) rfl hin rfl (by decide +kernel) rfl rfl (Nat.le_of_ble_eq_true rfl) dX0_init_41 (fun H locs hP hD hS => ?_)
  have hP : va_P D vwCl [(h0, .inr (0, [.null, .null, .ref q7, .ref q15, .ref q23, .ref q31, .ref q39, .null, .null, .int 0, .int 0, .int 0])), (q7, .inl (cI, 16, .inl (fun _ => 0))), (q15, .inl (cI, 16, .inl (fun _ => 0))), (q23, .inl (cI, 16, .inl (fun _ => 0))), (q31, .inl (cI, 16, .inl (fun _ => 0))), (q39, .inl (cI, 16, .inl (fun _ => 0)))] H := hP
  have hD : va_D A [(h0, .inr (0, [.null, .null, .ref q7, .ref q15, .ref q23, .ref q31, .ref q39, .null, .null, .int 0, .int 0, .int 0])), (q7, .inl (cI, 16, .inl (fun _ => 0))), (q15, .inl (cI, 16, .inl (fun _ => 0))), (q23, .inl (cI, 16, .inl (fun _ => 0))), (q31, .inl (cI, 16, .inl (fun _ => 0))), (q39, .inl (cI, 16, .inl (fun _ => 0)))] := hD
  refine lv_aload_n hx hb dX0_init_44 rfl (lv_at hl 0 rfl) ?_
  refine lv_bipush (v := (16 : Int32)) hx hb dX0_init_45 (by decide) ?_
  refine z_newI (N := 16) hx hb (hts (.arrayClass .int) (List.mem_of_getElem? (i := 4) rfl)) hK hP hD hS hA (by decide) (by decide) (by decide) (Nat.le_of_ble_eq_true rfl) (Nat.le_of_ble_eq_true rfl) dX0_init_47 (fun q47 H hP hD hS => ?_)
  have hP : va_P D vwCl [(h0, .inr (0, [.null, .null, .ref q7, .ref q15, .ref q23, .ref q31, .ref q39, .null, .null, .int 0, .int 0, .int 0])), (q7, .inl (cI, 16, .inl (fun _ => 0))), (q15, .inl (cI, 16, .inl (fun _ => 0))), (q23, .inl (cI, 16, .inl (fun _ => 0))), (q31, .inl (cI, 16, .inl (fun _ => 0))), (q39, .inl (cI, 16, .inl (fun _ => 0))), (q47, .inl (cI, 16, .inl (fun _ => 0)))] H := hP
  have hD : va_D A [(h0, .inr (0, [.null, .null, .ref q7, .ref q15, .ref q23, .ref q31, .ref q39, .null, .null, .int 0, .int 0, .int 0])), (q7, .inl (cI, 16, .inl (fun _ => 0))), (q15, .inl (cI, 16, .inl (fun _ => 0))), (q23, .inl (cI, 16, .inl (fun _ => 0))), (q31, .inl (cI, 16, .inl (fun _ => 0))), (q39, .inl (cI, 16, .inl (fun _ => 0))), (q47, .inl (cI, 16, .inl (fun _ => 0)))] := hD
  refine va_putF (D := D) (ci := 0) (v := .ref q47) (ty := .array .int) (C := RX0) (T := TX0) (N := 12) hx hb hts iw0 tyX0 tyX0_ok nmX0 hown hK hP hD hS 0 rfl rfl 7 (by decide) (hts _ (List.mem_of_getElem? (i := 10) rfl)) (fun _ h9 => h9) rfl hin rfl (by decide +kernel) rfl rfl (Nat.le_of_ble_eq_true rfl) dX0_init_49 (fun H locs hP hD hS => ?_)
  have hP : va_P D vwCl [(h0, .inr (0, [.null, .null, .ref q7, .ref q15, .ref q23, .ref q31, .ref q39, .ref q47, .null, .int 0, .int 0, .int 0])), (q7, .inl (cI, 16, .inl (fun _ => 0))), (q15, .inl (cI, 16, .inl (fun _ => 0))), (q23, .inl (cI, 16, .inl (fun _ => 0))), (q31, .inl (cI, 16, .inl (fun _ => 0))), (q39, .inl (cI, 16, .inl (fun _ => 0))), (q47, .inl (cI, 16, .inl (fun _ => 0)))] H := hP
  have hD : va_D A [(h0, .inr (0, [.null, .null, .ref q7, .ref q15, .ref q23, .ref q31, .ref q39, .ref q47, .null, .int 0, .int 0, .int 0])), (q7, .inl (cI, 16, .inl (fun _ => 0))), (q15, .inl (cI, 16, .inl (fun _ => 0))), (q23, .inl (cI, 16, .inl (fun _ => 0))), (q31, .inl (cI, 16, .inl (fun _ => 0))), (q39, .inl (cI, 16, .inl (fun _ => 0))), (q47, .inl (cI, 16, .inl (fun _ => 0)))] := hD
  refine lv_aload_n hx hb dX0_init_52 rfl (lv_at hl 0 rfl) ?_
  refine lv_bipush (v := (48 : Int32)) hx hb dX0_init_53 (by decide) ?_
  refine z_newI (N := 48) hx hb (hts (.arrayClass .int) (List.mem_of_getElem? (i := 4) rfl)) hK hP hD hS hA (by decide) (by decide) (by decide) (Nat.le_of_ble_eq_true rfl) (Nat.le_of_ble_eq_true rfl) dX0_init_55 (fun q55 H hP hD hS => ?_)
  have hP : va_P D vwCl [(h0, .inr (0, [.null, .null, .ref q7, .ref q15, .ref q23, .ref q31, .ref q39, .ref q47, .null, .int 0, .int 0, .int 0])), (q7, .inl (cI, 16, .inl (fun _ => 0))), (q15, .inl (cI, 16, .inl (fun _ => 0))), (q23, .inl (cI, 16, .inl (fun _ => 0))), (q31, .inl (cI, 16, .inl (fun _ => 0))), (q39, .inl (cI, 16, .inl (fun _ => 0))), (q47, .inl (cI, 16, .inl (fun _ => 0))), (q55, .inl (cI, 48, .inl (fun _ => 0)))] H := hP
  have hD : va_D A [(h0, .inr (0, [.null, .null, .ref q7, .ref q15, .ref q23, .ref q31, .ref q39, .ref q47, .null, .int 0, .int 0, .int 0])), (q7, .inl (cI, 16, .inl (fun _ => 0))), (q15, .inl (cI, 16, .inl (fun _ => 0))), (q23, .inl (cI, 16, .inl (fun _ => 0))), (q31, .inl (cI, 16, .inl (fun _ => 0))), (q39, .inl (cI, 16, .inl (fun _ => 0))), (q47, .inl (cI, 16, .inl (fun _ => 0))), (q55, .inl (cI, 48, .inl (fun _ => 0)))] := hD
  refine va_putF (D := D) (ci := 0) (v := .ref q55) (ty := .array .int) (C := RX0) (T := TX0) (N := 12) hx hb hts iw0 tyX0 tyX0_ok nmX0 hown hK hP hD hS 0 rfl rfl 8 (by decide) (hts _ (List.mem_of_getElem? (i := 11) rfl)) (fun _ h9 => h9) rfl hin rfl (by decide +kernel) rfl rfl (Nat.le_of_ble_eq_true rfl) dX0_init_57 (fun H locs hP hD hS => ?_)
  have hP : va_P D vwCl [(h0, .inr (0, [.null, .null, .ref q7, .ref q15, .ref q23, .ref q31, .ref q39, .ref q47, .ref q55, .int 0, .int 0, .int 0])), (q7, .inl (cI, 16, .inl (fun _ => 0))), (q15, .inl (cI, 16, .inl (fun _ => 0))), (q23, .inl (cI, 16, .inl (fun _ => 0))), (q31, .inl (cI, 16, .inl (fun _ => 0))), (q39, .inl (cI, 16, .inl (fun _ => 0))), (q47, .inl (cI, 16, .inl (fun _ => 0))), (q55, .inl (cI, 48, .inl (fun _ => 0)))] H := hP
  have hD : va_D A [(h0, .inr (0, [.null, .null, .ref q7, .ref q15, .ref q23, .ref q31, .ref q39, .ref q47, .ref q55, .int 0, .int 0, .int 0])), (q7, .inl (cI, 16, .inl (fun _ => 0))), (q15, .inl (cI, 16, .inl (fun _ => 0))), (q23, .inl (cI, 16, .inl (fun _ => 0))), (q31, .inl (cI, 16, .inl (fun _ => 0))), (q39, .inl (cI, 16, .inl (fun _ => 0))), (q47, .inl (cI, 16, .inl (fun _ => 0))), (q55, .inl (cI, 48, .inl (fun _ => 0)))] := hD
  refine lv_aload_n hx hb dX0_init_60 rfl (lv_at hl 0 rfl) ?_
  refine lv_aload_n hx hb dX0_init_61 rfl (lv_at hl 1 rfl) ?_
  refine va_putF (D := D) (ci := 0) (v := .ref r1) (ty := .object "StationBook$Outbox") (C := RX0) (T := TX0) (N := 12) hx hb hts iw0 tyX0 tyX0_ok nmX0 hown hK hP hD hS 0 rfl rfl 0 (by decide) (hts _ (List.mem_of_getElem? (i := 12) rfl)) (fun _ h9 => h9) rfl hin rfl (by decide +kernel) rfl rfl (Nat.le_of_ble_eq_true rfl) dX0_init_62 (fun H locs hP hD hS => ?_)
  have hP : va_P D vwCl [(h0, .inr (0, [.ref r1, .null, .ref q7, .ref q15, .ref q23, .ref q31, .ref q39, .ref q47, .ref q55, .int 0, .int 0, .int 0])), (q7, .inl (cI, 16, .inl (fun _ => 0))), (q15, .inl (cI, 16, .inl (fun _ => 0))), (q23, .inl (cI, 16, .inl (fun _ => 0))), (q31, .inl (cI, 16, .inl (fun _ => 0))), (q39, .inl (cI, 16, .inl (fun _ => 0))), (q47, .inl (cI, 16, .inl (fun _ => 0))), (q55, .inl (cI, 48, .inl (fun _ => 0)))] H := hP
  have hD : va_D A [(h0, .inr (0, [.ref r1, .null, .ref q7, .ref q15, .ref q23, .ref q31, .ref q39, .ref q47, .ref q55, .int 0, .int 0, .int 0])), (q7, .inl (cI, 16, .inl (fun _ => 0))), (q15, .inl (cI, 16, .inl (fun _ => 0))), (q23, .inl (cI, 16, .inl (fun _ => 0))), (q31, .inl (cI, 16, .inl (fun _ => 0))), (q39, .inl (cI, 16, .inl (fun _ => 0))), (q47, .inl (cI, 16, .inl (fun _ => 0))), (q55, .inl (cI, 48, .inl (fun _ => 0)))] := hD
  refine lv_aload_n hx hb dX0_init_65 rfl (lv_at hl 0 rfl) ?_
  refine lv_aload_n hx hb dX0_init_66 rfl (lv_at hl 2 rfl) ?_
  refine va_putF (D := D) (ci := 0) (v := .ref r2) (ty := .object "StationBook$KeptHops") (C := RX0) (T := TX0) (N := 12) hx hb hts iw0 tyX0 tyX0_ok nmX0 hown hK hP hD hS 0 rfl rfl 1 (by decide) (hts _ (List.mem_of_getElem? (i := 13) rfl)) (fun _ h9 => h9) rfl hin rfl (by decide +kernel) rfl rfl (Nat.le_of_ble_eq_true rfl) dX0_init_67 (fun H locs hP hD hS => ?_)
  have hP : va_P D vwCl [(h0, .inr (0, [.ref r1, .ref r2, .ref q7, .ref q15, .ref q23, .ref q31, .ref q39, .ref q47, .ref q55, .int 0, .int 0, .int 0])), (q7, .inl (cI, 16, .inl (fun _ => 0))), (q15, .inl (cI, 16, .inl (fun _ => 0))), (q23, .inl (cI, 16, .inl (fun _ => 0))), (q31, .inl (cI, 16, .inl (fun _ => 0))), (q39, .inl (cI, 16, .inl (fun _ => 0))), (q47, .inl (cI, 16, .inl (fun _ => 0))), (q55, .inl (cI, 48, .inl (fun _ => 0)))] H := hP
  have hD : va_D A [(h0, .inr (0, [.ref r1, .ref r2, .ref q7, .ref q15, .ref q23, .ref q31, .ref q39, .ref q47, .ref q55, .int 0, .int 0, .int 0])), (q7, .inl (cI, 16, .inl (fun _ => 0))), (q15, .inl (cI, 16, .inl (fun _ => 0))), (q23, .inl (cI, 16, .inl (fun _ => 0))), (q31, .inl (cI, 16, .inl (fun _ => 0))), (q39, .inl (cI, 16, .inl (fun _ => 0))), (q47, .inl (cI, 16, .inl (fun _ => 0))), (q55, .inl (cI, 48, .inl (fun _ => 0)))] := hD
  refine lv_aload_n hx hb dX0_init_70 rfl (lv_at hl 0 rfl) ?_
  refine lv_iconst (v := (0 : Int32)) hx hb dX0_init_71 (by decide) ?_
  refine va_put (D := D) (ci := 0) (v := .int (0)) (ty := .int) (C := RX0) (T := TX0) (N := 12) hx hb hts iw0 tyX0 tyX0_ok nmX0 hown hK hP hD hS 0 rfl rfl 9 (by decide) (hts _ (List.mem_of_getElem? (i := 14) rfl)) (fun _ h9 => h9) rfl (by decide +kernel) rfl rfl (Nat.le_of_ble_eq_true rfl) dX0_init_72 (fun H locs hP hD hS => ?_)
  have hP : va_P D vwCl [(h0, .inr (0, [.ref r1, .ref r2, .ref q7, .ref q15, .ref q23, .ref q31, .ref q39, .ref q47, .ref q55, .int (0), .int 0, .int 0])), (q7, .inl (cI, 16, .inl (fun _ => 0))), (q15, .inl (cI, 16, .inl (fun _ => 0))), (q23, .inl (cI, 16, .inl (fun _ => 0))), (q31, .inl (cI, 16, .inl (fun _ => 0))), (q39, .inl (cI, 16, .inl (fun _ => 0))), (q47, .inl (cI, 16, .inl (fun _ => 0))), (q55, .inl (cI, 48, .inl (fun _ => 0)))] H := hP
  have hD : va_D A [(h0, .inr (0, [.ref r1, .ref r2, .ref q7, .ref q15, .ref q23, .ref q31, .ref q39, .ref q47, .ref q55, .int (0), .int 0, .int 0])), (q7, .inl (cI, 16, .inl (fun _ => 0))), (q15, .inl (cI, 16, .inl (fun _ => 0))), (q23, .inl (cI, 16, .inl (fun _ => 0))), (q31, .inl (cI, 16, .inl (fun _ => 0))), (q39, .inl (cI, 16, .inl (fun _ => 0))), (q47, .inl (cI, 16, .inl (fun _ => 0))), (q55, .inl (cI, 48, .inl (fun _ => 0)))] := hD
  refine lv_aload_n hx hb dX0_init_75 rfl (lv_at hl 0 rfl) ?_
  refine lv_iconst (v := (0 : Int32)) hx hb dX0_init_76 (by decide) ?_
  refine va_put (D := D) (ci := 0) (v := .int (0)) (ty := .int) (C := RX0) (T := TX0) (N := 12) hx hb hts iw0 tyX0 tyX0_ok nmX0 hown hK hP hD hS 0 rfl rfl 10 (by decide) (hts _ (List.mem_of_getElem? (i := 15) rfl)) (fun _ h9 => h9) rfl (by decide +kernel) rfl rfl (Nat.le_of_ble_eq_true rfl) dX0_init_77 (fun H locs hP hD hS => ?_)
  have hP : va_P D vwCl [(h0, .inr (0, [.ref r1, .ref r2, .ref q7, .ref q15, .ref q23, .ref q31, .ref q39, .ref q47, .ref q55, .int (0), .int (0), .int 0])), (q7, .inl (cI, 16, .inl (fun _ => 0))), (q15, .inl (cI, 16, .inl (fun _ => 0))), (q23, .inl (cI, 16, .inl (fun _ => 0))), (q31, .inl (cI, 16, .inl (fun _ => 0))), (q39, .inl (cI, 16, .inl (fun _ => 0))), (q47, .inl (cI, 16, .inl (fun _ => 0))), (q55, .inl (cI, 48, .inl (fun _ => 0)))] H := hP
  have hD : va_D A [(h0, .inr (0, [.ref r1, .ref r2, .ref q7, .ref q15, .ref q23, .ref q31, .ref q39, .ref q47, .ref q55, .int (0), .int (0), .int 0])), (q7, .inl (cI, 16, .inl (fun _ => 0))), (q15, .inl (cI, 16, .inl (fun _ => 0))), (q23, .inl (cI, 16, .inl (fun _ => 0))), (q31, .inl (cI, 16, .inl (fun _ => 0))), (q39, .inl (cI, 16, .inl (fun _ => 0))), (q47, .inl (cI, 16, .inl (fun _ => 0))), (q55, .inl (cI, 48, .inl (fun _ => 0)))] := hD
  refine lv_aload_n hx hb dX0_init_80 rfl (lv_at hl 0 rfl) ?_
  refine lv_iconst (v := (0 : Int32)) hx hb dX0_init_81 (by decide) ?_
  refine va_put (D := D) (ci := 0) (v := .int (0)) (ty := .int) (C := RX0) (T := TX0) (N := 12) hx hb hts iw0 tyX0 tyX0_ok nmX0 hown hK hP hD hS 0 rfl rfl 11 (by decide) (hts _ (List.mem_of_getElem? (i := 16) rfl)) (fun _ h9 => h9) rfl (by decide +kernel) rfl rfl (Nat.le_of_ble_eq_true rfl) dX0_init_82 (fun H locs hP hD hS => ?_)
  have hP : va_P D vwCl [(h0, .inr (0, [.ref r1, .ref r2, .ref q7, .ref q15, .ref q23, .ref q31, .ref q39, .ref q47, .ref q55, .int (0), .int (0), .int (0)])), (q7, .inl (cI, 16, .inl (fun _ => 0))), (q15, .inl (cI, 16, .inl (fun _ => 0))), (q23, .inl (cI, 16, .inl (fun _ => 0))), (q31, .inl (cI, 16, .inl (fun _ => 0))), (q39, .inl (cI, 16, .inl (fun _ => 0))), (q47, .inl (cI, 16, .inl (fun _ => 0))), (q55, .inl (cI, 48, .inl (fun _ => 0)))] H := hP
  have hD : va_D A [(h0, .inr (0, [.ref r1, .ref r2, .ref q7, .ref q15, .ref q23, .ref q31, .ref q39, .ref q47, .ref q55, .int (0), .int (0), .int (0)])), (q7, .inl (cI, 16, .inl (fun _ => 0))), (q15, .inl (cI, 16, .inl (fun _ => 0))), (q23, .inl (cI, 16, .inl (fun _ => 0))), (q31, .inl (cI, 16, .inl (fun _ => 0))), (q39, .inl (cI, 16, .inl (fun _ => 0))), (q47, .inl (cI, 16, .inl (fun _ => 0))), (q55, .inl (cI, 48, .inl (fun _ => 0)))] := hD
  refine lv_iconst (v := (0 : Int32)) hx hb dX0_init_85 (by decide) ?_
  refine lv_istore_n (lv' := [(3, .int (nI 0)), (0, .ref h0), (1, .ref r1), (2, .ref r2)]) hx hb dX0_init_86 rfl hl (by decide) rfl (fun ls hl => ?_)
  exact iX0_loop hx hb hr hts hown hlocks hK 16 0 (by omega) H locs hP hD hS ls (lv_sub hl [1, 0] rfl)
end ZK
