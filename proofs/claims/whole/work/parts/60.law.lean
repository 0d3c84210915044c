/-! ===== the law ===== -/
theorem Rel0 : Rel 16 0 zS0 zT0 := by
  refine ⟨⟨rfl, rfl⟩, ⟨rfl, rfl, rfl, rfl, ⟨fun _ => rfl, fun m h => absurd h (by omega)⟩, rfl, rfl, rfl, Or.inl rfl⟩, ⟨rfl, rfl, rfl, rfl, rfl, rfl⟩, ?_, ⟨by decide, by decide⟩, ⟨0, by omega, rfl, rfl, fun i h => absurd h (by omega)⟩, ⟨0, fun _ => 0, by omega, rfl, fun i h => absurd h (by omega), fun i j h => absurd h (by omega), fun k _ => ⟨Or.inl rfl, fun h => absurd h (show ¬ ((0 : Int32) = 1) by decide), fun ⟨i, h, _⟩ => absurd h (by omega)⟩⟩, ⟨0, 9, by omega, by omega, rfl, rfl, rfl, rfl, rfl, fun i h => absurd h (by omega)⟩⟩
  intro k hk
  refine ⟨Or.inl rfl, Or.inl ⟨rfl, ?_, rfl⟩⟩
  show (if k < 16 then (-1 : Int32) else 0) = -1
  exact if_pos hk
theorem Rel1 : ∃ S1 T1, fX2_add zS0 5 (-1) 0 0 0 = some S1 ∧ fX5_goOut zT0 5 (-1) 0 0 = some T1 ∧ Rel 16 0 S1 T1 := by
  obtain ⟨S1, T1, h1, h2, -, -, h3⟩ := Rel0.go 5 (-1) 0 0 0 rfl
  exact ⟨S1, T1, h1, h2, h3⟩
def zbo (x : Int32) : Int32 := if x = 0 then 0 else 1
section ZL
variable {p : Program} {l : Launch} {e : Env} {R : Room} {s : State} {m : MethodId} {args : Array Value} {below : List Frame} {meth : Method} {c : Code} {H H0 : Heap} {locs : List Loc} {cells slots : Nat} {Q : State → Prop} {pc : Nat} {ls : Array Slot} {rest st0 : List Value} {D : va_G} {a b' : Nat → Nat} {cI cZ : ClassId} {A : Nat → Prop} {S T : zS} {ar : Array Value}
def zTw (D : va_G) (cI cZ : ClassId) (A : Nat → Prop) (a b' : Nat → Nat) (S T : zS) (H : Heap) : Prop := va_P D vwCl (wX a cI S ++ wM b' cI cZ T) H ∧ va_D A (wX a cI S ++ wM b' cI cZ T)
theorem zTw.X (h : zTw D cI cZ A a b' S T H) : va_P D vwCl (wX a cI S) H := h.1.sub [0, 1, 2, 3, 4, 5, 6, 7, 8, 9, 10, 11, 12, 13, 14, 15, 16, 17] rfl
theorem zTw.M (h : zTw D cI cZ A a b' S T H) : va_P D vwCl (wM b' cI cZ T) H := h.1.sub [18, 19, 20, 21, 22, 23, 24, 25, 26, 27, 28, 29, 30, 31, 32] rfl
theorem zTw.DX (h : zTw D cI cZ A a b' S T H) : va_D (va_A (wX a cI S) H.size) (wX a cI S) := (h.2.sub (ws' := wX a cI S) [0, 1, 2, 3, 4, 5, 6, 7, 8, 9, 10, 11, 12, 13, 14, 15, 16, 17] (by decide) rfl).self
theorem zTw.DM (h : zTw D cI cZ A a b' S T H) : va_D (va_A (wM b' cI cZ T) H.size) (wM b' cI cZ T) := (h.2.sub (ws' := wM b' cI cZ T) [18, 19, 20, 21, 22, 23, 24, 25, 26, 27, 28, 29, 30, 31, 32] (by decide) rfl).self
theorem zTw.jX {H1 : Heap} {S' : zS} (h : zTw D cI cZ A a b' S T H) (hF : ∀ q, va_A (wX a cI S) H.size q → A q) (hk : ∀ q : Nat, q < H.size → ¬ va_A (wX a cI S) H.size q → H1[q]? = H[q]?) (h1 : va_P D vwCl (wX a cI S') H1) (h2 : va_D (va_A (wX a cI S) H.size) (wX a cI S')) : zTw D cI cZ A a b' S' T H1 := by
  obtain ⟨j1, j2⟩ := va_join (wc := wX a cI S) (wr := wM b' cI cZ T) (w1 := wX a cI S') h.1 h.2 [0, 1, 2, 3, 4, 5, 6, 7, 8, 9, 10, 11, 12, 13, 14, 15, 16, 17] [18, 19, 20, 21, 22, 23, 24, 25, 26, 27, 28, 29, 30, 31, 32] rfl rfl (by decide) (by decide) hk hF h1 h2
  exact ⟨j1.sub [15, 16, 17, 18, 19, 20, 21, 22, 23, 24, 25, 26, 27, 28, 29, 30, 31, 32, 0, 1, 2, 3, 4, 5, 6, 7, 8, 9, 10, 11, 12, 13, 14] rfl, j2.sub [15, 16, 17, 18, 19, 20, 21, 22, 23, 24, 25, 26, 27, 28, 29, 30, 31, 32, 0, 1, 2, 3, 4, 5, 6, 7, 8, 9, 10, 11, 12, 13, 14] (by decide) rfl⟩
theorem zTw.jM {H1 : Heap} {T' : zS} (h : zTw D cI cZ A a b' S T H) (hF : ∀ q, va_A (wM b' cI cZ T) H.size q → A q) (hk : ∀ q : Nat, q < H.size → ¬ va_A (wM b' cI cZ T) H.size q → H1[q]? = H[q]?) (h1 : va_P D vwCl (wM b' cI cZ T') H1) (h2 : va_D (va_A (wM b' cI cZ T) H.size) (wM b' cI cZ T')) : zTw D cI cZ A a b' S T' H1 := by
  obtain ⟨j1, j2⟩ := va_join (wc := wM b' cI cZ T) (wr := wX a cI S) (w1 := wM b' cI cZ T') h.1 h.2 [18, 19, 20, 21, 22, 23, 24, 25, 26, 27, 28, 29, 30, 31, 32] [0, 1, 2, 3, 4, 5, 6, 7, 8, 9, 10, 11, 12, 13, 14, 15, 16, 17] rfl rfl (by decide) (by decide) hk hF h1 h2
  exact ⟨j1, j2⟩
theorem zlXi {r : Int32 × zS} (h : zTw D cI cZ A a b' S T H) (hA : ∀ q, H0.size ≤ q → A q) (hS : va_S A H0 H locs) (hr : va_Run p l e R s m args below meth c H locs cells slots 0 0 (F0 m pc ls st0) rest (va_Qi (fun v u => v = r.1 ∧ u = r.2) (zB D (va_A (wX a cI S) H.size) (wX a cI)) (va_A (wX a cI S) H.size) ar) (va_A (wX a cI S) H.size)) (kk : ∀ (H : Heap) (locs : List Loc), zTw D cI cZ A a b' r.2 T H → va_S A H0 H locs → W p l e R s m args below meth c H locs cells slots Q (F0 m (pc + 3) ls (.int r.1 :: rest))) : W p l e R s m args below meth c H locs cells slots Q (F0 m pc ls st0) := by
  have hF := va_free (wc := (wX a cI S)) h.2 hS hA [0, 1, 2, 3, 4, 5, 6, 7, 8, 9, 10, 11, 12, 13, 14, 15, 16, 17] rfl
  refine va_calli hr hS (fun q _ h => hF q h) hF (fun v u t H1 locs1 ht hvm hw hB hz hk hS1 => ?_)
  obtain ⟨rfl, rfl⟩ := hw
  obtain ⟨b1, b2⟩ := hB
  rw [ht] at b1
  exact kk H1 locs1 (h.jX hF hk b1 b2) hS1
theorem zlMi {r : Int32 × zS} (h : zTw D cI cZ A a b' S T H) (hA : ∀ q, H0.size ≤ q → A q) (hS : va_S A H0 H locs) (hr : va_Run p l e R s m args below meth c H locs cells slots 0 0 (F0 m pc ls st0) rest (va_Qi (fun v u => v = r.1 ∧ u = r.2) (zB D (va_A (wM b' cI cZ T) H.size) (wM b' cI cZ)) (va_A (wM b' cI cZ T) H.size) ar) (va_A (wM b' cI cZ T) H.size)) (kk : ∀ (H : Heap) (locs : List Loc), zTw D cI cZ A a b' S r.2 H → va_S A H0 H locs → W p l e R s m args below meth c H locs cells slots Q (F0 m (pc + 3) ls (.int r.1 :: rest))) : W p l e R s m args below meth c H locs cells slots Q (F0 m pc ls st0) := by
  have hF := va_free (wc := (wM b' cI cZ T)) h.2 hS hA [18, 19, 20, 21, 22, 23, 24, 25, 26, 27, 28, 29, 30, 31, 32] rfl
  refine va_calli hr hS (fun q _ h => hF q h) hF (fun v u t H1 locs1 ht hvm hw hB hz hk hS1 => ?_)
  obtain ⟨rfl, rfl⟩ := hw
  obtain ⟨b1, b2⟩ := hB
  rw [ht] at b1
  exact kk H1 locs1 (h.jM hF hk b1 b2) hS1
theorem zlXl {r : Int64 × zS} (h : zTw D cI cZ A a b' S T H) (hA : ∀ q, H0.size ≤ q → A q) (hS : va_S A H0 H locs) (hr : va_Run p l e R s m args below meth c H locs cells slots 0 0 (F0 m pc ls st0) rest (va_Ql (fun v u => v = r.1 ∧ u = r.2) (zB D (va_A (wX a cI S) H.size) (wX a cI)) (va_A (wX a cI S) H.size) ar) (va_A (wX a cI S) H.size)) (kk : ∀ (H : Heap) (locs : List Loc), zTw D cI cZ A a b' r.2 T H → va_S A H0 H locs → W p l e R s m args below meth c H locs cells slots Q (F0 m (pc + 3) ls (.long r.1 :: rest))) : W p l e R s m args below meth c H locs cells slots Q (F0 m pc ls st0) := by
  have hF := va_free (wc := (wX a cI S)) h.2 hS hA [0, 1, 2, 3, 4, 5, 6, 7, 8, 9, 10, 11, 12, 13, 14, 15, 16, 17] rfl
  refine va_calll hr hS (fun q _ h => hF q h) hF (fun v u t H1 locs1 ht hvm hw hB hz hk hS1 => ?_)
  obtain ⟨rfl, rfl⟩ := hw
  obtain ⟨b1, b2⟩ := hB
  rw [ht] at b1
  exact kk H1 locs1 (h.jX hF hk b1 b2) hS1
theorem zlMl {r : Int64 × zS} (h : zTw D cI cZ A a b' S T H) (hA : ∀ q, H0.size ≤ q → A q) (hS : va_S A H0 H locs) (hr : va_Run p l e R s m args below meth c H locs cells slots 0 0 (F0 m pc ls st0) rest (va_Ql (fun v u => v = r.1 ∧ u = r.2) (zB D (va_A (wM b' cI cZ T) H.size) (wM b' cI cZ)) (va_A (wM b' cI cZ T) H.size) ar) (va_A (wM b' cI cZ T) H.size)) (kk : ∀ (H : Heap) (locs : List Loc), zTw D cI cZ A a b' S r.2 H → va_S A H0 H locs → W p l e R s m args below meth c H locs cells slots Q (F0 m (pc + 3) ls (.long r.1 :: rest))) : W p l e R s m args below meth c H locs cells slots Q (F0 m pc ls st0) := by
  have hF := va_free (wc := (wM b' cI cZ T)) h.2 hS hA [18, 19, 20, 21, 22, 23, 24, 25, 26, 27, 28, 29, 30, 31, 32] rfl
  refine va_calll hr hS (fun q _ h => hF q h) hF (fun v u t H1 locs1 ht hvm hw hB hz hk hS1 => ?_)
  obtain ⟨rfl, rfl⟩ := hw
  obtain ⟨b1, b2⟩ := hB
  rw [ht] at b1
  exact kk H1 locs1 (h.jM hF hk b1 b2) hS1
theorem zbq {x : Int32} (hx : p.tables.exec = Jvm.exec) (hb : c.code = cL_law) (d1 : decode cL_law pc = .ok (.ifCond .eq 7, 3)) (d2 : decode cL_law (pc + 3) = .ok (.iconst 1, 1)) (d3 : decode cL_law (pc + 4) = .ok (.goto 4, 3)) (d4 : decode cL_law (pc + 7) = .ok (.iconst 0, 1)) (kk : W p l e R s m args below meth c H locs cells slots Q (F0 m (pc + 8) ls (.int (zbo x) :: rest))) : W p l e R s m args below meth c H locs cells slots Q (F0 m pc ls (.int x :: rest)) := by
  refine lv_if_eq (tgt := pc + 7) hx hb d1 (by omega) (fun h => ?_) (fun h => ?_)
  · refine lv_iconst (v := 0) hx hb d4 (by decide) ?_
    rw [show zbo x = 0 from if_pos h] at kk
    exact kk
  · refine lv_iconst (v := 1) hx hb d2 (by decide) ?_
    refine lv_goto (tgt := pc + 8) hx hb d3 (by omega) ?_
    rw [show zbo x = 1 from if_neg h] at kk
    exact kk
theorem zarg {b L i : Nat} {xs : Nat → Int32} {lv : List (Nat × Value)} (hx : p.tables.exec = Jvm.exec) (hb : c.code = cL_law) (hX : va_X b L xs s H0) (hbl : b < H0.size) (hbA : ¬ A b) (hS : va_S A H0 H locs) (hl : lv_has ls 4 ((0, .ref b) :: lv)) (hl3 : ls[3]? = some (.val (.int (nI i)))) (hL : L ≤ 3072) (k : Nat) (n : Int) (hn : Int32.ofInt n = nI k) (hk : i + k < L) (d1 : decode cL_law pc = .ok (.aload_n 0, 1)) (d2 : decode cL_law (pc + 1) = .ok (.iload_n 3, 1)) (d3 : decode cL_law (pc + 2) = .ok (.iconst n, 1)) (d4 : decode cL_law (pc + 3) = .ok (.iadd, 1)) (d5 : decode cL_law (pc + 4) = .ok (.iaload, 1)) (kk : W p l e R s m args below meth c H locs cells slots Q (F0 m (pc + 5) ls (.int (xs (i + k)) :: rest))) : W p l e R s m args below meth c H locs cells slots Q (F0 m pc ls rest) := by
  refine lv_aload_n hx hb d1 rfl (lv_at hl 0 rfl) ?_
  refine lv_iload_n hx hb d2 rfl hl3 ?_
  refine lv_iconst (v := nI k) hx hb d3 hn ?_
  refine lv_iadd hx hb d4 ?_
  rw [nI_add]
  refine va_sld hx hb hX hbl hbA hS (vp_in_nI hk (by omega)) d5 ?_
  rw [nI_clamp (by omega)]
  exact kk
end ZL
set_option maxHeartbeats 4000000 in
set_option maxRecDepth 100000 in
theorem lwc_pass {p : Program} {l : Launch} {e : Env} {s : State} {m : MethodId} {below : List Frame} {meth : Method} {c : Code} {H : Heap} {locs : List Loc} {Q : State → Prop} {ls : Array Slot} {D : va_G} {a b' : Nat → Nat} {cI cZ : ClassId} {S T : zS} {b L i cn : Nat} {xs : Nat → Int32} (C0 : lw_At p s m meth c b L xs) (hi : i + 6 ≤ L) (hL : L ≤ 3072) (hK : va_K D vwCl (zT cI cZ) s) (hN : zN s) (hcn : cn < 800000) (hR : Rel 16 cn S T) (hw : zTw D cI cZ (fun q : Nat => s.heap.size ≤ q) a b' S T H) (hS : va_S (fun q : Nat => s.heap.size ≤ q) s.heap H locs) (hl : lv_has ls 4 [(0, .ref b), (1, .ref (a 0)), (2, .ref (b' 0)), (3, .int (nI i))]) (kk : ∀ (S' T' : zS) (c' : Nat) (H : Heap) (locs : List Loc), Rel 16 c' S' T' → c' ≤ cn + 60 → zTw D cI cZ (fun q : Nat => s.heap.size ≤ q) a b' S' T' H → va_S (fun q : Nat => s.heap.size ≤ q) s.heap H locs → W p l e room_1 s m #[Value.ref b] below meth c H locs 33 543 Q (F0 m 733 ls [])) : W p l e room_1 s m #[Value.ref b] below meth c H locs 33 543 Q (F0 m 120 ls []) := by
  obtain ⟨hx, hb, hr, hml, hown, hts, hX, hbl, hlocks, hgv⟩ := C0
  have hb : c.code = cL_law := hb
  have hown : s.vm.findClass RL = some m.cls := hown
  have hts : ∀ w ∈ wsL_law, w.before #[Value.ref b] s = true := fun w h => hts w (wsL_law_in w h)
  have hA : ∀ q : Nat, s.heap.size ≤ q → (fun q : Nat => s.heap.size ≤ q) q := fun _ h => h
  have hbA : ¬ (fun q : Nat => s.heap.size ≤ q) b := Nat.not_le.mpr hbl
  obtain ⟨r, S', T', c', e1, e2, hR', hc'⟩ := sim_pass hcn hR (xs (i + 1))
  refine lv_aload_n hx hb dL_law_120 rfl (lv_at hl 1 rfl) ?_
  refine zarg (i := i) hx hb hX hbl hbA hS hl (lv_at hl 3 rfl) hL 1 1 (by decide) (by omega) dL_law_121 dL_law_122 dL_law_123 dL_law_124 dL_law_125 ?_
  refine zlXi (r := (r, S')) hw hA hS (va_runV (As := [.int (xs (i + 1))]) (rest := []) ⟨hx, hb, hml, hown, hts⟩ (tX4_pass (a := a) (cI := cI) (cZ := cZ) (A := va_A (wX a cI S) H.size) e1) (cwV 1 hts gL_law_X4_pass rfl rfl rfl (by decide +kernel) ⟨Nat.le_of_ble_eq_true rfl, Nat.le_of_ble_eq_true rfl⟩) (zpV hw.X hK hw.DX hN (rX_0 hK hw.X)) rfl rfl hl.1 rfl (lv_room (Nat.le_of_ble_eq_true rfl)) dL_law_126 ⟨Nat.le_of_ble_eq_true rfl, Nat.le_of_ble_eq_true rfl⟩) (fun H locs hw hS => ?_)
  refine lv_aload_n hx hb dL_law_129 rfl (lv_at hl 2 rfl) ?_
  refine zarg (i := i) hx hb hX hbl hbA hS hl (lv_at hl 3 rfl) hL 1 1 (by decide) (by omega) dL_law_130 dL_law_131 dL_law_132 dL_law_133 dL_law_134 ?_
  refine zlMi (r := (r, T')) hw hA hS (va_runV (As := [.int (xs (i + 1))]) (rest := [.int r]) ⟨hx, hb, hml, hown, hts⟩ (tX5_pass (a := b') (cI := cI) (cZ := cZ) (A := va_A (wM b' cI cZ T) H.size) e2) (cwV 1 hts gL_law_X5_pass rfl rfl rfl (by decide +kernel) ⟨Nat.le_of_ble_eq_true rfl, Nat.le_of_ble_eq_true rfl⟩) (zpV hw.M hK hw.DM hN (rM_0 hK hw.M)) rfl rfl hl.1 rfl (lv_room (Nat.le_of_ble_eq_true rfl)) dL_law_135 ⟨Nat.le_of_ble_eq_true rfl, Nat.le_of_ble_eq_true rfl⟩) (fun H locs hw hS => ?_)
  exact lv_icmp_eq (tgt := 733) hx hb dL_law_138 (by decide) (fun _ => kk S' T' c' H locs hR' hc' hw hS) (fun h => absurd rfl h)
set_option maxHeartbeats 4000000 in
set_option maxRecDepth 100000 in
theorem lwc_send {p : Program} {l : Launch} {e : Env} {s : State} {m : MethodId} {below : List Frame} {meth : Method} {c : Code} {H : Heap} {locs : List Loc} {Q : State → Prop} {ls : Array Slot} {D : va_G} {a b' : Nat → Nat} {cI cZ : ClassId} {S T : zS} {b L i cn : Nat} {xs : Nat → Int32} (C0 : lw_At p s m meth c b L xs) (hi : i + 6 ≤ L) (hL : L ≤ 3072) (hK : va_K D vwCl (zT cI cZ) s) (hN : zN s) (hcn : cn < 800000) (hR : Rel 16 cn S T) (hw : zTw D cI cZ (fun q : Nat => s.heap.size ≤ q) a b' S T H) (hS : va_S (fun q : Nat => s.heap.size ≤ q) s.heap H locs) (hl : lv_has ls 4 [(0, .ref b), (1, .ref (a 0)), (2, .ref (b' 0)), (3, .int (nI i))]) (kk : ∀ (S' T' : zS) (c' : Nat) (H : Heap) (locs : List Loc), Rel 16 c' S' T' → c' ≤ cn + 60 → zTw D cI cZ (fun q : Nat => s.heap.size ≤ q) a b' S' T' H → va_S (fun q : Nat => s.heap.size ≤ q) s.heap H locs → W p l e room_1 s m #[Value.ref b] below meth c H locs 33 543 Q (F0 m 733 ls [])) : W p l e room_1 s m #[Value.ref b] below meth c H locs 33 543 Q (F0 m 143 ls []) := by
  obtain ⟨hx, hb, hr, hml, hown, hts, hX, hbl, hlocks, hgv⟩ := C0
  have hb : c.code = cL_law := hb
  have hown : s.vm.findClass RL = some m.cls := hown
  have hts : ∀ w ∈ wsL_law, w.before #[Value.ref b] s = true := fun w h => hts w (wsL_law_in w h)
  have hA : ∀ q : Nat, s.heap.size ≤ q → (fun q : Nat => s.heap.size ≤ q) q := fun _ h => h
  have hbA : ¬ (fun q : Nat => s.heap.size ≤ q) b := Nat.not_le.mpr hbl
  obtain ⟨r, S', T', e1, e2, hR'⟩ := sim_send hR (xs (i + 1)) (xs (i + 2))
  refine lv_aload_n hx hb dL_law_143 rfl (lv_at hl 1 rfl) ?_
  refine zarg (i := i) hx hb hX hbl hbA hS hl (lv_at hl 3 rfl) hL 1 1 (by decide) (by omega) dL_law_144 dL_law_145 dL_law_146 dL_law_147 dL_law_148 ?_
  refine zarg (i := i) hx hb hX hbl hbA hS hl (lv_at hl 3 rfl) hL 2 2 (by decide) (by omega) dL_law_149 dL_law_150 dL_law_151 dL_law_152 dL_law_153 ?_
  refine zlXi (r := (r, S')) hw hA hS (va_runV (As := [.int (xs (i + 1)), .int (xs (i + 2))]) (rest := []) ⟨hx, hb, hml, hown, hts⟩ (tX4_send (a := a) (cI := cI) (cZ := cZ) (A := va_A (wX a cI S) H.size) e1) (cwV 2 hts gL_law_X4_send rfl rfl rfl (by decide +kernel) ⟨Nat.le_of_ble_eq_true rfl, Nat.le_of_ble_eq_true rfl⟩) (zpV hw.X hK hw.DX hN (rX_0 hK hw.X)) rfl rfl hl.1 rfl (lv_room (Nat.le_of_ble_eq_true rfl)) dL_law_154 ⟨Nat.le_of_ble_eq_true rfl, Nat.le_of_ble_eq_true rfl⟩) (fun H locs hw hS => ?_)
  refine lv_aload_n hx hb dL_law_157 rfl (lv_at hl 2 rfl) ?_
  refine zarg (i := i) hx hb hX hbl hbA hS hl (lv_at hl 3 rfl) hL 1 1 (by decide) (by omega) dL_law_158 dL_law_159 dL_law_160 dL_law_161 dL_law_162 ?_
  refine zarg (i := i) hx hb hX hbl hbA hS hl (lv_at hl 3 rfl) hL 2 2 (by decide) (by omega) dL_law_163 dL_law_164 dL_law_165 dL_law_166 dL_law_167 ?_
  refine zlMi (r := (r, T')) hw hA hS (va_runV (As := [.int (xs (i + 1)), .int (xs (i + 2))]) (rest := [.int r]) ⟨hx, hb, hml, hown, hts⟩ (tX5_send (a := b') (cI := cI) (cZ := cZ) (A := va_A (wM b' cI cZ T) H.size) e2) (cwV 2 hts gL_law_X5_send rfl rfl rfl (by decide +kernel) ⟨Nat.le_of_ble_eq_true rfl, Nat.le_of_ble_eq_true rfl⟩) (zpV hw.M hK hw.DM hN (rM_0 hK hw.M)) rfl rfl hl.1 rfl (lv_room (Nat.le_of_ble_eq_true rfl)) dL_law_168 ⟨Nat.le_of_ble_eq_true rfl, Nat.le_of_ble_eq_true rfl⟩) (fun H locs hw hS => ?_)
  exact lv_icmp_eq (tgt := 733) hx hb dL_law_171 (by decide) (fun _ => kk S' T' cn H locs hR' (Nat.le_add_right _ _) hw hS) (fun h => absurd rfl h)
set_option maxHeartbeats 4000000 in
set_option maxRecDepth 100000 in
theorem lwc_route {p : Program} {l : Launch} {e : Env} {s : State} {m : MethodId} {below : List Frame} {meth : Method} {c : Code} {H : Heap} {locs : List Loc} {Q : State → Prop} {ls : Array Slot} {D : va_G} {a b' : Nat → Nat} {cI cZ : ClassId} {S T : zS} {b L i cn : Nat} {xs : Nat → Int32} (C0 : lw_At p s m meth c b L xs) (hi : i + 6 ≤ L) (hL : L ≤ 3072) (hK : va_K D vwCl (zT cI cZ) s) (hN : zN s) (hcn : cn < 800000) (hR : Rel 16 cn S T) (hw : zTw D cI cZ (fun q : Nat => s.heap.size ≤ q) a b' S T H) (hS : va_S (fun q : Nat => s.heap.size ≤ q) s.heap H locs) (hl : lv_has ls 4 [(0, .ref b), (1, .ref (a 0)), (2, .ref (b' 0)), (3, .int (nI i))]) (kk : ∀ (S' T' : zS) (c' : Nat) (H : Heap) (locs : List Loc), Rel 16 c' S' T' → c' ≤ cn + 60 → zTw D cI cZ (fun q : Nat => s.heap.size ≤ q) a b' S' T' H → va_S (fun q : Nat => s.heap.size ≤ q) s.heap H locs → W p l e room_1 s m #[Value.ref b] below meth c H locs 33 543 Q (F0 m 733 ls [])) : W p l e room_1 s m #[Value.ref b] below meth c H locs 33 543 Q (F0 m 176 ls []) := by
  obtain ⟨hx, hb, hr, hml, hown, hts, hX, hbl, hlocks, hgv⟩ := C0
  have hb : c.code = cL_law := hb
  have hown : s.vm.findClass RL = some m.cls := hown
  have hts : ∀ w ∈ wsL_law, w.before #[Value.ref b] s = true := fun w h => hts w (wsL_law_in w h)
  have hA : ∀ q : Nat, s.heap.size ≤ q → (fun q : Nat => s.heap.size ≤ q) q := fun _ h => h
  have hbA : ¬ (fun q : Nat => s.heap.size ≤ q) b := Nat.not_le.mpr hbl
  obtain ⟨r, S', T', e1, e2, hR'⟩ := sim_route hR (xs (i + 1)) (xs (i + 2))
  refine lv_aload_n hx hb dL_law_176 rfl (lv_at hl 1 rfl) ?_
  refine zarg (i := i) hx hb hX hbl hbA hS hl (lv_at hl 3 rfl) hL 1 1 (by decide) (by omega) dL_law_177 dL_law_178 dL_law_179 dL_law_180 dL_law_181 ?_
  refine zarg (i := i) hx hb hX hbl hbA hS hl (lv_at hl 3 rfl) hL 2 2 (by decide) (by omega) dL_law_182 dL_law_183 dL_law_184 dL_law_185 dL_law_186 ?_
  refine zlXi (r := (r, S')) hw hA hS (va_runV (As := [.int (xs (i + 1)), .int (xs (i + 2))]) (rest := []) ⟨hx, hb, hml, hown, hts⟩ (tX4_route (a := a) (cI := cI) (cZ := cZ) (A := va_A (wX a cI S) H.size) e1) (cwV 2 hts gL_law_X4_route rfl rfl rfl (by decide +kernel) ⟨Nat.le_of_ble_eq_true rfl, Nat.le_of_ble_eq_true rfl⟩) (zpV hw.X hK hw.DX hN (rX_0 hK hw.X)) rfl rfl hl.1 rfl (lv_room (Nat.le_of_ble_eq_true rfl)) dL_law_187 ⟨Nat.le_of_ble_eq_true rfl, Nat.le_of_ble_eq_true rfl⟩) (fun H locs hw hS => ?_)
  refine lv_aload_n hx hb dL_law_190 rfl (lv_at hl 2 rfl) ?_
  refine zarg (i := i) hx hb hX hbl hbA hS hl (lv_at hl 3 rfl) hL 1 1 (by decide) (by omega) dL_law_191 dL_law_192 dL_law_193 dL_law_194 dL_law_195 ?_
  refine zarg (i := i) hx hb hX hbl hbA hS hl (lv_at hl 3 rfl) hL 2 2 (by decide) (by omega) dL_law_196 dL_law_197 dL_law_198 dL_law_199 dL_law_200 ?_
  refine zlMi (r := (r, T')) hw hA hS (va_runV (As := [.int (xs (i + 1)), .int (xs (i + 2))]) (rest := [.int r]) ⟨hx, hb, hml, hown, hts⟩ (tX5_route (a := b') (cI := cI) (cZ := cZ) (A := va_A (wM b' cI cZ T) H.size) e2) (cwV 2 hts gL_law_X5_route rfl rfl rfl (by decide +kernel) ⟨Nat.le_of_ble_eq_true rfl, Nat.le_of_ble_eq_true rfl⟩) (zpV hw.M hK hw.DM hN (rM_0 hK hw.M)) rfl rfl hl.1 rfl (lv_room (Nat.le_of_ble_eq_true rfl)) dL_law_201 ⟨Nat.le_of_ble_eq_true rfl, Nat.le_of_ble_eq_true rfl⟩) (fun H locs hw hS => ?_)
  exact lv_icmp_eq (tgt := 733) hx hb dL_law_204 (by decide) (fun _ => kk S' T' cn H locs hR' (Nat.le_add_right _ _) hw hS) (fun h => absurd rfl h)
set_option maxHeartbeats 4000000 in
set_option maxRecDepth 100000 in
theorem lwc_hint {p : Program} {l : Launch} {e : Env} {s : State} {m : MethodId} {below : List Frame} {meth : Method} {c : Code} {H : Heap} {locs : List Loc} {Q : State → Prop} {ls : Array Slot} {D : va_G} {a b' : Nat → Nat} {cI cZ : ClassId} {S T : zS} {b L i cn : Nat} {xs : Nat → Int32} (C0 : lw_At p s m meth c b L xs) (hi : i + 6 ≤ L) (hL : L ≤ 3072) (hK : va_K D vwCl (zT cI cZ) s) (hN : zN s) (hcn : cn < 800000) (hR : Rel 16 cn S T) (hw : zTw D cI cZ (fun q : Nat => s.heap.size ≤ q) a b' S T H) (hS : va_S (fun q : Nat => s.heap.size ≤ q) s.heap H locs) (hl : lv_has ls 4 [(0, .ref b), (1, .ref (a 0)), (2, .ref (b' 0)), (3, .int (nI i))]) (kk : ∀ (S' T' : zS) (c' : Nat) (H : Heap) (locs : List Loc), Rel 16 c' S' T' → c' ≤ cn + 60 → zTw D cI cZ (fun q : Nat => s.heap.size ≤ q) a b' S' T' H → va_S (fun q : Nat => s.heap.size ≤ q) s.heap H locs → W p l e room_1 s m #[Value.ref b] below meth c H locs 33 543 Q (F0 m 733 ls [])) : W p l e room_1 s m #[Value.ref b] below meth c H locs 33 543 Q (F0 m 209 ls []) := by
  obtain ⟨hx, hb, hr, hml, hown, hts, hX, hbl, hlocks, hgv⟩ := C0
  have hb : c.code = cL_law := hb
  have hown : s.vm.findClass RL = some m.cls := hown
  have hts : ∀ w ∈ wsL_law, w.before #[Value.ref b] s = true := fun w h => hts w (wsL_law_in w h)
  have hA : ∀ q : Nat, s.heap.size ≤ q → (fun q : Nat => s.heap.size ≤ q) q := fun _ h => h
  have hbA : ¬ (fun q : Nat => s.heap.size ≤ q) b := Nat.not_le.mpr hbl
  obtain ⟨r, S', T', e1, e2, hR'⟩ := sim_hint hR (xs (i + 1))
  refine lv_aload_n hx hb dL_law_209 rfl (lv_at hl 1 rfl) ?_
  refine zarg (i := i) hx hb hX hbl hbA hS hl (lv_at hl 3 rfl) hL 1 1 (by decide) (by omega) dL_law_210 dL_law_211 dL_law_212 dL_law_213 dL_law_214 ?_
  refine zlXi (r := (r, S')) hw hA hS (va_runV (As := [.int (xs (i + 1))]) (rest := []) ⟨hx, hb, hml, hown, hts⟩ (tX4_hint (a := a) (cI := cI) (cZ := cZ) (A := va_A (wX a cI S) H.size) e1) (cwV 1 hts gL_law_X4_hint rfl rfl rfl (by decide +kernel) ⟨Nat.le_of_ble_eq_true rfl, Nat.le_of_ble_eq_true rfl⟩) (zpV hw.X hK hw.DX hN (rX_0 hK hw.X)) rfl rfl hl.1 rfl (lv_room (Nat.le_of_ble_eq_true rfl)) dL_law_215 ⟨Nat.le_of_ble_eq_true rfl, Nat.le_of_ble_eq_true rfl⟩) (fun H locs hw hS => ?_)
  refine lv_aload_n hx hb dL_law_218 rfl (lv_at hl 2 rfl) ?_
  refine zarg (i := i) hx hb hX hbl hbA hS hl (lv_at hl 3 rfl) hL 1 1 (by decide) (by omega) dL_law_219 dL_law_220 dL_law_221 dL_law_222 dL_law_223 ?_
  refine zlMi (r := (r, T')) hw hA hS (va_runV (As := [.int (xs (i + 1))]) (rest := [.int r]) ⟨hx, hb, hml, hown, hts⟩ (tX5_hint (a := b') (cI := cI) (cZ := cZ) (A := va_A (wM b' cI cZ T) H.size) e2) (cwV 1 hts gL_law_X5_hint rfl rfl rfl (by decide +kernel) ⟨Nat.le_of_ble_eq_true rfl, Nat.le_of_ble_eq_true rfl⟩) (zpV hw.M hK hw.DM hN (rM_0 hK hw.M)) rfl rfl hl.1 rfl (lv_room (Nat.le_of_ble_eq_true rfl)) dL_law_224 ⟨Nat.le_of_ble_eq_true rfl, Nat.le_of_ble_eq_true rfl⟩) (fun H locs hw hS => ?_)
  exact lv_icmp_eq (tgt := 733) hx hb dL_law_227 (by decide) (fun _ => kk S' T' cn H locs hR' (Nat.le_add_right _ _) hw hS) (fun h => absurd rfl h)
set_option maxHeartbeats 4000000 in
set_option maxRecDepth 100000 in
theorem lwc_answered {p : Program} {l : Launch} {e : Env} {s : State} {m : MethodId} {below : List Frame} {meth : Method} {c : Code} {H : Heap} {locs : List Loc} {Q : State → Prop} {ls : Array Slot} {D : va_G} {a b' : Nat → Nat} {cI cZ : ClassId} {S T : zS} {b L i cn : Nat} {xs : Nat → Int32} (C0 : lw_At p s m meth c b L xs) (hi : i + 6 ≤ L) (hL : L ≤ 3072) (hK : va_K D vwCl (zT cI cZ) s) (hN : zN s) (hcn : cn < 800000) (hR : Rel 16 cn S T) (hw : zTw D cI cZ (fun q : Nat => s.heap.size ≤ q) a b' S T H) (hS : va_S (fun q : Nat => s.heap.size ≤ q) s.heap H locs) (hl : lv_has ls 4 [(0, .ref b), (1, .ref (a 0)), (2, .ref (b' 0)), (3, .int (nI i))]) (kk : ∀ (S' T' : zS) (c' : Nat) (H : Heap) (locs : List Loc), Rel 16 c' S' T' → c' ≤ cn + 60 → zTw D cI cZ (fun q : Nat => s.heap.size ≤ q) a b' S' T' H → va_S (fun q : Nat => s.heap.size ≤ q) s.heap H locs → W p l e room_1 s m #[Value.ref b] below meth c H locs 33 543 Q (F0 m 733 ls [])) : W p l e room_1 s m #[Value.ref b] below meth c H locs 33 543 Q (F0 m 232 ls []) := by
  obtain ⟨hx, hb, hr, hml, hown, hts, hX, hbl, hlocks, hgv⟩ := C0
  have hb : c.code = cL_law := hb
  have hown : s.vm.findClass RL = some m.cls := hown
  have hts : ∀ w ∈ wsL_law, w.before #[Value.ref b] s = true := fun w h => hts w (wsL_law_in w h)
  have hA : ∀ q : Nat, s.heap.size ≤ q → (fun q : Nat => s.heap.size ≤ q) q := fun _ h => h
  have hbA : ¬ (fun q : Nat => s.heap.size ≤ q) b := Nat.not_le.mpr hbl
  obtain ⟨r, S', T', e1, e2, hR'⟩ := sim_answered hR (xs (i + 1)) (xs (i + 2)) (zbo (xs (i + 3))) (zbo (xs (i + 4))) (zbo (xs (i + 5)))
  refine lv_aload_n hx hb dL_law_232 rfl (lv_at hl 1 rfl) ?_
  refine zarg (i := i) hx hb hX hbl hbA hS hl (lv_at hl 3 rfl) hL 1 1 (by decide) (by omega) dL_law_233 dL_law_234 dL_law_235 dL_law_236 dL_law_237 ?_
  refine zarg (i := i) hx hb hX hbl hbA hS hl (lv_at hl 3 rfl) hL 2 2 (by decide) (by omega) dL_law_238 dL_law_239 dL_law_240 dL_law_241 dL_law_242 ?_
  refine zarg (i := i) hx hb hX hbl hbA hS hl (lv_at hl 3 rfl) hL 3 3 (by decide) (by omega) dL_law_243 dL_law_244 dL_law_245 dL_law_246 dL_law_247 ?_
  refine zbq hx hb dL_law_248 dL_law_251 dL_law_252 dL_law_255 ?_
  refine zarg (i := i) hx hb hX hbl hbA hS hl (lv_at hl 3 rfl) hL 4 4 (by decide) (by omega) dL_law_256 dL_law_257 dL_law_258 dL_law_259 dL_law_260 ?_
  refine zbq hx hb dL_law_261 dL_law_264 dL_law_265 dL_law_268 ?_
  refine zarg (i := i) hx hb hX hbl hbA hS hl (lv_at hl 3 rfl) hL 5 5 (by decide) (by omega) dL_law_269 dL_law_270 dL_law_271 dL_law_272 dL_law_273 ?_
  refine zbq hx hb dL_law_274 dL_law_277 dL_law_278 dL_law_281 ?_
  refine zlXi (r := (r, S')) hw hA hS (va_runV (As := [.int (xs (i + 1)), .int (xs (i + 2)), .int (zbo (xs (i + 3))), .int (zbo (xs (i + 4))), .int (zbo (xs (i + 5)))]) (rest := []) ⟨hx, hb, hml, hown, hts⟩ (tX4_answered (a := a) (cI := cI) (cZ := cZ) (A := va_A (wX a cI S) H.size) e1) (cwV 5 hts gL_law_X4_answered rfl rfl rfl (by decide +kernel) ⟨Nat.le_of_ble_eq_true rfl, Nat.le_of_ble_eq_true rfl⟩) (zpV hw.X hK hw.DX hN (rX_0 hK hw.X)) rfl rfl hl.1 rfl (lv_room (Nat.le_of_ble_eq_true rfl)) dL_law_282 ⟨Nat.le_of_ble_eq_true rfl, Nat.le_of_ble_eq_true rfl⟩) (fun H locs hw hS => ?_)
  refine lv_aload_n hx hb dL_law_285 rfl (lv_at hl 2 rfl) ?_
  refine zarg (i := i) hx hb hX hbl hbA hS hl (lv_at hl 3 rfl) hL 1 1 (by decide) (by omega) dL_law_286 dL_law_287 dL_law_288 dL_law_289 dL_law_290 ?_
  refine zarg (i := i) hx hb hX hbl hbA hS hl (lv_at hl 3 rfl) hL 2 2 (by decide) (by omega) dL_law_291 dL_law_292 dL_law_293 dL_law_294 dL_law_295 ?_
  refine zarg (i := i) hx hb hX hbl hbA hS hl (lv_at hl 3 rfl) hL 3 3 (by decide) (by omega) dL_law_296 dL_law_297 dL_law_298 dL_law_299 dL_law_300 ?_
  refine zbq hx hb dL_law_301 dL_law_304 dL_law_305 dL_law_308 ?_
  refine zarg (i := i) hx hb hX hbl hbA hS hl (lv_at hl 3 rfl) hL 4 4 (by decide) (by omega) dL_law_309 dL_law_310 dL_law_311 dL_law_312 dL_law_313 ?_
  refine zbq hx hb dL_law_314 dL_law_317 dL_law_318 dL_law_321 ?_
  refine zarg (i := i) hx hb hX hbl hbA hS hl (lv_at hl 3 rfl) hL 5 5 (by decide) (by omega) dL_law_322 dL_law_323 dL_law_324 dL_law_325 dL_law_326 ?_
  refine zbq hx hb dL_law_327 dL_law_330 dL_law_331 dL_law_334 ?_
  refine zlMi (r := (r, T')) hw hA hS (va_runV (As := [.int (xs (i + 1)), .int (xs (i + 2)), .int (zbo (xs (i + 3))), .int (zbo (xs (i + 4))), .int (zbo (xs (i + 5)))]) (rest := [.int r]) ⟨hx, hb, hml, hown, hts⟩ (tX5_answered (a := b') (cI := cI) (cZ := cZ) (A := va_A (wM b' cI cZ T) H.size) e2) (cwV 5 hts gL_law_X5_answered rfl rfl rfl (by decide +kernel) ⟨Nat.le_of_ble_eq_true rfl, Nat.le_of_ble_eq_true rfl⟩) (zpV hw.M hK hw.DM hN (rM_0 hK hw.M)) rfl rfl hl.1 rfl (lv_room (Nat.le_of_ble_eq_true rfl)) dL_law_335 ⟨Nat.le_of_ble_eq_true rfl, Nat.le_of_ble_eq_true rfl⟩) (fun H locs hw hS => ?_)
  exact lv_icmp_eq (tgt := 733) hx hb dL_law_338 (by decide) (fun _ => kk S' T' cn H locs hR' (Nat.le_add_right _ _) hw hS) (fun h => absurd rfl h)
set_option maxHeartbeats 4000000 in
set_option maxRecDepth 100000 in
theorem lwc_asks {p : Program} {l : Launch} {e : Env} {s : State} {m : MethodId} {below : List Frame} {meth : Method} {c : Code} {H : Heap} {locs : List Loc} {Q : State → Prop} {ls : Array Slot} {D : va_G} {a b' : Nat → Nat} {cI cZ : ClassId} {S T : zS} {b L i cn : Nat} {xs : Nat → Int32} (C0 : lw_At p s m meth c b L xs) (hi : i + 6 ≤ L) (hL : L ≤ 3072) (hK : va_K D vwCl (zT cI cZ) s) (hN : zN s) (hcn : cn < 800000) (hR : Rel 16 cn S T) (hw : zTw D cI cZ (fun q : Nat => s.heap.size ≤ q) a b' S T H) (hS : va_S (fun q : Nat => s.heap.size ≤ q) s.heap H locs) (hl : lv_has ls 4 [(0, .ref b), (1, .ref (a 0)), (2, .ref (b' 0)), (3, .int (nI i))]) (kk : ∀ (S' T' : zS) (c' : Nat) (H : Heap) (locs : List Loc), Rel 16 c' S' T' → c' ≤ cn + 60 → zTw D cI cZ (fun q : Nat => s.heap.size ≤ q) a b' S' T' H → va_S (fun q : Nat => s.heap.size ≤ q) s.heap H locs → W p l e room_1 s m #[Value.ref b] below meth c H locs 33 543 Q (F0 m 733 ls [])) : W p l e room_1 s m #[Value.ref b] below meth c H locs 33 543 Q (F0 m 343 ls []) := by
  obtain ⟨hx, hb, hr, hml, hown, hts, hX, hbl, hlocks, hgv⟩ := C0
  have hb : c.code = cL_law := hb
  have hown : s.vm.findClass RL = some m.cls := hown
  have hts : ∀ w ∈ wsL_law, w.before #[Value.ref b] s = true := fun w h => hts w (wsL_law_in w h)
  have hA : ∀ q : Nat, s.heap.size ≤ q → (fun q : Nat => s.heap.size ≤ q) q := fun _ h => h
  have hbA : ¬ (fun q : Nat => s.heap.size ≤ q) b := Nat.not_le.mpr hbl
  obtain ⟨r, S', T', e1, e2, hR'⟩ := sim_asks hR (xs (i + 1)) (xs (i + 2)) (xs (i + 3))
  refine lv_aload_n hx hb dL_law_343 rfl (lv_at hl 1 rfl) ?_
  refine zarg (i := i) hx hb hX hbl hbA hS hl (lv_at hl 3 rfl) hL 1 1 (by decide) (by omega) dL_law_344 dL_law_345 dL_law_346 dL_law_347 dL_law_348 ?_
  refine zarg (i := i) hx hb hX hbl hbA hS hl (lv_at hl 3 rfl) hL 2 2 (by decide) (by omega) dL_law_349 dL_law_350 dL_law_351 dL_law_352 dL_law_353 ?_
  refine zarg (i := i) hx hb hX hbl hbA hS hl (lv_at hl 3 rfl) hL 3 3 (by decide) (by omega) dL_law_354 dL_law_355 dL_law_356 dL_law_357 dL_law_358 ?_
  refine zlXi (r := (r, S')) hw hA hS (va_runV (As := [.int (xs (i + 1)), .int (xs (i + 2)), .int (xs (i + 3))]) (rest := []) ⟨hx, hb, hml, hown, hts⟩ (tX4_asks (a := a) (cI := cI) (cZ := cZ) (A := va_A (wX a cI S) H.size) e1) (cwV 3 hts gL_law_X4_asks rfl rfl rfl (by decide +kernel) ⟨Nat.le_of_ble_eq_true rfl, Nat.le_of_ble_eq_true rfl⟩) (zpV hw.X hK hw.DX hN (rX_0 hK hw.X)) rfl rfl hl.1 rfl (lv_room (Nat.le_of_ble_eq_true rfl)) dL_law_359 ⟨Nat.le_of_ble_eq_true rfl, Nat.le_of_ble_eq_true rfl⟩) (fun H locs hw hS => ?_)
  refine lv_aload_n hx hb dL_law_362 rfl (lv_at hl 2 rfl) ?_
  refine zarg (i := i) hx hb hX hbl hbA hS hl (lv_at hl 3 rfl) hL 1 1 (by decide) (by omega) dL_law_363 dL_law_364 dL_law_365 dL_law_366 dL_law_367 ?_
  refine zarg (i := i) hx hb hX hbl hbA hS hl (lv_at hl 3 rfl) hL 2 2 (by decide) (by omega) dL_law_368 dL_law_369 dL_law_370 dL_law_371 dL_law_372 ?_
  refine zarg (i := i) hx hb hX hbl hbA hS hl (lv_at hl 3 rfl) hL 3 3 (by decide) (by omega) dL_law_373 dL_law_374 dL_law_375 dL_law_376 dL_law_377 ?_
  refine zlMi (r := (r, T')) hw hA hS (va_runV (As := [.int (xs (i + 1)), .int (xs (i + 2)), .int (xs (i + 3))]) (rest := [.int r]) ⟨hx, hb, hml, hown, hts⟩ (tX5_asks (a := b') (cI := cI) (cZ := cZ) (A := va_A (wM b' cI cZ T) H.size) e2) (cwV 3 hts gL_law_X5_asks rfl rfl rfl (by decide +kernel) ⟨Nat.le_of_ble_eq_true rfl, Nat.le_of_ble_eq_true rfl⟩) (zpV hw.M hK hw.DM hN (rM_0 hK hw.M)) rfl rfl hl.1 rfl (lv_room (Nat.le_of_ble_eq_true rfl)) dL_law_378 ⟨Nat.le_of_ble_eq_true rfl, Nat.le_of_ble_eq_true rfl⟩) (fun H locs hw hS => ?_)
  exact lv_icmp_eq (tgt := 733) hx hb dL_law_381 (by decide) (fun _ => kk S' T' cn H locs hR' (Nat.le_add_right _ _) hw hS) (fun h => absurd rfl h)
set_option maxHeartbeats 4000000 in
set_option maxRecDepth 100000 in
theorem lwc_told {p : Program} {l : Launch} {e : Env} {s : State} {m : MethodId} {below : List Frame} {meth : Method} {c : Code} {H : Heap} {locs : List Loc} {Q : State → Prop} {ls : Array Slot} {D : va_G} {a b' : Nat → Nat} {cI cZ : ClassId} {S T : zS} {b L i cn : Nat} {xs : Nat → Int32} (C0 : lw_At p s m meth c b L xs) (hi : i + 6 ≤ L) (hL : L ≤ 3072) (hK : va_K D vwCl (zT cI cZ) s) (hN : zN s) (hcn : cn < 800000) (hR : Rel 16 cn S T) (hw : zTw D cI cZ (fun q : Nat => s.heap.size ≤ q) a b' S T H) (hS : va_S (fun q : Nat => s.heap.size ≤ q) s.heap H locs) (hl : lv_has ls 4 [(0, .ref b), (1, .ref (a 0)), (2, .ref (b' 0)), (3, .int (nI i))]) (kk : ∀ (S' T' : zS) (c' : Nat) (H : Heap) (locs : List Loc), Rel 16 c' S' T' → c' ≤ cn + 60 → zTw D cI cZ (fun q : Nat => s.heap.size ≤ q) a b' S' T' H → va_S (fun q : Nat => s.heap.size ≤ q) s.heap H locs → W p l e room_1 s m #[Value.ref b] below meth c H locs 33 543 Q (F0 m 733 ls [])) : W p l e room_1 s m #[Value.ref b] below meth c H locs 33 543 Q (F0 m 386 ls []) := by
  obtain ⟨hx, hb, hr, hml, hown, hts, hX, hbl, hlocks, hgv⟩ := C0
  have hb : c.code = cL_law := hb
  have hown : s.vm.findClass RL = some m.cls := hown
  have hts : ∀ w ∈ wsL_law, w.before #[Value.ref b] s = true := fun w h => hts w (wsL_law_in w h)
  have hA : ∀ q : Nat, s.heap.size ≤ q → (fun q : Nat => s.heap.size ≤ q) q := fun _ h => h
  have hbA : ¬ (fun q : Nat => s.heap.size ≤ q) b := Nat.not_le.mpr hbl
  obtain ⟨r, S', T', e1, e2, hR'⟩ := sim_told hR (xs (i + 1)) (xs (i + 2)) (xs (i + 3)) (xs (i + 4))
  refine lv_aload_n hx hb dL_law_386 rfl (lv_at hl 1 rfl) ?_
  refine zarg (i := i) hx hb hX hbl hbA hS hl (lv_at hl 3 rfl) hL 1 1 (by decide) (by omega) dL_law_387 dL_law_388 dL_law_389 dL_law_390 dL_law_391 ?_
  refine zarg (i := i) hx hb hX hbl hbA hS hl (lv_at hl 3 rfl) hL 2 2 (by decide) (by omega) dL_law_392 dL_law_393 dL_law_394 dL_law_395 dL_law_396 ?_
  refine zarg (i := i) hx hb hX hbl hbA hS hl (lv_at hl 3 rfl) hL 3 3 (by decide) (by omega) dL_law_397 dL_law_398 dL_law_399 dL_law_400 dL_law_401 ?_
  refine zarg (i := i) hx hb hX hbl hbA hS hl (lv_at hl 3 rfl) hL 4 4 (by decide) (by omega) dL_law_402 dL_law_403 dL_law_404 dL_law_405 dL_law_406 ?_
  refine zlXi (r := (r, S')) hw hA hS (va_runV (As := [.int (xs (i + 1)), .int (xs (i + 2)), .int (xs (i + 3)), .int (xs (i + 4))]) (rest := []) ⟨hx, hb, hml, hown, hts⟩ (tX4_told (a := a) (cI := cI) (cZ := cZ) (A := va_A (wX a cI S) H.size) e1) (cwV 4 hts gL_law_X4_told rfl rfl rfl (by decide +kernel) ⟨Nat.le_of_ble_eq_true rfl, Nat.le_of_ble_eq_true rfl⟩) (zpV hw.X hK hw.DX hN (rX_0 hK hw.X)) rfl rfl hl.1 rfl (lv_room (Nat.le_of_ble_eq_true rfl)) dL_law_407 ⟨Nat.le_of_ble_eq_true rfl, Nat.le_of_ble_eq_true rfl⟩) (fun H locs hw hS => ?_)
  refine lv_aload_n hx hb dL_law_410 rfl (lv_at hl 2 rfl) ?_
  refine zarg (i := i) hx hb hX hbl hbA hS hl (lv_at hl 3 rfl) hL 1 1 (by decide) (by omega) dL_law_411 dL_law_412 dL_law_413 dL_law_414 dL_law_415 ?_
  refine zarg (i := i) hx hb hX hbl hbA hS hl (lv_at hl 3 rfl) hL 2 2 (by decide) (by omega) dL_law_416 dL_law_417 dL_law_418 dL_law_419 dL_law_420 ?_
  refine zarg (i := i) hx hb hX hbl hbA hS hl (lv_at hl 3 rfl) hL 3 3 (by decide) (by omega) dL_law_421 dL_law_422 dL_law_423 dL_law_424 dL_law_425 ?_
  refine zarg (i := i) hx hb hX hbl hbA hS hl (lv_at hl 3 rfl) hL 4 4 (by decide) (by omega) dL_law_426 dL_law_427 dL_law_428 dL_law_429 dL_law_430 ?_
  refine zlMi (r := (r, T')) hw hA hS (va_runV (As := [.int (xs (i + 1)), .int (xs (i + 2)), .int (xs (i + 3)), .int (xs (i + 4))]) (rest := [.int r]) ⟨hx, hb, hml, hown, hts⟩ (tX5_told (a := b') (cI := cI) (cZ := cZ) (A := va_A (wM b' cI cZ T) H.size) e2) (cwV 4 hts gL_law_X5_told rfl rfl rfl (by decide +kernel) ⟨Nat.le_of_ble_eq_true rfl, Nat.le_of_ble_eq_true rfl⟩) (zpV hw.M hK hw.DM hN (rM_0 hK hw.M)) rfl rfl hl.1 rfl (lv_room (Nat.le_of_ble_eq_true rfl)) dL_law_431 ⟨Nat.le_of_ble_eq_true rfl, Nat.le_of_ble_eq_true rfl⟩) (fun H locs hw hS => ?_)
  exact lv_icmp_eq (tgt := 733) hx hb dL_law_434 (by decide) (fun _ => kk S' T' cn H locs hR' (Nat.le_add_right _ _) hw hS) (fun h => absurd rfl h)
set_option maxHeartbeats 4000000 in
set_option maxRecDepth 100000 in
theorem lwc_better {p : Program} {l : Launch} {e : Env} {s : State} {m : MethodId} {below : List Frame} {meth : Method} {c : Code} {H : Heap} {locs : List Loc} {Q : State → Prop} {ls : Array Slot} {D : va_G} {a b' : Nat → Nat} {cI cZ : ClassId} {S T : zS} {b L i cn : Nat} {xs : Nat → Int32} (C0 : lw_At p s m meth c b L xs) (hi : i + 6 ≤ L) (hL : L ≤ 3072) (hK : va_K D vwCl (zT cI cZ) s) (hN : zN s) (hcn : cn < 800000) (hR : Rel 16 cn S T) (hw : zTw D cI cZ (fun q : Nat => s.heap.size ≤ q) a b' S T H) (hS : va_S (fun q : Nat => s.heap.size ≤ q) s.heap H locs) (hl : lv_has ls 4 [(0, .ref b), (1, .ref (a 0)), (2, .ref (b' 0)), (3, .int (nI i))]) (kk : ∀ (S' T' : zS) (c' : Nat) (H : Heap) (locs : List Loc), Rel 16 c' S' T' → c' ≤ cn + 60 → zTw D cI cZ (fun q : Nat => s.heap.size ≤ q) a b' S' T' H → va_S (fun q : Nat => s.heap.size ≤ q) s.heap H locs → W p l e room_1 s m #[Value.ref b] below meth c H locs 33 543 Q (F0 m 733 ls [])) : W p l e room_1 s m #[Value.ref b] below meth c H locs 33 543 Q (F0 m 439 ls []) := by
  obtain ⟨hx, hb, hr, hml, hown, hts, hX, hbl, hlocks, hgv⟩ := C0
  have hb : c.code = cL_law := hb
  have hown : s.vm.findClass RL = some m.cls := hown
  have hts : ∀ w ∈ wsL_law, w.before #[Value.ref b] s = true := fun w h => hts w (wsL_law_in w h)
  have hA : ∀ q : Nat, s.heap.size ≤ q → (fun q : Nat => s.heap.size ≤ q) q := fun _ h => h
  have hbA : ¬ (fun q : Nat => s.heap.size ≤ q) b := Nat.not_le.mpr hbl
  obtain ⟨r, S', T', e1, e2, hR'⟩ := sim_better hR (xs (i + 1)) (xs (i + 2)) (xs (i + 3))
  refine lv_aload_n hx hb dL_law_439 rfl (lv_at hl 1 rfl) ?_
  refine zarg (i := i) hx hb hX hbl hbA hS hl (lv_at hl 3 rfl) hL 1 1 (by decide) (by omega) dL_law_440 dL_law_441 dL_law_442 dL_law_443 dL_law_444 ?_
  refine zarg (i := i) hx hb hX hbl hbA hS hl (lv_at hl 3 rfl) hL 2 2 (by decide) (by omega) dL_law_445 dL_law_446 dL_law_447 dL_law_448 dL_law_449 ?_
  refine zarg (i := i) hx hb hX hbl hbA hS hl (lv_at hl 3 rfl) hL 3 3 (by decide) (by omega) dL_law_450 dL_law_451 dL_law_452 dL_law_453 dL_law_454 ?_
  refine zlXi (r := (r, S')) hw hA hS (va_runV (As := [.int (xs (i + 1)), .int (xs (i + 2)), .int (xs (i + 3))]) (rest := []) ⟨hx, hb, hml, hown, hts⟩ (tX4_better (a := a) (cI := cI) (cZ := cZ) (A := va_A (wX a cI S) H.size) e1) (cwV 3 hts gL_law_X4_better rfl rfl rfl (by decide +kernel) ⟨Nat.le_of_ble_eq_true rfl, Nat.le_of_ble_eq_true rfl⟩) (zpV hw.X hK hw.DX hN (rX_0 hK hw.X)) rfl rfl hl.1 rfl (lv_room (Nat.le_of_ble_eq_true rfl)) dL_law_455 ⟨Nat.le_of_ble_eq_true rfl, Nat.le_of_ble_eq_true rfl⟩) (fun H locs hw hS => ?_)
  refine lv_aload_n hx hb dL_law_458 rfl (lv_at hl 2 rfl) ?_
  refine zarg (i := i) hx hb hX hbl hbA hS hl (lv_at hl 3 rfl) hL 1 1 (by decide) (by omega) dL_law_459 dL_law_460 dL_law_461 dL_law_462 dL_law_463 ?_
  refine zarg (i := i) hx hb hX hbl hbA hS hl (lv_at hl 3 rfl) hL 2 2 (by decide) (by omega) dL_law_464 dL_law_465 dL_law_466 dL_law_467 dL_law_468 ?_
  refine zarg (i := i) hx hb hX hbl hbA hS hl (lv_at hl 3 rfl) hL 3 3 (by decide) (by omega) dL_law_469 dL_law_470 dL_law_471 dL_law_472 dL_law_473 ?_
  refine zlMi (r := (r, T')) hw hA hS (va_runV (As := [.int (xs (i + 1)), .int (xs (i + 2)), .int (xs (i + 3))]) (rest := [.int r]) ⟨hx, hb, hml, hown, hts⟩ (tX5_better (a := b') (cI := cI) (cZ := cZ) (A := va_A (wM b' cI cZ T) H.size) e2) (cwV 3 hts gL_law_X5_better rfl rfl rfl (by decide +kernel) ⟨Nat.le_of_ble_eq_true rfl, Nat.le_of_ble_eq_true rfl⟩) (zpV hw.M hK hw.DM hN (rM_0 hK hw.M)) rfl rfl hl.1 rfl (lv_room (Nat.le_of_ble_eq_true rfl)) dL_law_474 ⟨Nat.le_of_ble_eq_true rfl, Nat.le_of_ble_eq_true rfl⟩) (fun H locs hw hS => ?_)
  exact lv_icmp_eq (tgt := 733) hx hb dL_law_477 (by decide) (fun _ => kk S' T' cn H locs hR' (Nat.le_add_right _ _) hw hS) (fun h => absurd rfl h)
set_option maxHeartbeats 4000000 in
set_option maxRecDepth 100000 in
theorem lwc_claim {p : Program} {l : Launch} {e : Env} {s : State} {m : MethodId} {below : List Frame} {meth : Method} {c : Code} {H : Heap} {locs : List Loc} {Q : State → Prop} {ls : Array Slot} {D : va_G} {a b' : Nat → Nat} {cI cZ : ClassId} {S T : zS} {b L i cn : Nat} {xs : Nat → Int32} (C0 : lw_At p s m meth c b L xs) (hi : i + 6 ≤ L) (hL : L ≤ 3072) (hK : va_K D vwCl (zT cI cZ) s) (hN : zN s) (hcn : cn < 800000) (hR : Rel 16 cn S T) (hw : zTw D cI cZ (fun q : Nat => s.heap.size ≤ q) a b' S T H) (hS : va_S (fun q : Nat => s.heap.size ≤ q) s.heap H locs) (hl : lv_has ls 4 [(0, .ref b), (1, .ref (a 0)), (2, .ref (b' 0)), (3, .int (nI i))]) (kk : ∀ (S' T' : zS) (c' : Nat) (H : Heap) (locs : List Loc), Rel 16 c' S' T' → c' ≤ cn + 60 → zTw D cI cZ (fun q : Nat => s.heap.size ≤ q) a b' S' T' H → va_S (fun q : Nat => s.heap.size ≤ q) s.heap H locs → W p l e room_1 s m #[Value.ref b] below meth c H locs 33 543 Q (F0 m 733 ls [])) : W p l e room_1 s m #[Value.ref b] below meth c H locs 33 543 Q (F0 m 482 ls []) := by
  obtain ⟨hx, hb, hr, hml, hown, hts, hX, hbl, hlocks, hgv⟩ := C0
  have hb : c.code = cL_law := hb
  have hown : s.vm.findClass RL = some m.cls := hown
  have hts : ∀ w ∈ wsL_law, w.before #[Value.ref b] s = true := fun w h => hts w (wsL_law_in w h)
  have hA : ∀ q : Nat, s.heap.size ≤ q → (fun q : Nat => s.heap.size ≤ q) q := fun _ h => h
  have hbA : ¬ (fun q : Nat => s.heap.size ≤ q) b := Nat.not_le.mpr hbl
  obtain ⟨r, S', T', e1, e2, hR'⟩ := sim_claim hR (xs (i + 1))
  refine lv_aload_n hx hb dL_law_482 rfl (lv_at hl 1 rfl) ?_
  refine zarg (i := i) hx hb hX hbl hbA hS hl (lv_at hl 3 rfl) hL 1 1 (by decide) (by omega) dL_law_483 dL_law_484 dL_law_485 dL_law_486 dL_law_487 ?_
  refine zlXi (r := (r, S')) hw hA hS (va_runV (As := [.int (xs (i + 1))]) (rest := []) ⟨hx, hb, hml, hown, hts⟩ (tX4_claim (a := a) (cI := cI) (cZ := cZ) (A := va_A (wX a cI S) H.size) e1) (cwV 1 hts gL_law_X4_claim rfl rfl rfl (by decide +kernel) ⟨Nat.le_of_ble_eq_true rfl, Nat.le_of_ble_eq_true rfl⟩) (zpV hw.X hK hw.DX hN (rX_0 hK hw.X)) rfl rfl hl.1 rfl (lv_room (Nat.le_of_ble_eq_true rfl)) dL_law_488 ⟨Nat.le_of_ble_eq_true rfl, Nat.le_of_ble_eq_true rfl⟩) (fun H locs hw hS => ?_)
  refine lv_aload_n hx hb dL_law_491 rfl (lv_at hl 2 rfl) ?_
  refine zarg (i := i) hx hb hX hbl hbA hS hl (lv_at hl 3 rfl) hL 1 1 (by decide) (by omega) dL_law_492 dL_law_493 dL_law_494 dL_law_495 dL_law_496 ?_
  refine zlMi (r := (r, T')) hw hA hS (va_runV (As := [.int (xs (i + 1))]) (rest := [.int r]) ⟨hx, hb, hml, hown, hts⟩ (tX5_claim (a := b') (cI := cI) (cZ := cZ) (A := va_A (wM b' cI cZ T) H.size) e2) (cwV 1 hts gL_law_X5_claim rfl rfl rfl (by decide +kernel) ⟨Nat.le_of_ble_eq_true rfl, Nat.le_of_ble_eq_true rfl⟩) (zpV hw.M hK hw.DM hN (rM_0 hK hw.M)) rfl rfl hl.1 rfl (lv_room (Nat.le_of_ble_eq_true rfl)) dL_law_497 ⟨Nat.le_of_ble_eq_true rfl, Nat.le_of_ble_eq_true rfl⟩) (fun H locs hw hS => ?_)
  exact lv_icmp_eq (tgt := 733) hx hb dL_law_500 (by decide) (fun _ => kk S' T' cn H locs hR' (Nat.le_add_right _ _) hw hS) (fun h => absurd rfl h)
set_option maxHeartbeats 4000000 in
set_option maxRecDepth 100000 in
theorem lwc_give {p : Program} {l : Launch} {e : Env} {s : State} {m : MethodId} {below : List Frame} {meth : Method} {c : Code} {H : Heap} {locs : List Loc} {Q : State → Prop} {ls : Array Slot} {D : va_G} {a b' : Nat → Nat} {cI cZ : ClassId} {S T : zS} {b L i cn : Nat} {xs : Nat → Int32} (C0 : lw_At p s m meth c b L xs) (hi : i + 6 ≤ L) (hL : L ≤ 3072) (hK : va_K D vwCl (zT cI cZ) s) (hN : zN s) (hcn : cn < 800000) (hR : Rel 16 cn S T) (hw : zTw D cI cZ (fun q : Nat => s.heap.size ≤ q) a b' S T H) (hS : va_S (fun q : Nat => s.heap.size ≤ q) s.heap H locs) (hl : lv_has ls 4 [(0, .ref b), (1, .ref (a 0)), (2, .ref (b' 0)), (3, .int (nI i))]) (kk : ∀ (S' T' : zS) (c' : Nat) (H : Heap) (locs : List Loc), Rel 16 c' S' T' → c' ≤ cn + 60 → zTw D cI cZ (fun q : Nat => s.heap.size ≤ q) a b' S' T' H → va_S (fun q : Nat => s.heap.size ≤ q) s.heap H locs → W p l e room_1 s m #[Value.ref b] below meth c H locs 33 543 Q (F0 m 733 ls [])) : W p l e room_1 s m #[Value.ref b] below meth c H locs 33 543 Q (F0 m 505 ls []) := by
  obtain ⟨hx, hb, hr, hml, hown, hts, hX, hbl, hlocks, hgv⟩ := C0
  have hb : c.code = cL_law := hb
  have hown : s.vm.findClass RL = some m.cls := hown
  have hts : ∀ w ∈ wsL_law, w.before #[Value.ref b] s = true := fun w h => hts w (wsL_law_in w h)
  have hA : ∀ q : Nat, s.heap.size ≤ q → (fun q : Nat => s.heap.size ≤ q) q := fun _ h => h
  have hbA : ¬ (fun q : Nat => s.heap.size ≤ q) b := Nat.not_le.mpr hbl
  obtain ⟨r, S', T', e1, e2, hR'⟩ := sim_give hR 
  refine lv_aload_n hx hb dL_law_505 rfl (lv_at hl 1 rfl) ?_
  refine zlXi (r := (r, S')) hw hA hS (va_runV (As := []) (rest := []) ⟨hx, hb, hml, hown, hts⟩ (tX4_give (a := a) (cI := cI) (cZ := cZ) (A := va_A (wX a cI S) H.size) e1) (cwV 0 hts gL_law_X4_give rfl rfl rfl (by decide +kernel) ⟨Nat.le_of_ble_eq_true rfl, Nat.le_of_ble_eq_true rfl⟩) (zpV hw.X hK hw.DX hN (rX_0 hK hw.X)) rfl rfl hl.1 rfl (lv_room (Nat.le_of_ble_eq_true rfl)) dL_law_506 ⟨Nat.le_of_ble_eq_true rfl, Nat.le_of_ble_eq_true rfl⟩) (fun H locs hw hS => ?_)
  refine lv_aload_n hx hb dL_law_509 rfl (lv_at hl 2 rfl) ?_
  refine zlMi (r := (r, T')) hw hA hS (va_runV (As := []) (rest := [.int r]) ⟨hx, hb, hml, hown, hts⟩ (tX5_give (a := b') (cI := cI) (cZ := cZ) (A := va_A (wM b' cI cZ T) H.size) e2) (cwV 0 hts gL_law_X5_give rfl rfl rfl (by decide +kernel) ⟨Nat.le_of_ble_eq_true rfl, Nat.le_of_ble_eq_true rfl⟩) (zpV hw.M hK hw.DM hN (rM_0 hK hw.M)) rfl rfl hl.1 rfl (lv_room (Nat.le_of_ble_eq_true rfl)) dL_law_510 ⟨Nat.le_of_ble_eq_true rfl, Nat.le_of_ble_eq_true rfl⟩) (fun H locs hw hS => ?_)
  exact lv_icmp_eq (tgt := 733) hx hb dL_law_513 (by decide) (fun _ => kk S' T' cn H locs hR' (Nat.le_add_right _ _) hw hS) (fun h => absurd rfl h)
set_option maxHeartbeats 4000000 in
set_option maxRecDepth 100000 in
theorem lwc_entry {p : Program} {l : Launch} {e : Env} {s : State} {m : MethodId} {below : List Frame} {meth : Method} {c : Code} {H : Heap} {locs : List Loc} {Q : State → Prop} {ls : Array Slot} {D : va_G} {a b' : Nat → Nat} {cI cZ : ClassId} {S T : zS} {b L i cn : Nat} {xs : Nat → Int32} (C0 : lw_At p s m meth c b L xs) (hi : i + 6 ≤ L) (hL : L ≤ 3072) (hK : va_K D vwCl (zT cI cZ) s) (hN : zN s) (hcn : cn < 800000) (hR : Rel 16 cn S T) (hw : zTw D cI cZ (fun q : Nat => s.heap.size ≤ q) a b' S T H) (hS : va_S (fun q : Nat => s.heap.size ≤ q) s.heap H locs) (hl : lv_has ls 4 [(0, .ref b), (1, .ref (a 0)), (2, .ref (b' 0)), (3, .int (nI i))]) (kk : ∀ (S' T' : zS) (c' : Nat) (H : Heap) (locs : List Loc), Rel 16 c' S' T' → c' ≤ cn + 60 → zTw D cI cZ (fun q : Nat => s.heap.size ≤ q) a b' S' T' H → va_S (fun q : Nat => s.heap.size ≤ q) s.heap H locs → W p l e room_1 s m #[Value.ref b] below meth c H locs 33 543 Q (F0 m 733 ls [])) : W p l e room_1 s m #[Value.ref b] below meth c H locs 33 543 Q (F0 m 518 ls []) := by
  obtain ⟨hx, hb, hr, hml, hown, hts, hX, hbl, hlocks, hgv⟩ := C0
  have hb : c.code = cL_law := hb
  have hown : s.vm.findClass RL = some m.cls := hown
  have hts : ∀ w ∈ wsL_law, w.before #[Value.ref b] s = true := fun w h => hts w (wsL_law_in w h)
  have hA : ∀ q : Nat, s.heap.size ≤ q → (fun q : Nat => s.heap.size ≤ q) q := fun _ h => h
  have hbA : ¬ (fun q : Nat => s.heap.size ≤ q) b := Nat.not_le.mpr hbl
  obtain ⟨r, S', T', e1, e2, hR'⟩ := sim_entry hR (xs (i + 1)) (xs (i + 2))
  refine lv_aload_n hx hb dL_law_518 rfl (lv_at hl 1 rfl) ?_
  refine zarg (i := i) hx hb hX hbl hbA hS hl (lv_at hl 3 rfl) hL 1 1 (by decide) (by omega) dL_law_519 dL_law_520 dL_law_521 dL_law_522 dL_law_523 ?_
  refine zarg (i := i) hx hb hX hbl hbA hS hl (lv_at hl 3 rfl) hL 2 2 (by decide) (by omega) dL_law_524 dL_law_525 dL_law_526 dL_law_527 dL_law_528 ?_
  refine zlXi (r := (r, S')) hw hA hS (va_runV (As := [.int (xs (i + 1)), .int (xs (i + 2))]) (rest := []) ⟨hx, hb, hml, hown, hts⟩ (tX4_entry (a := a) (cI := cI) (cZ := cZ) (A := va_A (wX a cI S) H.size) e1) (cwV 2 hts gL_law_X4_entry rfl rfl rfl (by decide +kernel) ⟨Nat.le_of_ble_eq_true rfl, Nat.le_of_ble_eq_true rfl⟩) (zpV hw.X hK hw.DX hN (rX_0 hK hw.X)) rfl rfl hl.1 rfl (lv_room (Nat.le_of_ble_eq_true rfl)) dL_law_529 ⟨Nat.le_of_ble_eq_true rfl, Nat.le_of_ble_eq_true rfl⟩) (fun H locs hw hS => ?_)
  refine lv_aload_n hx hb dL_law_532 rfl (lv_at hl 2 rfl) ?_
  refine zarg (i := i) hx hb hX hbl hbA hS hl (lv_at hl 3 rfl) hL 1 1 (by decide) (by omega) dL_law_533 dL_law_534 dL_law_535 dL_law_536 dL_law_537 ?_
  refine zarg (i := i) hx hb hX hbl hbA hS hl (lv_at hl 3 rfl) hL 2 2 (by decide) (by omega) dL_law_538 dL_law_539 dL_law_540 dL_law_541 dL_law_542 ?_
  refine zlMi (r := (r, T')) hw hA hS (va_runV (As := [.int (xs (i + 1)), .int (xs (i + 2))]) (rest := [.int r]) ⟨hx, hb, hml, hown, hts⟩ (tX5_entry (a := b') (cI := cI) (cZ := cZ) (A := va_A (wM b' cI cZ T) H.size) e2) (cwV 2 hts gL_law_X5_entry rfl rfl rfl (by decide +kernel) ⟨Nat.le_of_ble_eq_true rfl, Nat.le_of_ble_eq_true rfl⟩) (zpV hw.M hK hw.DM hN (rM_0 hK hw.M)) rfl rfl hl.1 rfl (lv_room (Nat.le_of_ble_eq_true rfl)) dL_law_543 ⟨Nat.le_of_ble_eq_true rfl, Nat.le_of_ble_eq_true rfl⟩) (fun H locs hw hS => ?_)
  exact lv_icmp_eq (tgt := 733) hx hb dL_law_546 (by decide) (fun _ => kk S' T' cn H locs hR' (Nat.le_add_right _ _) hw hS) (fun h => absurd rfl h)
set_option maxHeartbeats 4000000 in
set_option maxRecDepth 100000 in
theorem lwc_held {p : Program} {l : Launch} {e : Env} {s : State} {m : MethodId} {below : List Frame} {meth : Method} {c : Code} {H : Heap} {locs : List Loc} {Q : State → Prop} {ls : Array Slot} {D : va_G} {a b' : Nat → Nat} {cI cZ : ClassId} {S T : zS} {b L i cn : Nat} {xs : Nat → Int32} (C0 : lw_At p s m meth c b L xs) (hi : i + 6 ≤ L) (hL : L ≤ 3072) (hK : va_K D vwCl (zT cI cZ) s) (hN : zN s) (hcn : cn < 800000) (hR : Rel 16 cn S T) (hw : zTw D cI cZ (fun q : Nat => s.heap.size ≤ q) a b' S T H) (hS : va_S (fun q : Nat => s.heap.size ≤ q) s.heap H locs) (hl : lv_has ls 4 [(0, .ref b), (1, .ref (a 0)), (2, .ref (b' 0)), (3, .int (nI i))]) (kk : ∀ (S' T' : zS) (c' : Nat) (H : Heap) (locs : List Loc), Rel 16 c' S' T' → c' ≤ cn + 60 → zTw D cI cZ (fun q : Nat => s.heap.size ≤ q) a b' S' T' H → va_S (fun q : Nat => s.heap.size ≤ q) s.heap H locs → W p l e room_1 s m #[Value.ref b] below meth c H locs 33 543 Q (F0 m 733 ls [])) : W p l e room_1 s m #[Value.ref b] below meth c H locs 33 543 Q (F0 m 551 ls []) := by
  obtain ⟨hx, hb, hr, hml, hown, hts, hX, hbl, hlocks, hgv⟩ := C0
  have hb : c.code = cL_law := hb
  have hown : s.vm.findClass RL = some m.cls := hown
  have hts : ∀ w ∈ wsL_law, w.before #[Value.ref b] s = true := fun w h => hts w (wsL_law_in w h)
  have hA : ∀ q : Nat, s.heap.size ≤ q → (fun q : Nat => s.heap.size ≤ q) q := fun _ h => h
  have hbA : ¬ (fun q : Nat => s.heap.size ≤ q) b := Nat.not_le.mpr hbl
  obtain ⟨r, S', T', e1, e2, hR'⟩ := sim_heldP hR (xs (i + 1)) (xs (i + 2))
  refine lv_aload_n hx hb dL_law_551 rfl (lv_at hl 1 rfl) ?_
  refine zarg (i := i) hx hb hX hbl hbA hS hl (lv_at hl 3 rfl) hL 1 1 (by decide) (by omega) dL_law_552 dL_law_553 dL_law_554 dL_law_555 dL_law_556 ?_
  refine zarg (i := i) hx hb hX hbl hbA hS hl (lv_at hl 3 rfl) hL 2 2 (by decide) (by omega) dL_law_557 dL_law_558 dL_law_559 dL_law_560 dL_law_561 ?_
  refine zlXi (r := (r, S')) hw hA hS (va_runV (As := [.int (xs (i + 1)), .int (xs (i + 2))]) (rest := []) ⟨hx, hb, hml, hown, hts⟩ (tX4_held (a := a) (cI := cI) (cZ := cZ) (A := va_A (wX a cI S) H.size) e1) (cwV 2 hts gL_law_X4_held rfl rfl rfl (by decide +kernel) ⟨Nat.le_of_ble_eq_true rfl, Nat.le_of_ble_eq_true rfl⟩) (zpV hw.X hK hw.DX hN (rX_0 hK hw.X)) rfl rfl hl.1 rfl (lv_room (Nat.le_of_ble_eq_true rfl)) dL_law_562 ⟨Nat.le_of_ble_eq_true rfl, Nat.le_of_ble_eq_true rfl⟩) (fun H locs hw hS => ?_)
  refine lv_aload_n hx hb dL_law_565 rfl (lv_at hl 2 rfl) ?_
  refine zarg (i := i) hx hb hX hbl hbA hS hl (lv_at hl 3 rfl) hL 1 1 (by decide) (by omega) dL_law_566 dL_law_567 dL_law_568 dL_law_569 dL_law_570 ?_
  refine zarg (i := i) hx hb hX hbl hbA hS hl (lv_at hl 3 rfl) hL 2 2 (by decide) (by omega) dL_law_571 dL_law_572 dL_law_573 dL_law_574 dL_law_575 ?_
  refine zlMi (r := (r, T')) hw hA hS (va_runV (As := [.int (xs (i + 1)), .int (xs (i + 2))]) (rest := [.int r]) ⟨hx, hb, hml, hown, hts⟩ (tX5_held (a := b') (cI := cI) (cZ := cZ) (A := va_A (wM b' cI cZ T) H.size) e2) (cwV 2 hts gL_law_X5_held rfl rfl rfl (by decide +kernel) ⟨Nat.le_of_ble_eq_true rfl, Nat.le_of_ble_eq_true rfl⟩) (zpV hw.M hK hw.DM hN (rM_0 hK hw.M)) rfl rfl hl.1 rfl (lv_room (Nat.le_of_ble_eq_true rfl)) dL_law_576 ⟨Nat.le_of_ble_eq_true rfl, Nat.le_of_ble_eq_true rfl⟩) (fun H locs hw hS => ?_)
  exact lv_icmp_eq (tgt := 733) hx hb dL_law_579 (by decide) (fun _ => kk S' T' cn H locs hR' (Nat.le_add_right _ _) hw hS) (fun h => absurd rfl h)
set_option maxHeartbeats 4000000 in
set_option maxRecDepth 100000 in
theorem lwc_router {p : Program} {l : Launch} {e : Env} {s : State} {m : MethodId} {below : List Frame} {meth : Method} {c : Code} {H : Heap} {locs : List Loc} {Q : State → Prop} {ls : Array Slot} {D : va_G} {a b' : Nat → Nat} {cI cZ : ClassId} {S T : zS} {b L i cn : Nat} {xs : Nat → Int32} (C0 : lw_At p s m meth c b L xs) (hi : i + 6 ≤ L) (hL : L ≤ 3072) (hK : va_K D vwCl (zT cI cZ) s) (hN : zN s) (hcn : cn < 800000) (hR : Rel 16 cn S T) (hw : zTw D cI cZ (fun q : Nat => s.heap.size ≤ q) a b' S T H) (hS : va_S (fun q : Nat => s.heap.size ≤ q) s.heap H locs) (hl : lv_has ls 4 [(0, .ref b), (1, .ref (a 0)), (2, .ref (b' 0)), (3, .int (nI i))]) (kk : ∀ (S' T' : zS) (c' : Nat) (H : Heap) (locs : List Loc), Rel 16 c' S' T' → c' ≤ cn + 60 → zTw D cI cZ (fun q : Nat => s.heap.size ≤ q) a b' S' T' H → va_S (fun q : Nat => s.heap.size ≤ q) s.heap H locs → W p l e room_1 s m #[Value.ref b] below meth c H locs 33 543 Q (F0 m 733 ls [])) : W p l e room_1 s m #[Value.ref b] below meth c H locs 33 543 Q (F0 m 584 ls []) := by
  obtain ⟨hx, hb, hr, hml, hown, hts, hX, hbl, hlocks, hgv⟩ := C0
  have hb : c.code = cL_law := hb
  have hown : s.vm.findClass RL = some m.cls := hown
  have hts : ∀ w ∈ wsL_law, w.before #[Value.ref b] s = true := fun w h => hts w (wsL_law_in w h)
  have hA : ∀ q : Nat, s.heap.size ≤ q → (fun q : Nat => s.heap.size ≤ q) q := fun _ h => h
  have hbA : ¬ (fun q : Nat => s.heap.size ≤ q) b := Nat.not_le.mpr hbl
  obtain ⟨r, S', T', e1, e2, hR'⟩ := sim_routerP hR (xs (i + 1)) (xs (i + 2))
  refine lv_aload_n hx hb dL_law_584 rfl (lv_at hl 1 rfl) ?_
  refine zarg (i := i) hx hb hX hbl hbA hS hl (lv_at hl 3 rfl) hL 1 1 (by decide) (by omega) dL_law_585 dL_law_586 dL_law_587 dL_law_588 dL_law_589 ?_
  refine zarg (i := i) hx hb hX hbl hbA hS hl (lv_at hl 3 rfl) hL 2 2 (by decide) (by omega) dL_law_590 dL_law_591 dL_law_592 dL_law_593 dL_law_594 ?_
  refine zlXi (r := (r, S')) hw hA hS (va_runV (As := [.int (xs (i + 1)), .int (xs (i + 2))]) (rest := []) ⟨hx, hb, hml, hown, hts⟩ (tX4_router (a := a) (cI := cI) (cZ := cZ) (A := va_A (wX a cI S) H.size) e1) (cwV 2 hts gL_law_X4_router rfl rfl rfl (by decide +kernel) ⟨Nat.le_of_ble_eq_true rfl, Nat.le_of_ble_eq_true rfl⟩) (zpV hw.X hK hw.DX hN (rX_0 hK hw.X)) rfl rfl hl.1 rfl (lv_room (Nat.le_of_ble_eq_true rfl)) dL_law_595 ⟨Nat.le_of_ble_eq_true rfl, Nat.le_of_ble_eq_true rfl⟩) (fun H locs hw hS => ?_)
  refine lv_aload_n hx hb dL_law_598 rfl (lv_at hl 2 rfl) ?_
  refine zarg (i := i) hx hb hX hbl hbA hS hl (lv_at hl 3 rfl) hL 1 1 (by decide) (by omega) dL_law_599 dL_law_600 dL_law_601 dL_law_602 dL_law_603 ?_
  refine zarg (i := i) hx hb hX hbl hbA hS hl (lv_at hl 3 rfl) hL 2 2 (by decide) (by omega) dL_law_604 dL_law_605 dL_law_606 dL_law_607 dL_law_608 ?_
  refine zlMi (r := (r, T')) hw hA hS (va_runV (As := [.int (xs (i + 1)), .int (xs (i + 2))]) (rest := [.int r]) ⟨hx, hb, hml, hown, hts⟩ (tX5_router (a := b') (cI := cI) (cZ := cZ) (A := va_A (wM b' cI cZ T) H.size) e2) (cwV 2 hts gL_law_X5_router rfl rfl rfl (by decide +kernel) ⟨Nat.le_of_ble_eq_true rfl, Nat.le_of_ble_eq_true rfl⟩) (zpV hw.M hK hw.DM hN (rM_0 hK hw.M)) rfl rfl hl.1 rfl (lv_room (Nat.le_of_ble_eq_true rfl)) dL_law_609 ⟨Nat.le_of_ble_eq_true rfl, Nat.le_of_ble_eq_true rfl⟩) (fun H locs hw hS => ?_)
  exact lv_icmp_eq (tgt := 733) hx hb dL_law_612 (by decide) (fun _ => kk S' T' cn H locs hR' (Nat.le_add_right _ _) hw hS) (fun h => absurd rfl h)
set_option maxHeartbeats 4000000 in
set_option maxRecDepth 100000 in
theorem lwc_hop {p : Program} {l : Launch} {e : Env} {s : State} {m : MethodId} {below : List Frame} {meth : Method} {c : Code} {H : Heap} {locs : List Loc} {Q : State → Prop} {ls : Array Slot} {D : va_G} {a b' : Nat → Nat} {cI cZ : ClassId} {S T : zS} {b L i cn : Nat} {xs : Nat → Int32} (C0 : lw_At p s m meth c b L xs) (hi : i + 6 ≤ L) (hL : L ≤ 3072) (hK : va_K D vwCl (zT cI cZ) s) (hN : zN s) (hcn : cn < 800000) (hR : Rel 16 cn S T) (hw : zTw D cI cZ (fun q : Nat => s.heap.size ≤ q) a b' S T H) (hS : va_S (fun q : Nat => s.heap.size ≤ q) s.heap H locs) (hl : lv_has ls 4 [(0, .ref b), (1, .ref (a 0)), (2, .ref (b' 0)), (3, .int (nI i))]) (kk : ∀ (S' T' : zS) (c' : Nat) (H : Heap) (locs : List Loc), Rel 16 c' S' T' → c' ≤ cn + 60 → zTw D cI cZ (fun q : Nat => s.heap.size ≤ q) a b' S' T' H → va_S (fun q : Nat => s.heap.size ≤ q) s.heap H locs → W p l e room_1 s m #[Value.ref b] below meth c H locs 33 543 Q (F0 m 733 ls [])) : W p l e room_1 s m #[Value.ref b] below meth c H locs 33 543 Q (F0 m 617 ls []) := by
  obtain ⟨hx, hb, hr, hml, hown, hts, hX, hbl, hlocks, hgv⟩ := C0
  have hb : c.code = cL_law := hb
  have hown : s.vm.findClass RL = some m.cls := hown
  have hts : ∀ w ∈ wsL_law, w.before #[Value.ref b] s = true := fun w h => hts w (wsL_law_in w h)
  have hA : ∀ q : Nat, s.heap.size ≤ q → (fun q : Nat => s.heap.size ≤ q) q := fun _ h => h
  have hbA : ¬ (fun q : Nat => s.heap.size ≤ q) b := Nat.not_le.mpr hbl
  obtain ⟨r, S', T', e1, e2, hR'⟩ := sim_hopP hR (xs (i + 1))
  refine lv_aload_n hx hb dL_law_617 rfl (lv_at hl 1 rfl) ?_
  refine zarg (i := i) hx hb hX hbl hbA hS hl (lv_at hl 3 rfl) hL 1 1 (by decide) (by omega) dL_law_618 dL_law_619 dL_law_620 dL_law_621 dL_law_622 ?_
  refine zlXi (r := (r, S')) hw hA hS (va_runV (As := [.int (xs (i + 1))]) (rest := []) ⟨hx, hb, hml, hown, hts⟩ (tX4_hop (a := a) (cI := cI) (cZ := cZ) (A := va_A (wX a cI S) H.size) e1) (cwV 1 hts gL_law_X4_hop rfl rfl rfl (by decide +kernel) ⟨Nat.le_of_ble_eq_true rfl, Nat.le_of_ble_eq_true rfl⟩) (zpV hw.X hK hw.DX hN (rX_0 hK hw.X)) rfl rfl hl.1 rfl (lv_room (Nat.le_of_ble_eq_true rfl)) dL_law_623 ⟨Nat.le_of_ble_eq_true rfl, Nat.le_of_ble_eq_true rfl⟩) (fun H locs hw hS => ?_)
  refine lv_aload_n hx hb dL_law_626 rfl (lv_at hl 2 rfl) ?_
  refine zarg (i := i) hx hb hX hbl hbA hS hl (lv_at hl 3 rfl) hL 1 1 (by decide) (by omega) dL_law_627 dL_law_628 dL_law_629 dL_law_630 dL_law_631 ?_
  refine zlMi (r := (r, T')) hw hA hS (va_runV (As := [.int (xs (i + 1))]) (rest := [.int r]) ⟨hx, hb, hml, hown, hts⟩ (tX5_hop (a := b') (cI := cI) (cZ := cZ) (A := va_A (wM b' cI cZ T) H.size) e2) (cwV 1 hts gL_law_X5_hop rfl rfl rfl (by decide +kernel) ⟨Nat.le_of_ble_eq_true rfl, Nat.le_of_ble_eq_true rfl⟩) (zpV hw.M hK hw.DM hN (rM_0 hK hw.M)) rfl rfl hl.1 rfl (lv_room (Nat.le_of_ble_eq_true rfl)) dL_law_632 ⟨Nat.le_of_ble_eq_true rfl, Nat.le_of_ble_eq_true rfl⟩) (fun H locs hw hS => ?_)
  exact lv_icmp_eq (tgt := 733) hx hb dL_law_635 (by decide) (fun _ => kk S' T' cn H locs hR' (Nat.le_add_right _ _) hw hS) (fun h => absurd rfl h)
set_option maxHeartbeats 4000000 in
set_option maxRecDepth 100000 in
theorem lwc_out {p : Program} {l : Launch} {e : Env} {s : State} {m : MethodId} {below : List Frame} {meth : Method} {c : Code} {H : Heap} {locs : List Loc} {Q : State → Prop} {ls : Array Slot} {D : va_G} {a b' : Nat → Nat} {cI cZ : ClassId} {S T : zS} {b L i cn : Nat} {xs : Nat → Int32} (C0 : lw_At p s m meth c b L xs) (hi : i + 6 ≤ L) (hL : L ≤ 3072) (hK : va_K D vwCl (zT cI cZ) s) (hN : zN s) (hcn : cn < 800000) (hR : Rel 16 cn S T) (hw : zTw D cI cZ (fun q : Nat => s.heap.size ≤ q) a b' S T H) (hS : va_S (fun q : Nat => s.heap.size ≤ q) s.heap H locs) (hl : lv_has ls 4 [(0, .ref b), (1, .ref (a 0)), (2, .ref (b' 0)), (3, .int (nI i))]) (kk : ∀ (S' T' : zS) (c' : Nat) (H : Heap) (locs : List Loc), Rel 16 c' S' T' → c' ≤ cn + 60 → zTw D cI cZ (fun q : Nat => s.heap.size ≤ q) a b' S' T' H → va_S (fun q : Nat => s.heap.size ≤ q) s.heap H locs → W p l e room_1 s m #[Value.ref b] below meth c H locs 33 543 Q (F0 m 733 ls [])) : W p l e room_1 s m #[Value.ref b] below meth c H locs 33 543 Q (F0 m 640 ls []) := by
  obtain ⟨hx, hb, hr, hml, hown, hts, hX, hbl, hlocks, hgv⟩ := C0
  have hb : c.code = cL_law := hb
  have hown : s.vm.findClass RL = some m.cls := hown
  have hts : ∀ w ∈ wsL_law, w.before #[Value.ref b] s = true := fun w h => hts w (wsL_law_in w h)
  have hA : ∀ q : Nat, s.heap.size ≤ q → (fun q : Nat => s.heap.size ≤ q) q := fun _ h => h
  have hbA : ¬ (fun q : Nat => s.heap.size ≤ q) b := Nat.not_le.mpr hbl
  obtain ⟨r, S', T', e1, e2, hR'⟩ := sim_outP hR (xs (i + 1)) (xs (i + 2))
  refine lv_aload_n hx hb dL_law_640 rfl (lv_at hl 1 rfl) ?_
  refine zarg (i := i) hx hb hX hbl hbA hS hl (lv_at hl 3 rfl) hL 1 1 (by decide) (by omega) dL_law_641 dL_law_642 dL_law_643 dL_law_644 dL_law_645 ?_
  refine zarg (i := i) hx hb hX hbl hbA hS hl (lv_at hl 3 rfl) hL 2 2 (by decide) (by omega) dL_law_646 dL_law_647 dL_law_648 dL_law_649 dL_law_650 ?_
  refine zlXi (r := (r, S')) hw hA hS (va_runV (As := [.int (xs (i + 1)), .int (xs (i + 2))]) (rest := []) ⟨hx, hb, hml, hown, hts⟩ (tX4_out (a := a) (cI := cI) (cZ := cZ) (A := va_A (wX a cI S) H.size) e1) (cwV 2 hts gL_law_X4_out rfl rfl rfl (by decide +kernel) ⟨Nat.le_of_ble_eq_true rfl, Nat.le_of_ble_eq_true rfl⟩) (zpV hw.X hK hw.DX hN (rX_0 hK hw.X)) rfl rfl hl.1 rfl (lv_room (Nat.le_of_ble_eq_true rfl)) dL_law_651 ⟨Nat.le_of_ble_eq_true rfl, Nat.le_of_ble_eq_true rfl⟩) (fun H locs hw hS => ?_)
  refine lv_aload_n hx hb dL_law_654 rfl (lv_at hl 2 rfl) ?_
  refine zarg (i := i) hx hb hX hbl hbA hS hl (lv_at hl 3 rfl) hL 1 1 (by decide) (by omega) dL_law_655 dL_law_656 dL_law_657 dL_law_658 dL_law_659 ?_
  refine zarg (i := i) hx hb hX hbl hbA hS hl (lv_at hl 3 rfl) hL 2 2 (by decide) (by omega) dL_law_660 dL_law_661 dL_law_662 dL_law_663 dL_law_664 ?_
  refine zlMi (r := (r, T')) hw hA hS (va_runV (As := [.int (xs (i + 1)), .int (xs (i + 2))]) (rest := [.int r]) ⟨hx, hb, hml, hown, hts⟩ (tX5_out (a := b') (cI := cI) (cZ := cZ) (A := va_A (wM b' cI cZ T) H.size) e2) (cwV 2 hts gL_law_X5_out rfl rfl rfl (by decide +kernel) ⟨Nat.le_of_ble_eq_true rfl, Nat.le_of_ble_eq_true rfl⟩) (zpV hw.M hK hw.DM hN (rM_0 hK hw.M)) rfl rfl hl.1 rfl (lv_room (Nat.le_of_ble_eq_true rfl)) dL_law_665 ⟨Nat.le_of_ble_eq_true rfl, Nat.le_of_ble_eq_true rfl⟩) (fun H locs hw hS => ?_)
  exact lv_icmp_eq (tgt := 733) hx hb dL_law_668 (by decide) (fun _ => kk S' T' cn H locs hR' (Nat.le_add_right _ _) hw hS) (fun h => absurd rfl h)
set_option maxHeartbeats 4000000 in
set_option maxRecDepth 100000 in
theorem lwc_about {p : Program} {l : Launch} {e : Env} {s : State} {m : MethodId} {below : List Frame} {meth : Method} {c : Code} {H : Heap} {locs : List Loc} {Q : State → Prop} {ls : Array Slot} {D : va_G} {a b' : Nat → Nat} {cI cZ : ClassId} {S T : zS} {b L i cn : Nat} {xs : Nat → Int32} (C0 : lw_At p s m meth c b L xs) (hi : i + 6 ≤ L) (hL : L ≤ 3072) (hK : va_K D vwCl (zT cI cZ) s) (hN : zN s) (hcn : cn < 800000) (hR : Rel 16 cn S T) (hw : zTw D cI cZ (fun q : Nat => s.heap.size ≤ q) a b' S T H) (hS : va_S (fun q : Nat => s.heap.size ≤ q) s.heap H locs) (hl : lv_has ls 4 [(0, .ref b), (1, .ref (a 0)), (2, .ref (b' 0)), (3, .int (nI i))]) (kk : ∀ (S' T' : zS) (c' : Nat) (H : Heap) (locs : List Loc), Rel 16 c' S' T' → c' ≤ cn + 60 → zTw D cI cZ (fun q : Nat => s.heap.size ≤ q) a b' S' T' H → va_S (fun q : Nat => s.heap.size ≤ q) s.heap H locs → W p l e room_1 s m #[Value.ref b] below meth c H locs 33 543 Q (F0 m 733 ls [])) : W p l e room_1 s m #[Value.ref b] below meth c H locs 33 543 Q (F0 m 673 ls []) := by
  obtain ⟨hx, hb, hr, hml, hown, hts, hX, hbl, hlocks, hgv⟩ := C0
  have hb : c.code = cL_law := hb
  have hown : s.vm.findClass RL = some m.cls := hown
  have hts : ∀ w ∈ wsL_law, w.before #[Value.ref b] s = true := fun w h => hts w (wsL_law_in w h)
  have hA : ∀ q : Nat, s.heap.size ≤ q → (fun q : Nat => s.heap.size ≤ q) q := fun _ h => h
  have hbA : ¬ (fun q : Nat => s.heap.size ≤ q) b := Nat.not_le.mpr hbl
  obtain ⟨r, S', T', e1, e2, hR'⟩ := sim_about hR (xs (i + 1))
  refine lv_aload_n hx hb dL_law_673 rfl (lv_at hl 1 rfl) ?_
  refine zarg (i := i) hx hb hX hbl hbA hS hl (lv_at hl 3 rfl) hL 1 1 (by decide) (by omega) dL_law_674 dL_law_675 dL_law_676 dL_law_677 dL_law_678 ?_
  refine zlXi (r := (r, S')) hw hA hS (va_runV (As := [.int (xs (i + 1))]) (rest := []) ⟨hx, hb, hml, hown, hts⟩ (tX4_about (a := a) (cI := cI) (cZ := cZ) (A := va_A (wX a cI S) H.size) e1) (cwV 1 hts gL_law_X4_about rfl rfl rfl (by decide +kernel) ⟨Nat.le_of_ble_eq_true rfl, Nat.le_of_ble_eq_true rfl⟩) (zpV hw.X hK hw.DX hN (rX_0 hK hw.X)) rfl rfl hl.1 rfl (lv_room (Nat.le_of_ble_eq_true rfl)) dL_law_679 ⟨Nat.le_of_ble_eq_true rfl, Nat.le_of_ble_eq_true rfl⟩) (fun H locs hw hS => ?_)
  refine lv_aload_n hx hb dL_law_682 rfl (lv_at hl 2 rfl) ?_
  refine zarg (i := i) hx hb hX hbl hbA hS hl (lv_at hl 3 rfl) hL 1 1 (by decide) (by omega) dL_law_683 dL_law_684 dL_law_685 dL_law_686 dL_law_687 ?_
  refine zlMi (r := (r, T')) hw hA hS (va_runV (As := [.int (xs (i + 1))]) (rest := [.int r]) ⟨hx, hb, hml, hown, hts⟩ (tX5_about (a := b') (cI := cI) (cZ := cZ) (A := va_A (wM b' cI cZ T) H.size) e2) (cwV 1 hts gL_law_X5_about rfl rfl rfl (by decide +kernel) ⟨Nat.le_of_ble_eq_true rfl, Nat.le_of_ble_eq_true rfl⟩) (zpV hw.M hK hw.DM hN (rM_0 hK hw.M)) rfl rfl hl.1 rfl (lv_room (Nat.le_of_ble_eq_true rfl)) dL_law_688 ⟨Nat.le_of_ble_eq_true rfl, Nat.le_of_ble_eq_true rfl⟩) (fun H locs hw hS => ?_)
  exact lv_icmp_eq (tgt := 733) hx hb dL_law_691 (by decide) (fun _ => kk S' T' cn H locs hR' (Nat.le_add_right _ _) hw hS) (fun h => absurd rfl h)
set_option maxHeartbeats 4000000 in
set_option maxRecDepth 100000 in
theorem lwc_count {p : Program} {l : Launch} {e : Env} {s : State} {m : MethodId} {below : List Frame} {meth : Method} {c : Code} {H : Heap} {locs : List Loc} {Q : State → Prop} {ls : Array Slot} {D : va_G} {a b' : Nat → Nat} {cI cZ : ClassId} {S T : zS} {b L i cn : Nat} {xs : Nat → Int32} (C0 : lw_At p s m meth c b L xs) (hi : i + 6 ≤ L) (hL : L ≤ 3072) (hK : va_K D vwCl (zT cI cZ) s) (hN : zN s) (hcn : cn < 800000) (hR : Rel 16 cn S T) (hw : zTw D cI cZ (fun q : Nat => s.heap.size ≤ q) a b' S T H) (hS : va_S (fun q : Nat => s.heap.size ≤ q) s.heap H locs) (hl : lv_has ls 4 [(0, .ref b), (1, .ref (a 0)), (2, .ref (b' 0)), (3, .int (nI i))]) (kk : ∀ (S' T' : zS) (c' : Nat) (H : Heap) (locs : List Loc), Rel 16 c' S' T' → c' ≤ cn + 60 → zTw D cI cZ (fun q : Nat => s.heap.size ≤ q) a b' S' T' H → va_S (fun q : Nat => s.heap.size ≤ q) s.heap H locs → W p l e room_1 s m #[Value.ref b] below meth c H locs 33 543 Q (F0 m 733 ls [])) : W p l e room_1 s m #[Value.ref b] below meth c H locs 33 543 Q (F0 m 696 ls []) := by
  obtain ⟨hx, hb, hr, hml, hown, hts, hX, hbl, hlocks, hgv⟩ := C0
  have hb : c.code = cL_law := hb
  have hown : s.vm.findClass RL = some m.cls := hown
  have hts : ∀ w ∈ wsL_law, w.before #[Value.ref b] s = true := fun w h => hts w (wsL_law_in w h)
  have hA : ∀ q : Nat, s.heap.size ≤ q → (fun q : Nat => s.heap.size ≤ q) q := fun _ h => h
  have hbA : ¬ (fun q : Nat => s.heap.size ≤ q) b := Nat.not_le.mpr hbl
  obtain ⟨r, S', T', e1, e2, hR'⟩ := sim_count hR (xs (i + 1))
  refine lv_aload_n hx hb dL_law_696 rfl (lv_at hl 1 rfl) ?_
  refine zarg (i := i) hx hb hX hbl hbA hS hl (lv_at hl 3 rfl) hL 1 1 (by decide) (by omega) dL_law_697 dL_law_698 dL_law_699 dL_law_700 dL_law_701 ?_
  refine zlXi (r := (r, S')) hw hA hS (va_runV (As := [.int (xs (i + 1))]) (rest := []) ⟨hx, hb, hml, hown, hts⟩ (tX4_count (a := a) (cI := cI) (cZ := cZ) (A := va_A (wX a cI S) H.size) e1) (cwV 1 hts gL_law_X4_count rfl rfl rfl (by decide +kernel) ⟨Nat.le_of_ble_eq_true rfl, Nat.le_of_ble_eq_true rfl⟩) (zpV hw.X hK hw.DX hN (rX_0 hK hw.X)) rfl rfl hl.1 rfl (lv_room (Nat.le_of_ble_eq_true rfl)) dL_law_702 ⟨Nat.le_of_ble_eq_true rfl, Nat.le_of_ble_eq_true rfl⟩) (fun H locs hw hS => ?_)
  refine lv_aload_n hx hb dL_law_705 rfl (lv_at hl 2 rfl) ?_
  refine zarg (i := i) hx hb hX hbl hbA hS hl (lv_at hl 3 rfl) hL 1 1 (by decide) (by omega) dL_law_706 dL_law_707 dL_law_708 dL_law_709 dL_law_710 ?_
  refine zlMi (r := (r, T')) hw hA hS (va_runV (As := [.int (xs (i + 1))]) (rest := [.int r]) ⟨hx, hb, hml, hown, hts⟩ (tX5_count (a := b') (cI := cI) (cZ := cZ) (A := va_A (wM b' cI cZ T) H.size) e2) (cwV 1 hts gL_law_X5_count rfl rfl rfl (by decide +kernel) ⟨Nat.le_of_ble_eq_true rfl, Nat.le_of_ble_eq_true rfl⟩) (zpV hw.M hK hw.DM hN (rM_0 hK hw.M)) rfl rfl hl.1 rfl (lv_room (Nat.le_of_ble_eq_true rfl)) dL_law_711 ⟨Nat.le_of_ble_eq_true rfl, Nat.le_of_ble_eq_true rfl⟩) (fun H locs hw hS => ?_)
  exact lv_icmp_eq (tgt := 733) hx hb dL_law_714 (by decide) (fun _ => kk S' T' cn H locs hR' (Nat.le_add_right _ _) hw hS) (fun h => absurd rfl h)
set_option maxHeartbeats 4000000 in
set_option maxRecDepth 100000 in
theorem lwc_digest {p : Program} {l : Launch} {e : Env} {s : State} {m : MethodId} {below : List Frame} {meth : Method} {c : Code} {H : Heap} {locs : List Loc} {Q : State → Prop} {ls : Array Slot} {D : va_G} {a b' : Nat → Nat} {cI cZ : ClassId} {S T : zS} {b L i cn : Nat} {xs : Nat → Int32} (C0 : lw_At p s m meth c b L xs) (hi : i + 6 ≤ L) (hL : L ≤ 3072) (hK : va_K D vwCl (zT cI cZ) s) (hN : zN s) (hcn : cn < 800000) (hR : Rel 16 cn S T) (hw : zTw D cI cZ (fun q : Nat => s.heap.size ≤ q) a b' S T H) (hS : va_S (fun q : Nat => s.heap.size ≤ q) s.heap H locs) (hl : lv_has ls 4 [(0, .ref b), (1, .ref (a 0)), (2, .ref (b' 0)), (3, .int (nI i))]) (kk : ∀ (S' T' : zS) (c' : Nat) (H : Heap) (locs : List Loc), Rel 16 c' S' T' → c' ≤ cn + 60 → zTw D cI cZ (fun q : Nat => s.heap.size ≤ q) a b' S' T' H → va_S (fun q : Nat => s.heap.size ≤ q) s.heap H locs → W p l e room_1 s m #[Value.ref b] below meth c H locs 33 543 Q (F0 m 733 ls [])) : W p l e room_1 s m #[Value.ref b] below meth c H locs 33 543 Q (F0 m 719 ls []) := by
  obtain ⟨hx, hb, hr, hml, hown, hts, hX, hbl, hlocks, hgv⟩ := C0
  have hb : c.code = cL_law := hb
  have hown : s.vm.findClass RL = some m.cls := hown
  have hts : ∀ w ∈ wsL_law, w.before #[Value.ref b] s = true := fun w h => hts w (wsL_law_in w h)
  have hA : ∀ q : Nat, s.heap.size ≤ q → (fun q : Nat => s.heap.size ≤ q) q := fun _ h => h
  have hbA : ¬ (fun q : Nat => s.heap.size ≤ q) b := Nat.not_le.mpr hbl
  obtain ⟨r, S', T', e1, e2, hR'⟩ := sim_digest hR 
  refine lv_aload_n hx hb dL_law_719 rfl (lv_at hl 1 rfl) ?_
  refine zlXl (r := (r, S')) hw hA hS (va_runV (As := []) (rest := []) ⟨hx, hb, hml, hown, hts⟩ (tX4_digest (a := a) (cI := cI) (cZ := cZ) (A := va_A (wX a cI S) H.size) e1) (cwV 0 hts gL_law_X4_digest rfl rfl rfl (by decide +kernel) ⟨Nat.le_of_ble_eq_true rfl, Nat.le_of_ble_eq_true rfl⟩) (zpV hw.X hK hw.DX hN (rX_0 hK hw.X)) rfl rfl hl.1 rfl (lv_room (Nat.le_of_ble_eq_true rfl)) dL_law_720 ⟨Nat.le_of_ble_eq_true rfl, Nat.le_of_ble_eq_true rfl⟩) (fun H locs hw hS => ?_)
  refine lv_aload_n hx hb dL_law_723 rfl (lv_at hl 2 rfl) ?_
  refine zlMl (r := (r, T')) hw hA hS (va_runV (As := []) (rest := [.long r]) ⟨hx, hb, hml, hown, hts⟩ (tX5_digest (a := b') (cI := cI) (cZ := cZ) (A := va_A (wM b' cI cZ T) H.size) e2) (cwV 0 hts gL_law_X5_digest rfl rfl rfl (by decide +kernel) ⟨Nat.le_of_ble_eq_true rfl, Nat.le_of_ble_eq_true rfl⟩) (zpV hw.M hK hw.DM hN (rM_0 hK hw.M)) rfl rfl hl.1 rfl (lv_room (Nat.le_of_ble_eq_true rfl)) dL_law_724 ⟨Nat.le_of_ble_eq_true rfl, Nat.le_of_ble_eq_true rfl⟩) (fun H locs hw hS => ?_)
  refine W.lcmp hx hb dL_law_727 ?_
  exact lv_if_eq (tgt := 733) hx hb dL_law_728 (by decide) (fun _ => kk S' T' cn H locs hR' (Nat.le_add_right _ _) hw hS) (fun h => absurd ((lg_cmp_eq r r).mpr rfl) h)
set_option maxHeartbeats 4000000 in
set_option maxRecDepth 100000 in
theorem law_loop {p : Program} {l : Launch} {e : Env} {s : State} {m : MethodId} {below : List Frame} {meth : Method} {c : Code} {D : va_G} {a b' : Nat → Nat} {cI cZ : ClassId} {b L : Nat} {xs : Nat → Int32} (hL : L ≤ 3072) (C0 : lw_At p s m meth c b L xs) (hK : va_K D vwCl (zT cI cZ) s) (hN : zN s) : ∀ (n i : Nat), L + 1 ≤ i + n → i ≤ L → ∀ (S T : zS) (cn : Nat), cn ≤ 10 * i → Rel 16 cn S T → ∀ (H : Heap) (locs : List Loc), zTw D cI cZ (fun q : Nat => s.heap.size ≤ q) a b' S T H → va_S (fun q : Nat => s.heap.size ≤ q) s.heap H locs → ∀ (ls : Array Slot), lv_has ls 4 [(0, .ref b), (1, .ref (a 0)), (2, .ref (b' 0)), (3, .int (nI i))] → W p l e room_1 s m #[Value.ref b] below meth c H locs 33 543 (lw_Z below #[Value.ref b] s) (F0 m 18 ls []) := by
  obtain ⟨hx, hb, hr, hml, hown, hts, hX, hbl, hlocks, hgv⟩ := id C0
  have hb : c.code = cL_law := hb
  have hbA : ¬ (fun q : Nat => s.heap.size ≤ q) b := Nat.not_le.mpr hbl
  intro n
  induction n with
  | zero =>
    intro i h1 h2
    exact absurd h1 (by omega)
  | succ n ih =>
    intro i hn hiL S T cn hcn hR H locs hw hS ls hl
    refine lv_iload_n hx hb dL_law_18 rfl (lv_at hl 3 rfl) ?_
    refine lv_aload_n hx hb dL_law_19 rfl (lv_at hl 0 rfl) ?_
    refine va_slen hx hb hX hbl hbA hS dL_law_20 ?_
    refine lv_bipush (v := nI 6) hx hb dL_law_21 (by decide) ?_
    refine lv_isub hx hb dL_law_23 ?_
    have et : (Int32.ofNat L - nI 6).toInt = (L : Int) - (6 : Nat) := pk_sub_toInt (a := L) (b := 6) (by omega) (by omega)
    refine lv_icmp_gt (tgt := 739) hx hb dL_law_24 (by decide) (fun h => ?_) (fun h => ?_)
    · refine lv_iconst (v := 1) hx hb dL_law_739 (by decide) ?_
      refine va_forget (fun q hq => hS.2.2 q hq) ?_
      exact lw_ret hx hb hr hlocks dL_law_740
    · have hi : i + 6 ≤ L := by
        rw [Int32.lt_iff_toInt_lt, et, nI_toInt (by omega)] at h
        omega
      refine lv_aload_n hx hb dL_law_27 rfl (lv_at hl 0 rfl) ?_
      refine lv_iload_n hx hb dL_law_28 rfl (lv_at hl 3 rfl) ?_
      refine va_sld hx hb hX hbl hbA hS (vp_in_nI (show i < L by omega) (by omega)) dL_law_29 ?_
      refine lv_bipush (v := (31 : Int32)) hx hb dL_law_30 (by decide) ?_
      refine lv_iand hx hb dL_law_32 ?_
      generalize xs (nI i).toNatClampNeg &&& 31 = x
      have kk : ∀ (S' T' : zS) (c' : Nat) (H : Heap) (locs : List Loc), Rel 16 c' S' T' → c' ≤ cn + 60 → zTw D cI cZ (fun q : Nat => s.heap.size ≤ q) a b' S' T' H → va_S (fun q : Nat => s.heap.size ≤ q) s.heap H locs → W p l e room_1 s m #[Value.ref b] below meth c H locs 33 543 (lw_Z below #[Value.ref b] s) (F0 m 733 ls []) := by
        intro S' T' c' H locs hR' hc' hw hS
        refine lv_iinc (v := nI (i + 6)) (lv' := [(3, .int (nI (i + 6))), (0, .ref b), (1, .ref (a 0)), (2, .ref (b' 0))]) hx hb dL_law_733 hl (k := 3) rfl (by rw [show Int32.ofInt 6 = nI 6 by decide]; exact nI_add i 6) (by decide) rfl (fun ls hl => ?_)
        refine lv_goto (tgt := 18) hx hb dL_law_736 (by decide) ?_
        exact ih (i + 6) (by omega) hi S' T' c' (by omega) hR' H locs hw hS ls (lv_sub hl [1, 2, 3, 0] rfl)
      have hcn : cn < 800000 := by omega
      by_cases h0 : x = (0 : Int32)
      · refine lv_tableIn (off := 87) (tgt := 120) hx hb dL_law_33 (by rw [h0]; decide) (by rw [h0]; decide) (by rw [h0]; rfl) (by decide) ?_
        exact lwc_pass C0 hi hL hK hN hcn hR hw hS hl kk
      by_cases h1 : x = (1 : Int32)
      · refine lv_tableIn (off := 110) (tgt := 143) hx hb dL_law_33 (by rw [h1]; decide) (by rw [h1]; decide) (by rw [h1]; rfl) (by decide) ?_
        exact lwc_send C0 hi hL hK hN hcn hR hw hS hl kk
      by_cases h2 : x = (2 : Int32)
      · refine lv_tableIn (off := 143) (tgt := 176) hx hb dL_law_33 (by rw [h2]; decide) (by rw [h2]; decide) (by rw [h2]; rfl) (by decide) ?_
        exact lwc_route C0 hi hL hK hN hcn hR hw hS hl kk
      by_cases h3 : x = (3 : Int32)
      · refine lv_tableIn (off := 176) (tgt := 209) hx hb dL_law_33 (by rw [h3]; decide) (by rw [h3]; decide) (by rw [h3]; rfl) (by decide) ?_
        exact lwc_hint C0 hi hL hK hN hcn hR hw hS hl kk
      by_cases h4 : x = (4 : Int32)
      · refine lv_tableIn (off := 199) (tgt := 232) hx hb dL_law_33 (by rw [h4]; decide) (by rw [h4]; decide) (by rw [h4]; rfl) (by decide) ?_
        exact lwc_answered C0 hi hL hK hN hcn hR hw hS hl kk
      by_cases h5 : x = (5 : Int32)
      · refine lv_tableIn (off := 310) (tgt := 343) hx hb dL_law_33 (by rw [h5]; decide) (by rw [h5]; decide) (by rw [h5]; rfl) (by decide) ?_
        exact lwc_asks C0 hi hL hK hN hcn hR hw hS hl kk
      by_cases h6 : x = (6 : Int32)
      · refine lv_tableIn (off := 353) (tgt := 386) hx hb dL_law_33 (by rw [h6]; decide) (by rw [h6]; decide) (by rw [h6]; rfl) (by decide) ?_
        exact lwc_told C0 hi hL hK hN hcn hR hw hS hl kk
      by_cases h7 : x = (7 : Int32)
      · refine lv_tableIn (off := 406) (tgt := 439) hx hb dL_law_33 (by rw [h7]; decide) (by rw [h7]; decide) (by rw [h7]; rfl) (by decide) ?_
        exact lwc_better C0 hi hL hK hN hcn hR hw hS hl kk
      by_cases h8 : x = (8 : Int32)
      · refine lv_tableIn (off := 449) (tgt := 482) hx hb dL_law_33 (by rw [h8]; decide) (by rw [h8]; decide) (by rw [h8]; rfl) (by decide) ?_
        exact lwc_claim C0 hi hL hK hN hcn hR hw hS hl kk
      by_cases h9 : x = (9 : Int32)
      · refine lv_tableIn (off := 472) (tgt := 505) hx hb dL_law_33 (by rw [h9]; decide) (by rw [h9]; decide) (by rw [h9]; rfl) (by decide) ?_
        exact lwc_give C0 hi hL hK hN hcn hR hw hS hl kk
      by_cases h10 : x = (10 : Int32)
      · refine lv_tableIn (off := 485) (tgt := 518) hx hb dL_law_33 (by rw [h10]; decide) (by rw [h10]; decide) (by rw [h10]; rfl) (by decide) ?_
        exact lwc_entry C0 hi hL hK hN hcn hR hw hS hl kk
      by_cases h11 : x = (11 : Int32)
      · refine lv_tableIn (off := 518) (tgt := 551) hx hb dL_law_33 (by rw [h11]; decide) (by rw [h11]; decide) (by rw [h11]; rfl) (by decide) ?_
        exact lwc_held C0 hi hL hK hN hcn hR hw hS hl kk
      by_cases h12 : x = (12 : Int32)
      · refine lv_tableIn (off := 551) (tgt := 584) hx hb dL_law_33 (by rw [h12]; decide) (by rw [h12]; decide) (by rw [h12]; rfl) (by decide) ?_
        exact lwc_router C0 hi hL hK hN hcn hR hw hS hl kk
      by_cases h13 : x = (13 : Int32)
      · refine lv_tableIn (off := 584) (tgt := 617) hx hb dL_law_33 (by rw [h13]; decide) (by rw [h13]; decide) (by rw [h13]; rfl) (by decide) ?_
        exact lwc_hop C0 hi hL hK hN hcn hR hw hS hl kk
      by_cases h14 : x = (14 : Int32)
      · refine lv_tableIn (off := 607) (tgt := 640) hx hb dL_law_33 (by rw [h14]; decide) (by rw [h14]; decide) (by rw [h14]; rfl) (by decide) ?_
        exact lwc_out C0 hi hL hK hN hcn hR hw hS hl kk
      by_cases h15 : x = (15 : Int32)
      · refine lv_tableIn (off := 640) (tgt := 673) hx hb dL_law_33 (by rw [h15]; decide) (by rw [h15]; decide) (by rw [h15]; rfl) (by decide) ?_
        exact lwc_about C0 hi hL hK hN hcn hR hw hS hl kk
      by_cases h16 : x = (16 : Int32)
      · refine lv_tableIn (off := 663) (tgt := 696) hx hb dL_law_33 (by rw [h16]; decide) (by rw [h16]; decide) (by rw [h16]; rfl) (by decide) ?_
        exact lwc_count C0 hi hL hK hN hcn hR hw hS hl kk
      by_cases h17 : x = (17 : Int32)
      · refine lv_tableIn (off := 686) (tgt := 719) hx hb dL_law_33 (by rw [h17]; decide) (by rw [h17]; decide) (by rw [h17]; rfl) (by decide) ?_
        exact lwc_digest C0 hi hL hK hN hcn hR hw hS hl kk
      refine lv_tableOut (tgt := 733) hx hb dL_law_33 (by have := zne h0 (n := 0) (by decide); have := zne h1 (n := 1) (by decide); have := zne h2 (n := 2) (by decide); have := zne h3 (n := 3) (by decide); have := zne h4 (n := 4) (by decide); have := zne h5 (n := 5) (by decide); have := zne h6 (n := 6) (by decide); have := zne h7 (n := 7) (by decide); have := zne h8 (n := 8) (by decide); have := zne h9 (n := 9) (by decide); have := zne h10 (n := 10) (by decide); have := zne h11 (n := 11) (by decide); have := zne h12 (n := 12) (by decide); have := zne h13 (n := 13) (by decide); have := zne h14 (n := 14) (by decide); have := zne h15 (n := 15) (by decide); have := zne h16 (n := 16) (by decide); have := zne h17 (n := 17) (by decide); omega) (by decide) ?_
      exact kk S T cn H locs hR (Nat.le_add_right _ _) hw hS
theorem zN_in : ∀ w ∈ zNL.map (fun q => Cond.methodLinkNest q.1 q.2.1 q.2.2.1 q.2.2.2), w ∈ lw_tbl := by decide +kernel
theorem zN_of {s : State} {args : Array Value} (hts : ∀ w ∈ lw_tbl, w.before args s = true) : zN s := fun q hq => va_Nw.of rfl (hts _ (zN_in _ (List.mem_map.mpr ⟨q, hq, rfl⟩)))
theorem zArr {s : State} {args : Array Value} {ty : FieldType} (h : (Cond.arrayClass ty).before args s = true) (hty : va_RA s = fun c t => va_RA s c t) : ∃ cA, ArrOfT s cA ty ∧ s.vm.findClass ("[" ++ ty.toString) = some cA := by
  obtain ⟨cA, kA, comp, h1, h2, h3⟩ := Cond.arrayClass_spec h
  exact ⟨cA, fun n z => ⟨fun k h => (by cases h), kA, h2, comp, h3⟩, h1⟩
theorem zWn (C : Cond) (hC : C ∈ lw_tbl) : C ∈ lw_tbl := hC
