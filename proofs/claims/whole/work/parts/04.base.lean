
abbrev zS : Type := (Nat → Int32) × (Nat → Nat → Int32) × Int64
def zI (S : zS) (k : Nat) (v : Int32) : zS := (upd S.1 k v, S.2)
def zR (S : zS) (k i : Nat) (v : Int32) : zS := (S.1, (fun j => if j = k then upd (S.2.1 k) i v else S.2.1 j), S.2.2)
def zL (S : zS) (v : Int64) : zS := (S.1, S.2.1, v)
def zlet {α β : Type} (x : α) (k : α → Option β) : Option β := k x
def zin {β : Type} (i : Int32) (n : Nat) (E : Option β) : Option β := if i < 0 ∨ n ≤ i.toNatClampNeg then none else E
def znz {β : Type} (i : Int32) (E : Option β) : Option β := if i = 0 then none else E
def zbl {β : Type} (i : Int32) (E : Option β) : Option β := if i = 0 ∨ i = 1 then E else none
def obnd {α β : Type} (o : Option (α × zS)) (k : α → zS → Option β) : Option β := match o with
  | none => none
  | some (r, S) => k r S
def obnv {β : Type} (o : Option zS) (k : zS → Option β) : Option β := match o with
  | none => none
  | some S => k S
theorem zin_some {β : Type} {i : Int32} {n : Nat} {E : Option β} {r : β} (h : zin i n E = some r) : vp_in i n ∧ E = some r := by
  unfold zin at h
  by_cases hc : i < 0 ∨ n ≤ i.toNatClampNeg
  · rw [if_pos hc] at h; cases h
  · rw [if_neg hc] at h; exact ⟨hc, h⟩
theorem znz_some {β : Type} {i : Int32} {E : Option β} {r : β} (h : znz i E = some r) : ¬ i = 0 ∧ E = some r := by
  unfold znz at h
  by_cases hc : i = 0
  · rw [if_pos hc] at h; cases h
  · rw [if_neg hc] at h; exact ⟨hc, h⟩
theorem zbl_some {β : Type} {i : Int32} {E : Option β} {r : β} (h : zbl i E = some r) : (i = 0 ∨ i = 1) ∧ E = some r := by
  unfold zbl at h
  by_cases hc : i = 0 ∨ i = 1
  · rw [if_pos hc] at h; exact ⟨hc, h⟩
  · rw [if_neg hc] at h; cases h
theorem obnd_some {α β : Type} {o : Option (α × zS)} {k : α → zS → Option β} {r : β} (h : obnd o k = some r) : ∃ (x : α) (S : zS), o = some (x, S) ∧ k x S = some r := by
  match o, h with
  | some (x, S), h => exact ⟨x, S, rfl, h⟩
theorem obnv_some {β : Type} {o : Option zS} {k : zS → Option β} {r : β} (h : obnv o k = some r) : ∃ (S : zS), o = some S ∧ k S = some r := by
  match o, h with
  | some S, h => exact ⟨S, rfl, h⟩
theorem zt {β : Type} {c : Prop} [Decidable c] {x y : Option β} {r : β} (h : c) (hf : (if c then x else y) = some r) : x = some r := by rw [if_pos h] at hf; exact hf
theorem zf {β : Type} {c : Prop} [Decidable c] {x y : Option β} {r : β} (h : ¬ c) (hf : (if c then x else y) = some r) : y = some r := by rw [if_neg h] at hf; exact hf
theorem zne {x k : Int32} {n : Int} (h : ¬ x = k) (hk : k.toInt = n) : x.toInt ≠ n := fun q => h (Int32.toInt_inj.mp (q.trans hk.symm))
theorem zbn {v : Int32} (h : v = 0 ∨ v = 1) : narrow .boolean (.int v) = .int v := by
  rcases h with rfl | rfl <;> rfl
abbrev zT (cI cZ : ClassId) : List (ClassId × FieldType) := [(cI, .int), (cZ, .boolean)]

def wX (a : Nat → Nat) (cI : ClassId) (S : zS) : va_W := [(a 0, .inr (4, [.ref (a 1), .ref (a 3), .ref (a 6), .ref (a 14), .int (S.1 0), .int (S.1 1), .int (S.1 2), .int (S.1 3), .int (S.1 4), .int (S.1 5), .int (S.1 6)])), (a 1, .inr (2, [.ref (a 2), .int (S.1 7), .int (S.1 8), .int (S.1 9), .int (S.1 10)])), (a 2, .inl (cI, 50, .inl (S.2.1 0))), (a 3, .inr (1, [.ref (a 4), .ref (a 5), .int (S.1 11)])), (a 4, .inl (cI, 4, .inl (S.2.1 1))), (a 5, .inl (cI, 4, .inl (S.2.1 2))), (a 6, .inr (0, [.ref (a 1), .ref (a 3), .ref (a 7), .ref (a 8), .ref (a 9), .ref (a 10), .ref (a 11), .ref (a 12), .ref (a 13), .int (S.1 12), .int (S.1 13), .int (S.1 14)])), (a 7, .inl (cI, 16, .inl (S.2.1 3))), (a 8, .inl (cI, 16, .inl (S.2.1 4))), (a 9, .inl (cI, 16, .inl (S.2.1 5))), (a 10, .inl (cI, 16, .inl (S.2.1 6))), (a 11, .inl (cI, 16, .inl (S.2.1 7))), (a 12, .inl (cI, 16, .inl (S.2.1 8))), (a 13, .inl (cI, 48, .inl (S.2.1 9))), (a 14, .inr (3, [.ref (a 15), .ref (a 16), .ref (a 17), .int (S.1 15)])), (a 15, .inl (cI, 4, .inl (S.2.1 10))), (a 16, .inl (cI, 4, .inl (S.2.1 11))), (a 17, .inl (cI, 4, .inl (S.2.1 12)))]
def wM (a : Nat → Nat) (cI cZ : ClassId) (S : zS) : va_W := [(a 0, .inr (5, [.int (S.1 0), .ref (a 1), .ref (a 2), .ref (a 3), .ref (a 4), .ref (a 5), .ref (a 6), .ref (a 7), .ref (a 8), .ref (a 9), .ref (a 10), .ref (a 11), .int (S.1 1), .int (S.1 2), .int (S.1 3), .ref (a 12), .ref (a 13), .int (S.1 4), .int (S.1 5), .int (S.1 6), .int (S.1 7), .int (S.1 8), .ref (a 14), .int (S.1 9), .int (S.1 10), .int (S.1 11), .int (S.1 12), .long S.2.2])), (a 1, .inl (cZ, 16, .inl (S.2.1 0))), (a 2, .inl (cI, 16, .inl (S.2.1 1))), (a 3, .inl (cI, 16, .inl (S.2.1 2))), (a 4, .inl (cI, 16, .inl (S.2.1 3))), (a 5, .inl (cI, 16, .inl (S.2.1 4))), (a 6, .inl (cI, 16, .inl (S.2.1 5))), (a 7, .inl (cI, 16, .inl (S.2.1 6))), (a 8, .inl (cI, 48, .inl (S.2.1 7))), (a 9, .inl (cZ, 16, .inl (S.2.1 8))), (a 10, .inl (cI, 16, .inl (S.2.1 9))), (a 11, .inl (cI, 16, .inl (S.2.1 10))), (a 12, .inl (cI, 4, .inl (S.2.1 11))), (a 13, .inl (cI, 4, .inl (S.2.1 12))), (a 14, .inl (cI, 50, .inl (S.2.1 13)))]
def zNL : List (String × Nat × MethodName × String) := [("StationBook", 9, ⟨"StationBook$Outbox", "<init>", "()V"⟩, "StationBook"), ("StationBook", 12, ⟨"StationBook$KeptHops", "<init>", "()V"⟩, "StationBook"), ("StationBook", 25, ⟨"StationBook$Entries", "<init>", "(LStationBook$Outbox;LStationBook$KeptHops;)V"⟩, "StationBook"), ("StationBook", 34, ⟨"StationBook$Routers", "<init>", "()V"⟩, "StationBook"), ("StationBook", 62, ⟨"StationBook$Outbox", "add", "(IIIII)V"⟩, "StationBook"), ("StationBook", 69, ⟨"StationBook$Entries", "endThoseOf", "(I)V"⟩, "StationBook"), ("StationBook$Entries", 95, ⟨"StationBook$Outbox", "add", "(IIIII)V"⟩, "StationBook"), ("StationBook$Entries", 71, ⟨"StationBook$KeptHops", "forget", "(I)V"⟩, "StationBook"), ("StationBook", 73, ⟨"StationBook$Routers", "endThoseOf", "(I)V"⟩, "StationBook"), ("StationBook", 90, ⟨"StationBook$Entries", "takeLetter", "(III)I"⟩, "StationBook"), ("StationBook", 173, ⟨"StationBook$KeptHops", "hopOf", "(I)I"⟩, "StationBook"), ("StationBook", 176, ⟨"StationBook$Routers", "firstGood", "(LStationBook$Entries;)I"⟩, "StationBook"), ("StationBook$Routers", 37, ⟨"StationBook$Entries", "hasMark", "(I)Z"⟩, "StationBook"), ("StationBook", 180, ⟨"StationBook$Routers", "leastAbove", "(I)I"⟩, "StationBook"), ("StationBook", 105, ⟨"StationBook$Entries", "confirm", "(II)I"⟩, "StationBook"), ("StationBook", 115, ⟨"StationBook$Entries", "has", "(I)Z"⟩, "StationBook"), ("StationBook", 118, ⟨"StationBook$Entries", "takeAnswer", "(IIZZI)V"⟩, "StationBook"), ("StationBook", 122, ⟨"StationBook$Routers", "remove", "(I)V"⟩, "StationBook"), ("StationBook", 125, ⟨"StationBook$Entries", "stateOf", "(I)I"⟩, "StationBook"), ("StationBook", 132, ⟨"StationBook$Entries", "hear", "(III)V"⟩, "StationBook"), ("StationBook", 136, ⟨"StationBook$Routers", "hasRoomFor", "(I)Z"⟩, "StationBook"), ("StationBook", 139, ⟨"StationBook$Routers", "put", "(III)V"⟩, "StationBook"), ("StationBook", 142, ⟨"StationBook$Routers", "howMany", "()I"⟩, "StationBook"), ("StationBook", 148, ⟨"StationBook$KeptHops", "keep", "(II)V"⟩, "StationBook"), ("StationBook", 154, ⟨"StationBook$Routers", "has", "(I)Z"⟩, "StationBook"), ("StationBook", 155, ⟨"StationBook$KeptHops", "leadTo", "(I)Z"⟩, "StationBook"), ("StationBook", 158, ⟨"StationBook$Entries", "tell", "(II)I"⟩, "StationBook"), ("StationBook", 161, ⟨"StationBook$Entries", "letterAt", "(II)I"⟩, "StationBook"), ("StationBook", 164, ⟨"StationBook$Routers", "slotInOrder", "(ILStationBook$Entries;)I"⟩, "StationBook"), ("StationBook", 168, ⟨"StationBook$Routers", "isGood", "(ILStationBook$Entries;)Z"⟩, "StationBook"), ("StationBook", 172, ⟨"StationBook$Routers", "tell", "(II)I"⟩, "StationBook"), ("StationBook", 183, ⟨"StationBook$Outbox", "tell", "(II)I"⟩, "StationBook"), ("StationBook", 184, ⟨"StationBook$Entries", "howMany", "()I"⟩, "StationBook"), ("StationBook", 185, ⟨"StationBook$KeptHops", "howMany", "()I"⟩, "StationBook"), ("StationBook", 186, ⟨"StationBook$Entries", "allWaiting", "()I"⟩, "StationBook"), ("StationBook", 189, ⟨"StationBook$Entries", "lostEver", "()I"⟩, "StationBook"), ("StationBook", 192, ⟨"StationBook$Outbox", "lettersEver", "()I"⟩, "StationBook"), ("StationBook", 195, ⟨"StationBook$Outbox", "allEver", "()I"⟩, "StationBook"), ("StationBook", 198, ⟨"StationBook$Entries", "goneEver", "()I"⟩, "StationBook"), ("StationBook", 201, ⟨"StationBook$Entries", "allFresh", "()I"⟩, "StationBook"), ("StationBook", 234, ⟨"StationBook$Entries", "waitingAt", "(I)I"⟩, "StationBook"), ("StationBook", 243, ⟨"StationBook$Outbox", "howMany", "()I"⟩, "StationBook")]

def zN (U : State) : Prop := ∀ q ∈ zNL, va_Nw (.methodLinkNest q.1 q.2.1 q.2.2.1 q.2.2.2) U
theorem zN.warm {s U : State} (hW : s.WarmedH U.vm) (h : zN s) : zN U := fun q hq => va_Nw.warmM hW (h q hq)
theorem zN.same {u U : State} (hv : u.vm = U.vm) (h : zN u) : zN U := fun q hq => va_Nw.same rfl hv (h q hq)
def zPre (D : va_G) (tys : List (ClassId × FieldType)) (A : Nat → Prop) (w : va_W) (U : State) : Prop := va_P D vwCl w U.heap ∧ va_K D vwCl tys U ∧ va_D A w ∧ zN U
def zB (D : va_G) (A : Nat → Prop) (wf : zS → va_W) (u : zS) (t : State) : Prop := va_P D vwCl (wf u) t.heap ∧ va_D A (wf u)
abbrev zMi (l : Launch) (y : MethodName) (ws : List Cond) (rm : Room) (D : va_G) (tys : List (ClassId × FieldType)) (A : Nat → Prop) (wf : zS → va_W) (as : List Value) (S : zS) (r : Int32 × zS) : Prop := Met l y ws rm (va_Pc as (zPre D tys A (wf S))) (va_Qi (fun v u => v = r.1 ∧ u = r.2) (zB D A wf) A) 0 0 A
abbrev zMl (l : Launch) (y : MethodName) (ws : List Cond) (rm : Room) (D : va_G) (tys : List (ClassId × FieldType)) (A : Nat → Prop) (wf : zS → va_W) (as : List Value) (S : zS) (r : Int64 × zS) : Prop := Met l y ws rm (va_Pc as (zPre D tys A (wf S))) (va_Ql (fun v u => v = r.1 ∧ u = r.2) (zB D A wf) A) 0 0 A
abbrev zMv (l : Launch) (y : MethodName) (ws : List Cond) (rm : Room) (D : va_G) (tys : List (ClassId × FieldType)) (A : Nat → Prop) (wf : zS → va_W) (as : List Value) (S : zS) (r : zS) : Prop := Met l y ws rm (va_Pc as (zPre D tys A (wf S))) (va_Qv (fun u => u = r) (zB D A wf) A) 0 0 A
/-- what stands through a method's walk -/
def zC (p : Program) (m : MethodId) (c : Code) (cc : ByteArray) (nL : Nat) (s : State) (args : Array Value) (Ts : List Cond) (own : String) (D : va_G) (cI cZ : ClassId) : Prop := CallFix p m c cc nL s args Ts own ∧ va_K D vwCl (zT cI cZ) s ∧ zN s
/-- the ends of a walk -/
def zRi (p : Program) (l : Launch) (e : Env) (R : Room) (s : State) (m : MethodId) (args : Array Value) (below : List Frame) (meth : Method) (c : Code) (cc : ByteArray) (D : va_G) (A : Nat → Prop) (wf : zS → va_W) (Q : State → Prop) (r : Int32 × zS) : Prop := ∀ (H : Heap) (locs : List Loc) (pc : Nat) (ls : Array Slot), va_P D vwCl (wf r.2) H → va_D A (wf r.2) → va_S A s.heap H locs → decode cc pc = .ok (.ireturn, 1) → W p l e R s m args below meth c H locs 0 0 Q (F0 m pc ls [.int r.1])
def zRz (p : Program) (l : Launch) (e : Env) (R : Room) (s : State) (m : MethodId) (args : Array Value) (below : List Frame) (meth : Method) (c : Code) (cc : ByteArray) (D : va_G) (A : Nat → Prop) (wf : zS → va_W) (Q : State → Prop) (r : Int32 × zS) : Prop := ∀ (H : Heap) (locs : List Loc) (pc : Nat) (ls : Array Slot), (r.1 = 0 ∨ r.1 = 1) → va_P D vwCl (wf r.2) H → va_D A (wf r.2) → va_S A s.heap H locs → decode cc pc = .ok (.ireturn, 1) → W p l e R s m args below meth c H locs 0 0 Q (F0 m pc ls [.int r.1])
def zRl (p : Program) (l : Launch) (e : Env) (R : Room) (s : State) (m : MethodId) (args : Array Value) (below : List Frame) (meth : Method) (c : Code) (cc : ByteArray) (D : va_G) (A : Nat → Prop) (wf : zS → va_W) (Q : State → Prop) (r : Int64 × zS) : Prop := ∀ (H : Heap) (locs : List Loc) (pc : Nat) (ls : Array Slot), va_P D vwCl (wf r.2) H → va_D A (wf r.2) → va_S A s.heap H locs → decode cc pc = .ok (.lreturn, 1) → W p l e R s m args below meth c H locs 0 0 Q (F0 m pc ls [.long r.1])
def zRv (p : Program) (l : Launch) (e : Env) (R : Room) (s : State) (m : MethodId) (args : Array Value) (below : List Frame) (meth : Method) (c : Code) (cc : ByteArray) (D : va_G) (A : Nat → Prop) (wf : zS → va_W) (Q : State → Prop) (r : zS) : Prop := ∀ (H : Heap) (locs : List Loc) (pc : Nat) (ls : Array Slot), va_P D vwCl (wf r) H → va_D A (wf r) → va_S A s.heap H locs → decode cc pc = .ok (.return_, 1) → W p l e R s m args below meth c H locs 0 0 Q (F0 m pc ls [])
theorem zFB {as : List Value} {D : va_G} {tys : List (ClassId × FieldType)} {A : Nat → Prop} {w : va_W} : FrameBlind (va_Pc as (zPre D tys A w)) := by
  intro b U g mk q
  obtain ⟨q0, qP, qK, qD, qN⟩ := q
  exact ⟨q0, qP, va_K.moved (u := U) (U := U.calling g mk b) (Vm.Alike.refl U.vm) qK, qD, zN.same rfl qN⟩


theorem zpS {D : va_G} {tys : List (ClassId × FieldType)} {A : Nat → Prop} {w : va_W} {s : State} {H : Heap} {As : List Value} (hP : va_P D vwCl w H) (hK : va_K D vwCl tys s) (hD : va_D A w) (hN : zN s) : PreS s H (va_Pc As (zPre D tys A w)) As :=
  ⟨zFB, fun U hU hW => ⟨rfl, by rw [hU]; exact hP, va_K.moved hW.alike hK, hD, zN.warm hW hN⟩⟩
theorem zpV {D : va_G} {tys : List (ClassId × FieldType)} {A : Nat → Prop} {w : va_W} {s : State} {H : Heap} {As : List Value} {b : Nat} {C : String} (hP : va_P D vwCl w H) (hK : va_K D vwCl tys s) (hD : va_D A w) (hN : zN s) (hr : ∃ cellB : Cell, H[b]? = some cellB ∧ cellB.vm.isStatics = false ∧ s.vm.findClass C = some cellB.cls) : PreV s H C b (va_Pc (.ref b :: As) (zPre D tys A w)) As :=
  ⟨zFB, hr, fun U hU hW => ⟨rfl, by rw [hU]; exact hP, va_K.moved hW.alike hK, hD, zN.warm hW hN⟩⟩
section ZC
variable {p : Program} {l : Launch} {e : Env} {R : Room} {s : State} {m : MethodId} {args : Array Value} {below : List Frame} {meth : Method} {c : Code} {H H0 : Heap} {locs : List Loc} {cells slots : Nat} {Q : State → Prop} {cc : ByteArray} {pc : Nat} {ls : Array Slot} {rest : List Value} {D : va_G} {a : Nat → Nat} {cI cZ : ClassId} {A : Nat → Prop} {S : zS} {wf : zS → va_W} {st0 : List Value} {ar : Array Value}
theorem zci {r : Int32 × zS} (hr : va_Run p l e R s m args below meth c H locs cells slots 0 0 (F0 m pc ls st0) rest (va_Qi (fun v u => v = r.1 ∧ u = r.2) (zB D A wf) A ar) A) (hS : va_S A H0 H locs) (kk : ∀ (H : Heap) (locs : List Loc), va_P D vwCl (wf r.2) H → va_D A (wf r.2) → va_S A H0 H locs → W p l e R s m args below meth c H locs cells slots Q (F0 m (pc + 3) ls (.int r.1 :: rest))) : W p l e R s m args below meth c H locs cells slots Q (F0 m pc ls st0) :=
  va_calli hr hS (fun _ _ h => h) (fun _ h => h) (fun v u t H1 locs1 ht hvm hw hB hz hk hS1 => by
    obtain ⟨rfl, rfl⟩ := hw
    obtain ⟨b1, b2⟩ := hB
    rw [ht] at b1
    exact kk H1 locs1 b1 b2 hS1)
theorem zcl {r : Int64 × zS} (hr : va_Run p l e R s m args below meth c H locs cells slots 0 0 (F0 m pc ls st0) rest (va_Ql (fun v u => v = r.1 ∧ u = r.2) (zB D A wf) A ar) A) (hS : va_S A H0 H locs) (kk : ∀ (H : Heap) (locs : List Loc), va_P D vwCl (wf r.2) H → va_D A (wf r.2) → va_S A H0 H locs → W p l e R s m args below meth c H locs cells slots Q (F0 m (pc + 3) ls (.long r.1 :: rest))) : W p l e R s m args below meth c H locs cells slots Q (F0 m pc ls st0) :=
  va_calll hr hS (fun _ _ h => h) (fun _ h => h) (fun v u t H1 locs1 ht hvm hw hB hz hk hS1 => by
    obtain ⟨rfl, rfl⟩ := hw
    obtain ⟨b1, b2⟩ := hB
    rw [ht] at b1
    exact kk H1 locs1 b1 b2 hS1)
theorem zcv {r : zS} (hr : va_Run p l e R s m args below meth c H locs cells slots 0 0 (F0 m pc ls st0) rest (va_Qv (fun u => u = r) (zB D A wf) A ar) A) (hS : va_S A H0 H locs) (kk : ∀ (H : Heap) (locs : List Loc), va_P D vwCl (wf r) H → va_D A (wf r) → va_S A H0 H locs → W p l e R s m args below meth c H locs cells slots Q (F0 m (pc + 3) ls rest)) : W p l e R s m args below meth c H locs cells slots Q (F0 m pc ls st0) :=
  va_callv hr hS (fun _ _ h => h) (fun _ h => h) (fun u t H1 locs1 ht hvm hw hB hz hk hS1 => by
    obtain rfl := hw
    obtain ⟨b1, b2⟩ := hB
    rw [ht] at b1
    exact kk H1 locs1 b1 b2 hS1)
theorem zri {r : Int32 × zS} {v : Int32} (hf : some (v, S) = some r) (hQ : zRi p l e R s m args below meth c cc D A wf Q r) (hP : va_P D vwCl (wf S) H) (hD : va_D A (wf S)) (hS : va_S A s.heap H locs) (hdg : decode cc pc = .ok (.ireturn, 1)) : W p l e R s m args below meth c H locs 0 0 Q (F0 m pc ls [.int v]) := by
  obtain rfl := Option.some.inj hf
  exact hQ H locs pc ls hP hD hS hdg
theorem zrz {r : Int32 × zS} {v : Int32} (hf : some (v, S) = some r) (hv : v = 0 ∨ v = 1) (hQ : zRz p l e R s m args below meth c cc D A wf Q r) (hP : va_P D vwCl (wf S) H) (hD : va_D A (wf S)) (hS : va_S A s.heap H locs) (hdg : decode cc pc = .ok (.ireturn, 1)) : W p l e R s m args below meth c H locs 0 0 Q (F0 m pc ls [.int v]) := by
  obtain rfl := Option.some.inj hf
  exact hQ H locs pc ls hv hP hD hS hdg
theorem zrl {r : Int64 × zS} {v : Int64} (hf : some (v, S) = some r) (hQ : zRl p l e R s m args below meth c cc D A wf Q r) (hP : va_P D vwCl (wf S) H) (hD : va_D A (wf S)) (hS : va_S A s.heap H locs) (hdg : decode cc pc = .ok (.lreturn, 1)) : W p l e R s m args below meth c H locs 0 0 Q (F0 m pc ls [.long v]) := by
  obtain rfl := Option.some.inj hf
  exact hQ H locs pc ls hP hD hS hdg
theorem zrv {r : zS} (hf : some S = some r) (hQ : zRv p l e R s m args below meth c cc D A wf Q r) (hP : va_P D vwCl (wf S) H) (hD : va_D A (wf S)) (hS : va_S A s.heap H locs) (hdg : decode cc pc = .ok (.return_, 1)) : W p l e R s m args below meth c H locs 0 0 Q (F0 m pc ls []) := by
  obtain rfl := Option.some.inj hf
  exact hQ H locs pc ls hP hD hS hdg
/-! locals: a new value gets a name -/
theorem z_istore_n {β : Type} {kk : Int32 → Option β} {r : β} {x : Int32} (hf : zlet x kk = some r) (hx : p.tables.exec = Jvm.exec) (hb : c.code = cc) {k : Fin 4} {i nL : Nat} {lv : List (Nat × Value)} (lv' : Int32 → List (Nat × Value)) (hdg : decode cc pc = .ok (.istore_n k, 1)) (hi : (k : Nat) = i) (h : lv_has ls nL lv) (hn : i < nL) (hl : ∀ y, (i, Value.int y) :: lv.filter (fun q => !(q.1 == i) && !(q.1 + 1 == i && q.2.category == 2)) = lv' y) (K : ∀ (y : Int32) (ls : Array Slot), kk y = some r → lv_has ls nL (lv' y) → W p l e R s m args below meth c H locs cells slots Q (F0 m (pc + 1) ls rest)) : W p l e R s m args below meth c H locs cells slots Q (F0 m pc ls (.int x :: rest)) :=
  lv_istore_n hx hb hdg hi h hn (hl x) (fun ls hls => K x ls hf hls)
theorem z_istore {β : Type} {kk : Int32 → Option β} {r : β} {x : Int32} (hf : zlet x kk = some r) (hx : p.tables.exec = Jvm.exec) (hb : c.code = cc) {i nL : Nat} {lv : List (Nat × Value)} (lv' : Int32 → List (Nat × Value)) (hdg : decode cc pc = .ok (.istore i, 2)) (h : lv_has ls nL lv) (hn : i < nL) (hl : ∀ y, (i, Value.int y) :: lv.filter (fun q => !(q.1 == i) && !(q.1 + 1 == i && q.2.category == 2)) = lv' y) (K : ∀ (y : Int32) (ls : Array Slot), kk y = some r → lv_has ls nL (lv' y) → W p l e R s m args below meth c H locs cells slots Q (F0 m (pc + 2) ls rest)) : W p l e R s m args below meth c H locs cells slots Q (F0 m pc ls (.int x :: rest)) :=
  lv_istore hx hb hdg h hn (hl x) (fun ls hls => K x ls hf hls)
theorem z_lstore_n {β : Type} {kk : Int64 → Option β} {r : β} {x : Int64} (hf : zlet x kk = some r) (hx : p.tables.exec = Jvm.exec) (hb : c.code = cc) {k : Fin 4} {i nL : Nat} {lv : List (Nat × Value)} (lv' : Int64 → List (Nat × Value)) (hdg : decode cc pc = .ok (.lstore_n k, 1)) (hi : (k : Nat) = i) (h : lv_has ls nL lv) (hn : i + 1 < nL) (hl : ∀ y, (i, Value.long y) :: lv.filter (fun q => !(q.1 == i) && (!(q.1 == i + 1) && !(q.1 + 1 == i && q.2.category == 2))) = lv' y) (K : ∀ (y : Int64) (ls : Array Slot), kk y = some r → lv_has ls nL (lv' y) → W p l e R s m args below meth c H locs cells slots Q (F0 m (pc + 1) ls rest)) : W p l e R s m args below meth c H locs cells slots Q (F0 m pc ls (.long x :: rest)) :=
  lv_lstore_n hx hb hdg hi h hn (hl x) (fun ls hls => K x ls hf hls)
theorem z_lstore {β : Type} {kk : Int64 → Option β} {r : β} {x : Int64} (hf : zlet x kk = some r) (hx : p.tables.exec = Jvm.exec) (hb : c.code = cc) {i nL : Nat} {lv : List (Nat × Value)} (lv' : Int64 → List (Nat × Value)) (hdg : decode cc pc = .ok (.lstore i, 2)) (h : lv_has ls nL lv) (hn : i + 1 < nL) (hl : ∀ y, (i, Value.long y) :: lv.filter (fun q => !(q.1 == i) && (!(q.1 == i + 1) && !(q.1 + 1 == i && q.2.category == 2))) = lv' y) (K : ∀ (y : Int64) (ls : Array Slot), kk y = some r → lv_has ls nL (lv' y) → W p l e R s m args below meth c H locs cells slots Q (F0 m (pc + 2) ls rest)) : W p l e R s m args below meth c H locs cells slots Q (F0 m pc ls (.long x :: rest)) :=
  lv_lstore hx hb hdg h hn (hl x) (fun ls hls => K x ls hf hls)
theorem z_iinc {β : Type} {kk : Int32 → Option β} {r : β} {x v : Int32} (hf : zlet (x + v) kk = some r) (hx : p.tables.exec = Jvm.exec) (hb : c.code = cc) {i nL : Nat} (k : Nat) {n : Int} {lv : List (Nat × Value)} (lv' : Int32 → List (Nat × Value)) (hdg : decode cc pc = .ok (.iinc i n, 3)) (h : lv_has ls nL lv) (hk : lv[k]? = some (i, .int x)) (hv : Int32.ofInt n = v) (hn : i < nL) (hl : ∀ y, (i, Value.int y) :: lv.filter (fun q => !(q.1 == i) && !(q.1 + 1 == i && q.2.category == 2)) = lv' y) (K : ∀ (y : Int32) (ls : Array Slot), kk y = some r → lv_has ls nL (lv' y) → W p l e R s m args below meth c H locs cells slots Q (F0 m (pc + 3) ls rest)) : W p l e R s m args below meth c H locs cells slots Q (F0 m pc ls rest) :=
  lv_iinc (k := k) (v := x + v) hx hb hdg h hk (by rw [hv]) hn (hl _) (fun ls hls => K _ ls hf hls)
end ZC
section ZM
variable {l : Launch} {y : MethodName} {ws ws' : List Cond} {rm : Room} {D : va_G} {cI cZ : ClassId} {A : Nat → Prop} {wf : zS → va_W} {as : List Value} {S : zS} {cc : ByteArray} {maxL : Nat}
theorem zMi_of {r : Int32 × zS} {own : String} (hy : plainName y.cls = true) (ho : y.cls = own) (hw : ws = Cond.code y cc maxL (some .int) :: ws') (hle : (lg_sl as).length ≤ maxL) (body : ∀ {p : Program} {e : Env} {s : State} {m : MethodId} {args : Array Value} {below : List Frame} {meth : Method} {c : Code} {Q : State → Prop}, zC p m c cc maxL s args ws own D cI cZ → zRi p l e rm s m args below meth c cc D A wf Q r → va_P D vwCl (wf S) s.heap → va_D A (wf S) → va_S A s.heap s.heap [] → ∀ {ls : Array Slot}, lv_has ls maxL (lv_args 0 as) → W p l e rm s m args below meth c s.heap [] 0 0 Q (F0 m 0 ls [])) : zMi l y ws rm D (zT cI cZ) A wf as S r := by
  refine Met.ofW (cc := cc) (maxL := maxL) (ret := some .int) hy hw ?_
  intro p e s m args below meth c s₁ B hml hv
  obtain ⟨rfl, hP, hK, hD, hN⟩ := hv
  have hl := lv_entry as (n := maxL) hle
  rw [lg_entry_eq]
  refine body ⟨⟨B.exec, B.bytes, hml, ?_, atoms_spec (ws := ws) B.pre⟩, hK, hN⟩ ?_ hP hD va_S.rf hl
  · rw [← ho]; exact findClass_of_methodNamed B.named
  · intro H locs pc ls hP hD hS hdg
    exact W.iret B.exec B.bytes B.returns (fun t ht hW => ⟨⟨r.1, r.2, rfl, ⟨rfl, rfl⟩, by rw [ht]; exact hP, hD⟩, hS.F ht⟩) hS.2.2 hdg B.notSynchronized
theorem zMz_of {r : Int32 × zS} {own : String} (hy : plainName y.cls = true) (ho : y.cls = own) (hw : ws = Cond.code y cc maxL (some .boolean) :: ws') (hle : (lg_sl as).length ≤ maxL) (body : ∀ {p : Program} {e : Env} {s : State} {m : MethodId} {args : Array Value} {below : List Frame} {meth : Method} {c : Code} {Q : State → Prop}, zC p m c cc maxL s args ws own D cI cZ → zRz p l e rm s m args below meth c cc D A wf Q r → va_P D vwCl (wf S) s.heap → va_D A (wf S) → va_S A s.heap s.heap [] → ∀ {ls : Array Slot}, lv_has ls maxL (lv_args 0 as) → W p l e rm s m args below meth c s.heap [] 0 0 Q (F0 m 0 ls [])) : zMi l y ws rm D (zT cI cZ) A wf as S r := by
  refine Met.ofW (cc := cc) (maxL := maxL) (ret := some .boolean) hy hw ?_
  intro p e s m args below meth c s₁ B hml hv
  obtain ⟨rfl, hP, hK, hD, hN⟩ := hv
  have hl := lv_entry as (n := maxL) hle
  rw [lg_entry_eq]
  refine body ⟨⟨B.exec, B.bytes, hml, ?_, atoms_spec (ws := ws) B.pre⟩, hK, hN⟩ ?_ hP hD va_S.rf hl
  · rw [← ho]; exact findClass_of_methodNamed B.named
  · intro H locs pc ls hv hP hD hS hdg
    exact W.zret B.exec B.bytes B.returns (zbn hv) (fun t ht hW => ⟨⟨r.1, r.2, rfl, ⟨rfl, rfl⟩, by rw [ht]; exact hP, hD⟩, hS.F ht⟩) hS.2.2 hdg B.notSynchronized
theorem zMl_of {r : Int64 × zS} {own : String} (hy : plainName y.cls = true) (ho : y.cls = own) (hw : ws = Cond.code y cc maxL (some .long) :: ws') (hle : (lg_sl as).length ≤ maxL) (body : ∀ {p : Program} {e : Env} {s : State} {m : MethodId} {args : Array Value} {below : List Frame} {meth : Method} {c : Code} {Q : State → Prop}, zC p m c cc maxL s args ws own D cI cZ → zRl p l e rm s m args below meth c cc D A wf Q r → va_P D vwCl (wf S) s.heap → va_D A (wf S) → va_S A s.heap s.heap [] → ∀ {ls : Array Slot}, lv_has ls maxL (lv_args 0 as) → W p l e rm s m args below meth c s.heap [] 0 0 Q (F0 m 0 ls [])) : zMl l y ws rm D (zT cI cZ) A wf as S r := by
  refine Met.ofW (cc := cc) (maxL := maxL) (ret := some .long) hy hw ?_
  intro p e s m args below meth c s₁ B hml hv
  obtain ⟨rfl, hP, hK, hD, hN⟩ := hv
  have hl := lv_entry as (n := maxL) hle
  rw [lg_entry_eq]
  refine body ⟨⟨B.exec, B.bytes, hml, ?_, atoms_spec (ws := ws) B.pre⟩, hK, hN⟩ ?_ hP hD va_S.rf hl
  · rw [← ho]; exact findClass_of_methodNamed B.named
  · intro H locs pc ls hP hD hS hdg
    exact W.lret B.exec B.bytes B.returns (fun t ht hW => ⟨⟨r.1, r.2, rfl, ⟨rfl, rfl⟩, by rw [ht]; exact hP, hD⟩, hS.F ht⟩) hS.2.2 hdg B.notSynchronized
theorem zMv_of {r : zS} {own : String} (hy : plainName y.cls = true) (ho : y.cls = own) (hw : ws = Cond.code y cc maxL (none) :: ws') (hle : (lg_sl as).length ≤ maxL) (body : ∀ {p : Program} {e : Env} {s : State} {m : MethodId} {args : Array Value} {below : List Frame} {meth : Method} {c : Code} {Q : State → Prop}, zC p m c cc maxL s args ws own D cI cZ → zRv p l e rm s m args below meth c cc D A wf Q r → va_P D vwCl (wf S) s.heap → va_D A (wf S) → va_S A s.heap s.heap [] → ∀ {ls : Array Slot}, lv_has ls maxL (lv_args 0 as) → W p l e rm s m args below meth c s.heap [] 0 0 Q (F0 m 0 ls [])) : zMv l y ws rm D (zT cI cZ) A wf as S r := by
  refine Met.ofW (cc := cc) (maxL := maxL) (ret := none) hy hw ?_
  intro p e s m args below meth c s₁ B hml hv
  obtain ⟨rfl, hP, hK, hD, hN⟩ := hv
  have hl := lv_entry as (n := maxL) hle
  rw [lg_entry_eq]
  refine body ⟨⟨B.exec, B.bytes, hml, ?_, atoms_spec (ws := ws) B.pre⟩, hK, hN⟩ ?_ hP hD va_S.rf hl
  · rw [← ho]; exact findClass_of_methodNamed B.named
  · intro H locs pc ls hP hD hS hdg
    exact W.vret B.exec B.bytes B.returns (fun t ht hW => ⟨⟨r, rfl, rfl, by rw [ht]; exact hP, hD⟩, hS.F ht⟩) hS.2.2 hdg B.notSynchronized
end ZM

