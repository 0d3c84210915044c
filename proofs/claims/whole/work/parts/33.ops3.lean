/-! ===== bits (the first rows are the kit's BITS.to-paste) ===== -/
def bt (x : Int32) (i : Nat) : Bool := x.toBitVec.getLsbD i
theorem b_ext {x y : Int32} (h : ∀ i, i < 32 → bt x i = bt y i) : x = y := Int32.toBitVec_inj.mp (BitVec.eq_of_getLsbD_eq (fun i hi => h i hi))
theorem b_and (x y : Int32) (i : Nat) : bt (x &&& y) i = (bt x i && bt y i) := by unfold bt; rw [Int32.toBitVec_and, BitVec.getLsbD_and]
theorem b_big {x : Int32} {i : Nat} (h : 32 ≤ i) : bt x i = false := BitVec.getLsbD_of_ge _ _ h
theorem b_0 (i : Nat) : bt 0 i = false := BitVec.getLsbD_zero
theorem s_l : ∀ n, n < 32 → ((nI n &&& 31).toBitVec.smod 32).toNat = n := by decide +kernel
theorem s_u : ∀ n, n < 32 → (((nI n).toUInt32 &&& Int32.toUInt32 31).toBitVec % 32).toNat = n := by decide +kernel
theorem b_shl (n : Nat) (hn : n < 32) (x : Int32) {i : Nat} (hi : i < 32) : bt (x <<< (nI n &&& 31)) i = (decide (n ≤ i) && bt x (i - n)) := by
  unfold bt
  rw [Int32.toBitVec_shiftLeft]
  show (x.toBitVec <<< ((nI n &&& 31).toBitVec.smod 32).toNat).getLsbD i = _
  rw [s_l n hn, BitVec.getLsbD_shiftLeft]
  rcases Nat.lt_or_ge i n with h | h
  · simp [h, Nat.not_le.mpr h]
  · simp [hi, h, Nat.not_lt.mpr h]
theorem b_sshr (n : Nat) (hn : n < 32) (x : Int32) {i : Nat} (hi : i < 32) : bt (x >>> (nI n &&& 31)) i = if n + i < 32 then bt x (n + i) else bt x 31 := by
  unfold bt
  rw [Int32.toBitVec_shiftRight]
  show (x.toBitVec.sshiftRight ((nI n &&& 31).toBitVec.smod 32).toNat).getLsbD i = _
  rw [s_l n hn, BitVec.getLsbD_sshiftRight, BitVec.msb_eq_getLsbD_last]
  simp [hi]
theorem bt1 : ∀ j, j < 32 → bt 1 j = decide (j = 0) := by decide +kernel
theorem bitL (d : Int32) {k : Nat} (hk : k < 16) : (d &&& ((1 : Int32) <<< (nI k &&& 31)) = 0) ↔ bt d k = false := by
  constructor
  · intro e
    have h := congrArg (fun x => bt x k) e
    simp only [b_and, b_0, b_shl k (by omega) 1 (show k < 32 by omega), Nat.sub_self, bt1 0 (by decide)] at h
    simpa using h
  · intro e
    refine b_ext (fun i hi => ?_)
    rw [b_and, b_0, b_shl k (by omega) 1 hi]
    by_cases hik : i = k
    · rw [hik, e]; rfl
    · by_cases hle : k ≤ i
      · rw [bt1 (i - k) (by omega)]
        have : ¬ i - k = 0 := by omega
        simp [this]
      · simp [hle]
theorem bitR (d : Int32) {k : Nat} (hk : k < 16) : ((d >>> (nI k &&& 31)) &&& (1 : Int32) = 1) ↔ bt d k = true := by
  constructor
  · intro e
    have h := congrArg (fun x => bt x 0) e
    simp only [b_and, bt1 0 (by decide), b_sshr k (by omega) d (show 0 < 32 by omega)] at h
    simpa [show k < 32 by omega] using h
  · intro e
    refine b_ext (fun i hi => ?_)
    rw [b_and, bt1 i hi, b_sshr k (by omega) d hi]
    by_cases hi0 : i = 0
    · rw [hi0, if_pos (by omega), Nat.add_zero, e]; rfl
    · simp [hi0]
/-! ===== asks ===== -/
theorem within_m1 (T : zS) (x : Int32) : (x = -1 → fX5_within T x (-1) 15 = some (1, T)) ∧ (∀ k : Nat, k < 16 → x = nI k → fX5_within T x (-1) 15 = some (1, T)) ∧ (¬ x = -1 → (x < 0 ∨ (16 : Int32) ≤ x) → fX5_within T x (-1) 15 = some (0, T)) := by
  refine ⟨fun e => by rw [e]; rfl, fun k hk e => ?_, fun hne h => ?_⟩
  · unfold fX5_within
    have hlt : ¬ x < -1 := by
      rw [e, Int32.lt_iff_toInt_lt, nI_toInt (by omega)]
      have : ((-1 : Int32)).toInt = -1 := by decide
      omega
    rw [if_neg hlt, e, if_neg (z_15 hk)]
  · unfold fX5_within
    by_cases h1 : x < -1
    · rw [if_pos h1]
    · rw [if_neg h1]
      rcases h with q | q
      · exfalso
        rw [Int32.lt_iff_toInt_lt] at h1 q
        have e1 : ((-1 : Int32)).toInt = -1 := by decide
        have e0 : ((0 : Int32)).toInt = 0 := by decide
        exact hne (Int32.toInt_inj.mp (by omega))
      · rw [if_pos (ge_gt q)]
theorem sim_asks57 {c k3 : Nat} {S T : zS} (h : Rel 16 c S T) (hk3 : k3 < 16) (x mk x4 : Int32) (hx : (x = -1 ∧ x4 = 1) ∨ (x4 = 0 ∧ ∃ k, k < 16 ∧ x = nI k)) : Sim c (fX4_asks_57 S x mk (nI k3) x4) (if (nI k3) = (T.1 4) then obnd (fX5_asksOwn T x mk) (fun y_5 S_7 => some (y_5, S_7)) else (if (nI k3) = (T.1 5) then (if x = (-1 : Int32) then zlet (zI T 7 ((T.1 7) ||| ((1 : Int32) <<< (nI k3 &&& 31)))) (fun S_5 => zlet (zI S_5 5 (-1 : Int32)) (fun S_6 => some ((2 : Int32), S_6))) else some ((0 : Int32), T)) else some ((0 : Int32), T))) := by
  obtain ⟨v1, v2, v3, v4, v5, v6, -, -, v9⟩ := h.2.1
  unfold fX4_asks_57
  rw [← v1, ← v2]
  by_cases ho : nI k3 = S.1 1
  · rw [if_pos ho, if_pos ho]
    unfold fX4_answerTo fX5_asksOwn fX5_asksOwn_11 fX5_asksOwn_24
    rcases hx with ⟨rfl, rfl⟩ | ⟨rfl, k, hk, rfl⟩
    · simp only [if_true, h.1.1]
      obtain ⟨S1, T1, a1, a2, a3, a4, a5⟩ := h.go 3 (-1) 0 0 (nI c) rfl
      rw [a1, a2]
      exact ⟨1, S1, T1, rfl, rfl, a5⟩
    · simp only [if_neg (z_m1 (show k < 1000000 by omega)), h.1.1]
      obtain ⟨S1, T1, a1, a2, a3, -⟩ := sim_hear h hk mk
      rw [a1, a2]
      simp only [obnv_s, a3.1.1]
      obtain ⟨S2, T2, b1, b2, b3, b4, b5⟩ := a3.go 3 (nI k) mk 0 (nI c) rfl
      rw [b1, b2]
      exact ⟨1, S2, T2, rfl, rfl, b5⟩
  · rw [if_neg ho, if_neg ho]
    by_cases ht : nI k3 = S.1 2
    · rw [if_pos ht, if_pos ht]
      rcases hx with ⟨rfl, rfl⟩ | ⟨rfl, k, hk, rfl⟩
      · simp only [n10, if_false, if_true]
        unfold fX4_trialIsDoubled
        simp only [zlet_s, obnv_s]
        refine ⟨2, _, _, rfl, rfl, h.sc (fun j hj => by simp [zI_1, show ¬ j = 2 by omega, show ¬ j = 4 by omega]) (fun j hj => by simp [zI_1, show ¬ j = 5 by omega, show ¬ j = 7 by omega]) rfl rfl ⟨v1, rfl, v3, ?_, v5, v6, v9⟩⟩
        simp [zI_1, v4, ht]
      · simp only [if_true, if_neg (z_m1 (show k < 1000000 by omega))]
        exact Sim.same h _
    · rw [if_neg ht, if_neg ht]
      exact Sim.same h _
theorem sim_asks {c : Nat} {S T : zS} (h : Rel 16 c S T) (x mk x3 : Int32) : Sim c (fX4_asks S x mk x3) (fX5_asks T x mk x3) := by
  have main : ∀ x4 : Int32, ((x = -1 ∧ x4 = 1) ∨ (x4 = 0 ∧ ∃ k, k < 16 ∧ x = nI k)) → Sim c (fX4_asks_24 S x mk x3 x4) (obnd (fX5_isMark T mk) (fun y_2 S_2 => (if y_2 = 0 then some ((-102 : Int32), S_2) else obnd (fX5_isAddress S_2 x3) (fun y_3 S_3 => (if y_3 = 0 then some ((-102 : Int32), S_3) else obnd (fX5_isOurs S_3 x) (fun y_4 S_4 => (if y_4 = 0 then (if x3 = (S_4.1 4) then obnd (fX5_asksOwn S_4 x mk) (fun y_5 S_7 => some (y_5, S_7)) else (if x3 = (S_4.1 5) then (if x = (-1 : Int32) then zlet (zI S_4 7 ((S_4.1 7) ||| ((1 : Int32) <<< (x3 &&& 31)))) (fun S_5 => zlet (zI S_5 5 (-1 : Int32)) (fun S_6 => some ((2 : Int32), S_6))) else some ((0 : Int32), S_4)) else some ((0 : Int32), S_4))) else some ((-103 : Int32), S_4)))))))) := by
    intro x4 hx
    unfold fX4_asks_24
    obtain ⟨b, e3, e4, e5⟩ := K_mark S T mk
    rw [e3, e4]
    simp only [obnd_s]
    rcases e5 with rfl | rfl
    · simp only [if_true]; exact Sim.same h _
    · simp only [n10, if_false]
      rcases addr_cases x3 with h3 | ⟨k3, hk3, rfl⟩
      · obtain ⟨e1, e2⟩ := A_bad S T h3
        rw [e1, e2]
        simp only [obnd_s, if_true]
        exact Sim.same h _
      · obtain ⟨e1, e2⟩ := A_ok S T hk3
        rw [e1, e2]
        simp only [obnd_s, n10, if_false]
        have hx' := hx
        rcases hx with ⟨rfl, rfl⟩ | ⟨rfl, k, hk, rfl⟩
        · have e6 : fX5_isOurs T (-1) = some (0, T) := rfl
          rw [e6]
          simp only [obnd_s, n10, if_false, if_true]
          exact sim_asks57 h hk3 (-1) mk 1 hx'
        · obtain ⟨b, e6, e7, e8⟩ := sim_ours h hk
          rw [e6, e7]
          simp only [obnd_s, if_true]
          rcases e8 with rfl | rfl
          · simp only [if_true]
            exact sim_asks57 h hk3 (nI k) mk 0 hx'
          · simp only [n10, if_false]
            exact Sim.same h _
  unfold fX4_asks fX5_asks fX4_asks_10
  obtain ⟨w1, w2, w3⟩ := within_m1 T x
  by_cases hx : x = -1
  · rw [if_pos hx, w1 hx]
    simp only [zlet_s, obnd_s, n10, if_false]
    exact main 1 (Or.inl ⟨hx, rfl⟩)
  · rw [if_neg hx]
    simp only [zlet_s, if_true]
    rcases addr_cases x with hb | ⟨k, hk, e⟩
    · obtain ⟨e1, e2⟩ := A_bad S T hb
      rw [e1, w3 hx hb]
      simp only [obnd_s, if_true]
      exact Sim.same h _
    · have e1 : fX4_isAddress S x = some (1, S) := by rw [e]; exact (A_ok S T hk).1
      rw [e1, w2 k hk e]
      simp only [obnd_s, n10, if_false]
      exact main 0 (Or.inr ⟨rfl, k, hk, e⟩)
/-! ===== told ===== -/
theorem rank_of {x : Int32} (h1 : ¬ x < -1) (h2 : x ≤ 1) : x = -1 ∨ x = 0 ∨ x = 1 := by
  rw [Int32.lt_iff_toInt_lt] at h1
  rw [Int32.le_iff_toInt_le] at h2
  have e1 : ((-1 : Int32)).toInt = -1 := by decide
  have e0 : ((0 : Int32)).toInt = 0 := by decide
  have e2 : ((1 : Int32)).toInt = 1 := by decide
  have : x.toInt = -1 ∨ x.toInt = 0 ∨ x.toInt = 1 := by omega
  rcases this with q | q | q
  · exact Or.inl (Int32.toInt_inj.mp (by omega))
  · exact Or.inr (Or.inl (Int32.toInt_inj.mp (by omega)))
  · exact Or.inr (Or.inr (Int32.toInt_inj.mp (by omega)))
theorem M_told113 (T : zS) {k : Nat} (hk : k < 16) (li ra : Int32) (t2 : Int32) (ht : t2 = 0 ∨ t2 = 1) : fX5_told_113 T (nI k) li ra (nI k) t2 = some (nI (zcn (pRo (zR (zR (zR T 8 k t2) 9 k ra) 10 k (T.1 0 + li))) 16), zR (zR (zR T 8 k t2) 9 k ra) 10 k (T.1 0 + li)) := by
  unfold fX5_told_113
  have e : vp_nar .boolean t2 = t2 := by rcases ht with rfl | rfl <;> rfl
  simp only [z_in16 hk, z_cl (show k < 1000 by omega), zlet_s, e, zR_1, M_routers, obnd_s]
theorem Rel.cntR {q c : Nat} {S T : zS} (h : Rel q c S T) : S.1 15 = nI (zcn (pRo T) 16) := by
  obtain ⟨n, ad, hr⟩ := h.2.2.2.2.2.2.1
  have hr : rRn n ad S T := hr
  rw [hr.2.1, hr.cnt]
theorem sim_told72 {c k : Nat} {S T : zS} (h : Rel 16 c S T) (hk : k < 16) (mk li ra : Int32) (hra : ra = -1 ∨ ra = 0 ∨ ra = 1) (hroom : li ≤ 0 ∨ S.1 15 < 4 ∨ T.2.1 8 k = 1) : Sim c (fX4_told_72 S (nI k) mk li ra) (fX5_told_73 T (nI k) mk li ra) := by
  unfold fX4_told_72 fX5_told_73
  rw [h.1.1]
  obtain ⟨S1, T1, a1, a2, a3, f1, f2⟩ := sim_hear h hk mk
  rw [a1, a2]
  simp only [obnv_s]
  obtain ⟨v1, v2, v3, v4, v5, v6, -, -, v9⟩ := a3.2.1
  rw [← v6]
  unfold fX5_told_91 fX5_told_96 fX4_told_121 fX3_howMany
  simp only [zbl_0, zbl_1, zlet_s, obnd_s]
  by_cases hl : li ≤ 0
  · simp only [if_pos hl]
    have key : ∀ t : Int32, (S1.1 6 = t) → Sim c (obnv (fX3_remove S1 (nI k)) (fun S_2 => some (S_2.1 15, S_2))) (fX5_told_113 (zI T1 1 t) (nI k) li ra (nI k) 0) := by
      intro t ht
      have hR1 : Rel 16 c S1 (zI T1 1 t) := a3.sc (fun j hj => rfl) (fun j hj => by simp [zI_1, show ¬ j = 1 by omega]) rfl rfl ⟨v1, v2, v3, v4, v5, ht, v9⟩
      rw [M_told113 _ hk li ra 0 (Or.inl rfl)]
      obtain ⟨S2, b1, b2, b3⟩ := sim_rrem (T' := zR (zR (zR (zI T1 1 t) 8 k 0) 9 k ra) 10 k ((zI T1 1 t).1 0 + li)) hR1.2.2.2.2.2.2.1 hk (fun j hj => by simp [zR_2, upd]) (fun j hj => by simp [zR_2, ud_n hj]) (fun j hj => by simp [zR_2, ud_n hj])
      rw [b1]
      simp only [obnv_s]
      have hR2 := hR1.rout b2 (T' := zR (zR (zR (zI T1 1 t) 8 k 0) 9 k ra) 10 k ((zI T1 1 t).1 0 + li)) ⟨fun _ => rfl, fun j x1 x2 x3 => by simp [zR_2, x1, x2, x3]⟩ b3
      rw [hR2.cntR]
      exact ⟨_, _, _, rfl, rfl, hR2⟩
    rcases v9 with e | e
    · rw [if_pos e]; exact key 0 e
    · rw [if_neg (by rw [e]; decide)]; exact key 1 e
  · simp only [if_neg hl]
    have e1 : (if S1.1 6 = 0 then fX5_told_113 (zI T1 1 1) (nI k) li ra (nI k) 1 else fX5_told_113 (zI T1 1 1) (nI k) li ra (nI k) 1) = fX5_told_113 (zI T1 1 1) (nI k) li ra (nI k) 1 := by split <;> rfl
    rw [e1, M_told113 _ hk li ra 1 (Or.inr rfl)]
    have hrm : S1.1 15 < 4 ∨ T1.2.1 8 k = 1 := by rw [f1, f2]; exact hroom.resolve_left hl
    obtain ⟨S2, b1, b2, b3⟩ := sim_rput a3.2.2.2.2.2.2.1 hk (rk := ra) (en := S1.1 0 + li) hra hrm
    rw [b1]
    simp only [obnv_s]
    have hR2 := a3.rout b2 (T' := zR (zR (zR T1 8 k 1) 9 k ra) 10 k (S1.1 0 + li)) ⟨fun _ => rfl, fun j x1 x2 x3 => by simp [zR_2, x1, x2, x3]⟩ b3
    obtain ⟨w1, w2, w3, w4, w5, w6, -, -, w9⟩ := hR2.2.1
    have hR3 : Rel 16 c (zI S2 6 1) (zR (zR (zR (zI T1 1 1) 8 k 1) 9 k ra) 10 k ((zI T1 1 1).1 0 + li)) := by
      have e0 : (zI T1 1 1).1 0 = S1.1 0 := by rw [a3.1.1]; exact a3.1.2
      rw [e0]
      exact hR2.sc (fun j hj => by simp [zI_1, show ¬ j = 6 by omega]) (fun j hj => by simp [zI_1, zR_1, show ¬ j = 1 by omega]) rfl rfl ⟨w1, w2, w3, w4, w5, rfl, Or.inr rfl⟩
    rw [← hR3.cntR]
    exact ⟨_, _, _, rfl, rfl, hR3⟩
theorem X_rhas {q c k : Nat} {S T : zS} (h : Rel q c S T) (hk : k < 16) : fX3_has S (nI k) = some (T.2.1 8 k, S) := by
  obtain ⟨n, ad, hr⟩ := h.2.2.2.2.2.2.1
  have hr : rRn n ad S T := hr
  have hn := hr.1
  obtain ⟨v, e1, e2⟩ := X_slot hr hk
  unfold fX3_has
  rw [e1]
  simp only [obnd_s]
  rcases e2 with ⟨rfl, e⟩ | ⟨i, hi, rfl, e, e8⟩
  · rw [if_pos rfl, e]
  · rw [if_neg (z_m1 (by omega)), e8]
theorem sim_told {c : Nat} {S T : zS} (h : Rel 16 c S T) (x mk li ra : Int32) : Sim c (fX4_told S x mk li ra) (fX5_told T x mk li ra) := by
  unfold fX4_told fX5_told
  rcases addr_cases x with hx | ⟨k, hk, rfl⟩
  · obtain ⟨e1, e2⟩ := A_bad S T hx
    rw [e1, e2]
    simp only [obnd_s, if_true]
    exact Sim.same h _
  · obtain ⟨e1, e2⟩ := A_ok S T hk
    rw [e1, e2]
    simp only [obnd_s, n10, if_false]
    obtain ⟨b, e3, e4, e5⟩ := K_mark S T mk
    rw [e3, e4]
    simp only [obnd_s]
    rcases e5 with rfl | rfl
    · simp only [if_true]; exact Sim.same h _
    · simp only [n10, if_false]
      unfold fX5_within
      by_cases l1 : li < 0
      · simp only [if_pos l1, obnd_s, if_true]; exact Sim.same h _
      · by_cases l2 : (200 : Int32) < li
        · simp only [if_neg l1, if_pos l2, obnd_s, if_true]; exact Sim.same h _
        · simp only [if_neg l1, if_neg l2, obnd_s, n10, if_false]
          by_cases r1 : ra < -1
          · simp only [if_pos r1, obnd_s, if_true]; exact Sim.same h _
          · by_cases r2 : ra ≤ 1
            · have r3 : ¬ (1 : Int32) < ra := Int32.not_lt.mpr r2
              simp only [if_neg r1, if_pos r2, if_neg r3, obnd_s, n10, if_false]
              obtain ⟨b, e6, e7, e8⟩ := sim_ours h hk
              rw [e6, e7]
              simp only [obnd_s]
              rcases e8 with rfl | rfl
              · simp only [if_true, z_in16 hk, z_cl (show k < 1000 by omega)]
                have hra := rank_of r1 r2
                by_cases l0 : li ≤ 0
                · simp only [if_pos l0]
                  have eM : (if T.2.1 8 k = 0 then fX5_told_73 T (nI k) mk li ra else fX5_told_73 T (nI k) mk li ra) = fX5_told_73 T (nI k) mk li ra := by split <;> rfl
                  rw [eM]
                  exact sim_told72 h hk mk li ra hra (Or.inl l0)
                · simp only [if_neg l0, M_routers, obnd_s]
                  unfold fX3_hasRoomFor fX3_hasRoomFor_16
                  rw [X_rhas h hk, h.cntR]
                  obtain ⟨n, ad, hr⟩ := h.2.2.2.2.2.2.1
                  have hr : rRn n ad S T := hr
                  have hn := hr.1
                  have hcnt := hr.cnt
                  have hz := (hr.2.2.2.2 k hk).1
                  rw [hcnt]
                  simp only [obnd_s]
                  by_cases h4 : n < 4
                  · have hlt : nI n < 4 := nI_lt (b := 4) h4 (by decide)
                    have hne : ¬ nI n = 4 := fun e => absurd ((z_eq (a := n) (b := 4) (by omega) (by omega)).mp e) (by omega)
                    rw [if_pos hlt, if_neg hne]
                    simp only [obnd_s, n10, if_false]
                    have eM : (if T.2.1 8 k = 0 then fX5_told_73 T (nI k) mk li ra else fX5_told_73 T (nI k) mk li ra) = fX5_told_73 T (nI k) mk li ra := by split <;> rfl
                    rw [eM]
                    exact sim_told72 h hk mk li ra hra (Or.inr (Or.inl (by rw [hr.2.1]; exact hlt)))
                  · have e4 : n = 4 := by omega
                    have hlt : ¬ nI n < 4 := by rw [e4]; decide
                    have heq : nI n = 4 := by rw [e4]; rfl
                    rw [if_neg hlt, if_pos heq]
                    rcases hz with e | e
                    · rw [if_pos e, if_pos e]
                      simp only [obnd_s, if_true]
                      exact Sim.same h _
                    · have hne : ¬ T.2.1 8 k = 0 := by rw [e]; decide
                      rw [if_neg hne, if_neg hne]
                      simp only [obnd_s, n10, if_false]
                      exact sim_told72 h hk mk li ra hra (Or.inr (Or.inr e))
              · simp only [n10, if_false]
                exact Sim.same h _
            · have r3 : (1 : Int32) < ra := Int32.not_le.mp r2
              simp only [if_neg r1, if_neg r2, if_pos r3, obnd_s, if_true]; exact Sim.same h _
