/-! ===== what is told ===== -/
theorem W_out (T : zS) {x a : Int32} {n : Nat} (hn : n < 1000) (ha : a.toInt = (n : Int) - 1) (h : x < 0 ∨ nI n ≤ x) : fX5_within T x 0 a = some (0, T) := by
  unfold fX5_within
  by_cases h0 : x < 0
  · rw [if_pos h0]
  · rw [if_neg h0, if_pos]
    have h1 := h.resolve_left h0
    rw [Int32.le_iff_toInt_le, nI_toInt (by omega)] at h1
    rw [Int32.lt_iff_toInt_lt]
    omega
theorem W_ok (T : zS) {a : Int32} {n k : Nat} (hn : n < 1000) (hk : k < n) (ha : a.toInt = (n : Int) - 1) : fX5_within T (nI k) 0 a = some (1, T) := by
  unfold fX5_within
  rw [if_neg (z_neg (by omega)), if_neg]
  rw [Int32.lt_iff_toInt_lt, nI_toInt (by omega)]
  omega
theorem n1_int {n : Nat} (hn : n < 1000) : (nI n - 1).toInt = (n : Int) - 1 := pk_sub_toInt (a := n) (b := 1) (by omega) (by omega)
theorem ix (x : Int32) {n : Nat} (hn : n < 1000) : (x < 0 ∨ nI n ≤ x) ∨ ∃ j : Nat, j < n ∧ x = nI j := by
  rcases pk_ix x (n := n) (by omega) with h | h | h
  · exact Or.inl (Or.inl h)
  · exact Or.inl (Or.inr h)
  · exact Or.inr h
theorem ix_ne {x : Int32} {n j : Nat} (hn : n < 1000) (hj : j < n) (h : x < 0 ∨ nI n ≤ x) : ¬ x = nI j := fun e => by
  rw [e] at h
  rcases h with h | h
  · exact z_neg (by omega) h
  · exact absurd ((z_le (by omega) (by omega)).mp h) (by omega)
theorem ixv {x v : Int32} {n j : Nat} (hn : n < 1000) (hj : j < n) (hv : nI j = v) (h : x < 0 ∨ nI n ≤ x) : ¬ x = v := fun e => ix_ne hn hj h (e.trans hv.symm)
theorem Q_gone {c k : Nat} {S T : zS} (h : Rel 16 c S T) (hk : k < 16) (hp : T.2.1 0 k = 1) : ∃ r, fX0_goneAt S (nI k) = some (r, S) ∧ fX5_goneAt T (nI k) = some (r, T) := by
  obtain ⟨p1, p2⟩ := h.at hk hp
  obtain ⟨d1, d2, d3, d4, d5, d6⟩ := h.2.2.1
  unfold fX0_goneAt fX5_goneAt
  simp only [z_in16 hk, z_cl (show k < 1000 by omega), zlet_s, ← p1, ← d2, ← d3]
  by_cases h0 : S.2.1 3 k = 0
  · rw [if_pos h0, if_pos h0]; exact ⟨_, rfl, by rw [Int32.mul_comm]⟩
  · rw [if_neg h0, if_neg h0]
    by_cases h1 : S.2.1 3 k = 1
    · rw [if_pos h1, if_pos h1]; exact ⟨_, rfl, rfl⟩
    · rw [if_neg h1, if_neg h1]
      by_cases h2 : S.2.1 3 k = 2
      · rw [if_pos h2, if_pos h2]; exact ⟨_, rfl, rfl⟩
      · rw [if_neg h2, if_neg h2]
        by_cases h3 : S.2.1 3 k = 3
        · rw [if_pos h3, if_pos h3]
          have ht : S.2.1 6 k = 0 := by
            unfold rSt at p2
            rcases p2 with e | e | e | e | e
            · exact absurd e.1 h0
            · exact absurd e.1 h1
            · exact absurd e.1 h2
            · exact e.2.1
            · rw [h3] at e; exact absurd e.1 (by decide)
          rw [ht]; exact ⟨_, rfl, rfl⟩
        · rw [if_neg h3, if_neg h3]
          by_cases h4 : S.2.1 3 k = 4
          · rw [if_pos h4, if_pos h4]; exact ⟨_, rfl, by rw [Int32.mul_comm]⟩
          · rw [if_neg h4, if_neg h4]; exact ⟨_, rfl, rfl⟩
theorem Q_entry {c k w : Nat} {S T : zS} (h : Rel 16 c S T) (hk : k < 16) (hp : T.2.1 0 k = 1) (hw : w < 8) : ∃ r, fX4_entry S (nI k) (nI w) = some (r, S) ∧ fX5_entryNow T (nI k) (nI w) = some (r, T) := by
  obtain ⟨p1, p2⟩ := h.at hk hp
  obtain ⟨d1, d2, d3, d4, d5, d6⟩ := h.2.2.1
  obtain ⟨r, g1, g2⟩ := Q_gone h hk hp
  have hmk : S.2.1 3 k = 0 → S.2.1 4 k = 0 := fun e => by
    unfold rSt at p2
    rcases p2 with q | q | q | q | q
    · exact q.2.1.resolve_left (by omega)
    · rw [e] at q; exact absurd q.1 (by decide)
    · rw [e] at q; exact absurd q.1 (by decide)
    · rw [e] at q; exact absurd q.1 (by decide)
    · rw [e] at q; exact absurd q.1 (by decide)
  obtain ⟨n, ad, hr⟩ := h.2.2.2.2.2.2.1
  have hz := (hr.2.2.2.2 k hk).1
  unfold fX4_entry fX5_entryNow fX0_tell
  rw [X_has1 h hk hp]
  simp only [obnd_s, n10, if_false, z_in16 hk, z_cl (show k < 1000 by omega), X_rhas h hk, g1, g2, ← p1, ← d1, ← d2, ← d3, ← d4, ← d5]
  have : w = 0 ∨ w = 1 ∨ w = 2 ∨ w = 3 ∨ w = 4 ∨ w = 5 ∨ w = 6 ∨ w = 7 := by omega
  rcases this with rfl | rfl | rfl | rfl | rfl | rfl | rfl | rfl
  · exact ⟨_, rfl, rfl⟩
  · refine ⟨S.2.1 4 k, rfl, ?_⟩
    show (if S.2.1 3 k = 0 then some ((0 : Int32), T) else some (S.2.1 4 k, T)) = _
    by_cases h0 : S.2.1 3 k = 0
    · rw [if_pos h0, hmk h0]
    · rw [if_neg h0]
  · exact ⟨_, rfl, rfl⟩
  · exact ⟨_, rfl, rfl⟩
  · exact ⟨_, rfl, rfl⟩
  · show ∃ r, (if T.2.1 8 k = 0 then some ((0 : Int32), S) else some ((1 : Int32), S)) = some (r, S) ∧ (if T.2.1 8 k = 0 then some ((0 : Int32), T) else some ((1 : Int32), T)) = some (r, T)
    by_cases h0 : T.2.1 8 k = 0
    · rw [if_pos h0, if_pos h0]; exact ⟨_, rfl, rfl⟩
    · rw [if_neg h0, if_neg h0]; exact ⟨_, rfl, rfl⟩
  · exact ⟨_, rfl, rfl⟩
  · exact ⟨r, rfl, rfl⟩
theorem sim_isE {q c k : Nat} {S T : zS} (h : Rel q c S T) (hk : k < 16) : fX5_isEntry T (nI k) = some (T.2.1 0 k, T) := by
  unfold fX5_isEntry
  rw [(A_ok S T hk).2]
  simp only [obnd_s, n10, if_false, z_in16 hk, z_cl (show k < 1000 by omega)]
  rcases h.there hk with ⟨p0, -⟩ | ⟨p0, -⟩
  · rw [p0, if_pos rfl]
  · rw [p0, if_neg n10]
theorem X_has_bad (S : zS) {x : Int32} (h : x < 0 ∨ (16 : Int32) ≤ x) : fX0_has S x = some (0, S) := by
  unfold fX0_has
  by_cases h0 : x < 0
  · rw [if_pos h0]
  · rw [if_neg h0, if_pos (h.resolve_left h0)]
theorem M_isE_bad (S T : zS) {x : Int32} (h : x < 0 ∨ (16 : Int32) ≤ x) : fX5_isEntry T x = some (0, T) := by
  unfold fX5_isEntry
  rw [(A_bad S T h).2]
  simp only [obnd_s, if_true]
theorem sim_entry {c : Nat} {S T : zS} (h : Rel 16 c S T) (x y : Int32) : Sim c (fX4_entry S x y) (fX5_entry T x y) := by
  rcases addr_cases x with hx | ⟨k, hk, rfl⟩
  · unfold fX4_entry fX5_entry
    rw [X_has_bad S hx, M_isE_bad S T hx]
    simp only [obnd_s, if_true]
    exact Sim.same h _
  · rcases h.there hk with ⟨p0, -⟩ | ⟨p0, -⟩
    · unfold fX4_entry fX5_entry
      rw [X_has0 h hk p0, sim_isE h hk, p0]
      simp only [obnd_s, if_true]
      exact Sim.same h _
    · rcases ix y (n := 8) (by omega) with hy | ⟨w, hw, rfl⟩
      · unfold fX4_entry fX5_entry fX0_tell
        rw [X_has1 h hk p0, sim_isE h hk, p0]
        simp only [obnd_s, n10, if_false, W_out T (n := 8) (a := 7) (by omega) (by decide) hy, if_true]
        rw [if_neg (ixv (v := 5) (j := 5) (by omega) (by omega) rfl hy), if_neg (ixv (v := 0) (j := 0) (by omega) (by omega) rfl hy), if_neg (ixv (v := 1) (j := 1) (by omega) (by omega) rfl hy), if_neg (ixv (v := 2) (j := 2) (by omega) (by omega) rfl hy), if_neg (ixv (v := 3) (j := 3) (by omega) (by omega) rfl hy), if_neg (ixv (v := 4) (j := 4) (by omega) (by omega) rfl hy), if_neg (ixv (v := 5) (j := 5) (by omega) (by omega) rfl hy), if_neg (ixv (v := 6) (j := 6) (by omega) (by omega) rfl hy), if_neg (ixv (v := 7) (j := 7) (by omega) (by omega) rfl hy)]
        exact Sim.same h _
      · obtain ⟨r, e1, e2⟩ := Q_entry h hk p0 hw
        rw [e1]
        unfold fX5_entry
        rw [sim_isE h hk, p0]
        simp only [obnd_s, n10, if_false, W_ok T (n := 8) (a := 7) (by omega) hw (by decide), e2]
        exact Sim.same h _
theorem X_wait1 {q c k : Nat} {S T : zS} (h : Rel q c S T) (hk : k < 16) (hp : T.2.1 0 k = 1) : fX0_waitingAt S (nI k) = some (S.2.1 8 k, S) := by
  unfold fX0_waitingAt
  rw [X_has1 h hk hp]
  simp only [obnd_s, n10, if_false, z_in16 hk, z_cl (show k < 1000 by omega)]
theorem X_wait0 {q c k : Nat} {S T : zS} (h : Rel q c S T) (hk : k < 16) (hp : T.2.1 0 k = 0) : fX0_waitingAt S (nI k) = some (0, S) := by
  unfold fX0_waitingAt
  rw [X_has0 h hk hp]
  simp only [obnd_s, if_true]
theorem Q_held {c k w i : Nat} {S T : zS} (h : Rel 16 c S T) (hk : k < 16) (hp : T.2.1 0 k = 1) (hw : S.2.1 8 k = nI w) (hw3 : w ≤ 3) (hi : i < w) : fX4_held S (nI k) (nI i) = some (S.2.1 9 (3 * k + i), S) := by
  unfold fX4_held fX0_letterAt
  rw [X_wait1 h hk hp, hw, if_neg (z_neg (by omega))]
  simp only [obnd_s]
  rw [if_pos ((z_lt (by omega) (by omega)).mpr hi)]
  simp only [z_m3, z_p, show k * 3 + i = 3 * k + i by omega, z_in48 (show 3 * k + i < 48 by omega), z_cl (show 3 * k + i < 1000 by omega), obnd_s]
theorem sim_heldP {c : Nat} {S T : zS} (h : Rel 16 c S T) (x y : Int32) : Sim c (fX4_held S x y) (fX5_held T x y) := by
  have neg : ∀ (S1 : zS), y < 0 → fX4_held S1 x y = some (-101, S1) := fun S1 hy => by
    unfold fX4_held fX0_letterAt
    rw [if_pos hy]; rfl
  rcases addr_cases x with hx | ⟨k, hk, rfl⟩
  · have eM : fX5_held T x y = some (-101, T) := by
      unfold fX5_held
      rw [M_isE_bad S T hx]; rfl
    have eX : fX4_held S x y = some (-101, S) := by
      by_cases hy : y < 0
      · exact neg S hy
      · unfold fX4_held fX0_letterAt fX0_waitingAt
        rw [if_neg hy, X_has_bad S hx]
        simp only [obnd_s, if_true]
        rw [if_neg hy]; rfl
    rw [eX, eM]; exact Sim.same h _
  · rcases h.there hk with ⟨p0, -⟩ | ⟨p0, -⟩
    · have eM : fX5_held T (nI k) y = some (-101, T) := by
        unfold fX5_held
        rw [sim_isE h hk, p0]; rfl
      have eX : fX4_held S (nI k) y = some (-101, S) := by
        by_cases hy : y < 0
        · exact neg S hy
        · unfold fX4_held fX0_letterAt
          rw [if_neg hy, X_wait0 h hk p0]
          simp only [obnd_s]
          rw [if_neg hy]; rfl
      rw [eX, eM]; exact Sim.same h _
    · obtain ⟨w, hw, e⟩ := w_nI (h.w03 hk)
      have eT : T.2.1 6 k = nI w := by rw [← h.2.2.1.2.2.2.2.1]; exact e
      have eM0 : fX5_held T (nI k) y = obnd (fX5_within T y 0 (nI w - 1)) (fun y_2 S_2 => (if y_2 = 0 then some ((-101 : Int32), S_2) else zin (((3 : Int32) * nI k) + y) 48 (some ((S_2.2.1 7 ((((3 : Int32) * nI k) + y)).toNatClampNeg), S_2)))) := by
        unfold fX5_held
        rw [sim_isE h hk, p0]
        simp only [obnd_s, n10, if_false, z_in16 hk, z_cl (show k < 1000 by omega), eT]
      rcases ix y (n := w) (by omega) with hy | ⟨i, hi, rfl⟩
      · have eM : fX5_held T (nI k) y = some (-101, T) := by
          rw [eM0, W_out T (by omega) (n1_int (by omega)) hy]; rfl
        have eX : fX4_held S (nI k) y = some (-101, S) := by
          by_cases h0 : y < 0
          · exact neg S h0
          · unfold fX4_held fX0_letterAt
            rw [if_neg h0, X_wait1 h hk p0, e]
            simp only [obnd_s]
            rw [if_neg (Int32.not_lt.mpr (hy.resolve_left h0))]; rfl
        rw [eX, eM]; exact Sim.same h _
      · rw [Q_held h hk p0 e hw hi, eM0, W_ok T (by omega) hi (n1_int (by omega))]
        simp only [obnd_s, n10, if_false, z_m3', z_p, z_in48 (show 3 * k + i < 48 by omega), z_cl (show 3 * k + i < 1000 by omega), ← h.2.2.1.2.2.2.2.2]
        exact Sim.same h _
theorem Q_router {c n p w : Nat} {ad : Nat → Nat} {S T : zS} (h : Rel 16 c S T) (hr : rRn n ad S T) (hp : p < n) (hw : w < 4) : ∃ a r, fX4_router S (nI p) (nI w) = some (r, S) ∧ fX5_routerAt T (nI p) = some (a, T) ∧ fX5_routerNow T a (nI w) = some (r, T) := by
  have hn := hr.1
  obtain ⟨i, hi, e1, e2⟩ := sim_at h hr hp
  obtain ⟨g1, g2, g3, g4, g5⟩ := hr.2.2.1 i hi
  refine ⟨nI (ad i), ?_⟩
  unfold fX4_router fX5_routerNow fX3_tell
  rw [e1, e2]
  simp only [obnd_s, zlet_s, if_neg (z_m1 (show i < 1000000 by omega)), X_isGood h hr hi, M_isGood T g1, z_in4 (show i < 4 by omega), z_cl (show i < 1000 by omega), z_in16 g1, z_cl (show ad i < 1000 by omega), g2, g3, g4]
  have : w = 0 ∨ w = 1 ∨ w = 2 ∨ w = 3 := by omega
  rcases this with rfl | rfl | rfl | rfl
  · exact ⟨_, rfl, trivial, rfl⟩
  · exact ⟨_, rfl, trivial, rfl⟩
  · exact ⟨_, rfl, trivial, rfl⟩
  · show ∃ r, (if (if gd T (ad i) = true then (1 : Int32) else 0) = 0 then some ((0 : Int32), S) else some ((1 : Int32), S)) = some (r, S) ∧ _ ∧ (if (if gd T (ad i) = true then (1 : Int32) else 0) = 0 then some ((0 : Int32), T) else some ((1 : Int32), T)) = some (r, T)
    cases gd T (ad i)
    · exact ⟨0, rfl, trivial, rfl⟩
    · exact ⟨1, rfl, trivial, rfl⟩
theorem sim_routerP {c : Nat} {S T : zS} (h : Rel 16 c S T) (x y : Int32) : Sim c (fX4_router S x y) (fX5_router T x y) := by
  obtain ⟨n, ad, hr⟩ := h.2.2.2.2.2.2.1
  have hr : rRn n ad S T := hr
  have hn := hr.1
  have eM0 : fX5_router T x y = obnd (fX5_within T x 0 (nI n - 1)) (fun y_2 S_2 => (if y_2 = 0 then some ((-101 : Int32), S_2) else obnd (fX5_within S_2 y 0 3) (fun y_3 S_3 => (if y_3 = 0 then some ((-102 : Int32), S_3) else obnd (fX5_routerAt S_3 x) (fun y_4 S_4 => obnd (fX5_routerNow S_4 y_4 y) (fun y_5 S_5 => some (y_5, S_5))))))) := by
    unfold fX5_router
    rw [M_routers, hr.cnt]
    simp only [obnd_s]
  rw [eM0]
  rcases ix x (n := n) (by omega) with hx | ⟨p, hp, rfl⟩
  · rw [W_out T (by omega) (n1_int (by omega)) hx]
    simp only [obnd_s, if_true]
    obtain ⟨v, e1, e2⟩ := X_order h hr x
    have hv : v = -1 := by
      rcases e2 with q | ⟨j, hj, -, q⟩
      · exact q.1
      · have := plc_lt (T := T) (ad := ad) hj
        exact absurd q.symm (ix_ne (by omega) this hx)
    unfold fX4_router
    rw [e1, hv]
    simp only [obnd_s, zlet_s, if_true]
    exact Sim.same h _
  · rw [W_ok T (by omega) hp (n1_int (by omega))]
    simp only [obnd_s, n10, if_false]
    rcases ix y (n := 4) (by omega) with hy | ⟨w, hw, rfl⟩
    · rw [W_out T (n := 4) (a := 3) (by omega) (by decide) hy]
      simp only [obnd_s, if_true]
      obtain ⟨i, hi, e1, e2⟩ := sim_at h hr hp
      unfold fX4_router fX3_tell
      rw [e1]
      simp only [obnd_s, zlet_s]
      rw [if_neg (z_m1 (by omega)), if_neg (ixv (v := 3) (j := 3) (by omega) (by omega) rfl hy), if_neg (ixv (v := 0) (j := 0) (by omega) (by omega) rfl hy), if_neg (ixv (v := 1) (j := 1) (by omega) (by omega) rfl hy), if_neg (ixv (v := 2) (j := 2) (by omega) (by omega) rfl hy)]
      exact Sim.same h _
    · rw [W_ok T (n := 4) (a := 3) (by omega) hw (by decide)]
      simp only [obnd_s, n10, if_false]
      obtain ⟨a, r, e1, e2, e3⟩ := Q_router h hr hp hw
      rw [e1, e2]
      simp only [obnd_s, e3]
      exact Sim.same h _
theorem Q_out {n q i w : Nat} {S T : zS} (hn : n ≤ 10) (hq : q < 10) (h1 : S.1 8 = nI n) (h3 : S.1 7 = nI q) (h6 : ∀ i, i < n → ∀ w, w < 5 → S.2.1 0 ((q + 10 - i) % 10 * 5 + w) = T.2.1 13 (5 * i + w)) (hi : i < n) (hw : w < 5) : fX4_out S (nI i) (nI w) = some (T.2.1 13 (5 * i + w), S) := by
  unfold fX4_out fX2_tell fX2_tell_41
  rw [h1, h3, if_neg (z_neg (by omega)), if_pos ((z_lt (by omega) (by omega)).mpr hi), if_neg (z_neg (by omega)), if_pos (show nI w < 5 from nI_lt (b := 5) hw (by decide))]
  simp only [zlet_s]
  rw [← h6 i hi w hw]
  by_cases hle : i ≤ q
  · have e : nI q - nI i = nI (q - i) := pk_sub hle
    rw [e, if_pos (z_pos (by omega))]
    have e2 : (q + 10 - i) % 10 = q - i := by omega
    simp only [z_m5, z_p, z_in50 (show (q - i) * 5 + w < 50 by omega), z_cl (show (q - i) * 5 + w < 1000 by omega), e2, obnd_s]
  · have hneg : ¬ (0 : Int32) ≤ nI q - nI i := Int32.not_le.mpr (pk_sneg (by omega) (by omega))
    have e : nI q - nI i + 10 = nI (q + 10 - i) := by
      have : nI (q + 10 - i) - 10 = nI q - nI i := by
        rw [show (10 : Int32) = nI 10 from rfl, i_sub, show nI 10 + (nI q - nI i) = (nI 10 + nI q) - nI i by rw [Int32.sub_eq_add_neg, Int32.sub_eq_add_neg, Int32.add_assoc], z_p, pk_sub (by omega)]
        congr 1; omega
      rw [← this, Int32.sub_add_cancel]
    rw [if_neg hneg, e]
    have e2 : (q + 10 - i) % 10 = q + 10 - i := by omega
    simp only [z_m5, z_p, z_in50 (show (q + 10 - i) * 5 + w < 50 by omega), z_cl (show (q + 10 - i) * 5 + w < 1000 by omega), e2, obnd_s]
theorem sim_outP {c : Nat} {S T : zS} (h : Rel 16 c S T) (x y : Int32) : Sim c (fX4_out S x y) (fX5_out T x y) := by
  obtain ⟨n, q, hn, hq, h1, h2, h3, h4, h5, h6⟩ := h.2.2.2.2.2.2.2
  have eM0 : fX5_out T x y = obnd (fX5_within T x 0 (nI n - 1)) (fun y_1 S_1 => (if y_1 = 0 then some ((-101 : Int32), S_1) else obnd (fX5_within S_1 y 0 4) (fun y_2 S_2 => (if y_2 = 0 then some ((-102 : Int32), S_2) else zin (((5 : Int32) * x) + y) 50 (some ((S_2.2.1 13 ((((5 : Int32) * x) + y)).toNatClampNeg), S_2)))))) := by
    unfold fX5_out
    rw [h2]
  rw [eM0]
  rcases ix x (n := n) (by omega) with hx | ⟨i, hi, rfl⟩
  · rw [W_out T (by omega) (n1_int (by omega)) hx]
    simp only [obnd_s, if_true]
    have eX : fX4_out S x y = some (-101, S) := by
      unfold fX4_out fX2_tell
      by_cases h0 : x < 0
      · rw [if_pos h0]; rfl
      · rw [if_neg h0, h1, if_neg (Int32.not_lt.mpr (hx.resolve_left h0))]; rfl
    rw [eX]; exact Sim.same h _
  · rw [W_ok T (by omega) hi (n1_int (by omega))]
    simp only [obnd_s, n10, if_false]
    rcases ix y (n := 5) (by omega) with hy | ⟨w, hw, rfl⟩
    · rw [W_out T (n := 5) (a := 4) (by omega) (by decide) hy]
      simp only [obnd_s, if_true]
      have eX : fX4_out S (nI i) y = some (-102, S) := by
        unfold fX4_out fX2_tell
        rw [if_neg (z_neg (by omega)), h1, if_pos ((z_lt (by omega) (by omega)).mpr hi)]
        by_cases h0 : y < 0
        · rw [if_pos h0]; rfl
        · have h50 : ¬ y < 5 := Int32.not_lt.mpr (hy.resolve_left h0)
          rw [if_neg h0, if_neg h50]; rfl
      rw [eX]; exact Sim.same h _
    · rw [W_ok T (n := 5) (a := 4) (by omega) hw (by decide), Q_out hn hq h1 h3 h6 hi hw]
      simp only [obnd_s, n10, if_false, z_m5', z_p, z_in50 (show 5 * i + w < 50 by omega), z_cl (show 5 * i + w < 1000 by omega)]
      exact Sim.same h _
theorem Q_about {c w : Nat} {S T : zS} (h : Rel 16 c S T) (hw : w < 6) : ∃ r, fX4_about S (nI w) = some (r, S) ∧ fX5_aboutNow T (nI w) = some (r, T) := by
  obtain ⟨v1, v2, v3, v4, v5, v6, -⟩ := h.2.1
  have v5 := v5.1 (Nat.le_refl 16)
  unfold fX4_about fX5_aboutNow
  rw [← v1, ← v2, ← v3, ← v4, ← v5, h.1.1, h.1.2]
  have : w = 0 ∨ w = 1 ∨ w = 2 ∨ w = 3 ∨ w = 4 ∨ w = 5 := by omega
  rcases this with rfl | rfl | rfl | rfl | rfl | rfl
  · exact ⟨_, rfl, rfl⟩
  · exact ⟨_, rfl, rfl⟩
  · exact ⟨_, rfl, rfl⟩
  · show ∃ r, (if S.1 2 = -1 then some ((-1 : Int32), S) else some (S.1 3 + 10, S)) = some (r, S) ∧ (if S.1 2 = -1 then some ((-1 : Int32), T) else some (S.1 3 + 10, T)) = some (r, T)
    by_cases h2 : S.1 2 = -1
    · rw [if_pos h2, if_pos h2]; exact ⟨_, rfl, rfl⟩
    · rw [if_neg h2, if_neg h2]; exact ⟨_, rfl, rfl⟩
  · exact ⟨_, rfl, rfl⟩
  · exact ⟨_, rfl, rfl⟩
theorem sim_about {c : Nat} {S T : zS} (h : Rel 16 c S T) (x : Int32) : Sim c (fX4_about S x) (fX5_about T x) := by
  unfold fX5_about
  rcases ix x (n := 6) (by omega) with hx | ⟨w, hw, rfl⟩
  · rw [W_out T (n := 6) (a := 5) (by omega) (by decide) hx]
    simp only [obnd_s, if_true]
    unfold fX4_about
    rw [if_neg (ixv (v := 0) (j := 0) (by omega) (by omega) rfl hx), if_neg (ixv (v := 1) (j := 1) (by omega) (by omega) rfl hx), if_neg (ixv (v := 2) (j := 2) (by omega) (by omega) rfl hx), if_neg (ixv (v := 3) (j := 3) (by omega) (by omega) rfl hx), if_neg (ixv (v := 4) (j := 4) (by omega) (by omega) rfl hx), if_neg (ixv (v := 5) (j := 5) (by omega) (by omega) rfl hx)]
    exact Sim.same h _
  · rw [W_ok T (n := 6) (a := 5) (by omega) hw (by decide)]
    simp only [obnd_s, n10, if_false]
    obtain ⟨r, e1, e2⟩ := Q_about h hw
    rw [e1, e2]
    exact Sim.same h _
theorem sim_wait4 {q c : Nat} {S T : zS} (h : Rel q c S T) : ∀ (d n k : Nat) (x : Int32), k + d = 16 → d < n → ∃ v, fX0_allWaiting_4 n S x (nI k) = some (v, S) ∧ fX5_heldAll_4 n T x (nI k) = some (v, T) := by
  intro d
  induction d with
  | zero =>
    intro n k x hk hn
    obtain ⟨n, rfl⟩ := fu hn
    obtain rfl : k = 16 := by omega
    refine ⟨x, ?_, ?_⟩
    · show bX0_allWaiting_4 _ S _ _ = _
      unfold bX0_allWaiting_4
      rw [if_pos z_16e]
    · show bX5_heldAll_4 _ T _ _ = _
      unfold bX5_heldAll_4
      rw [if_pos z_16e]
  | succ d ih =>
    intro n k x hk hn
    obtain ⟨n, rfl⟩ := fu hn
    have h16 : k < 16 := by omega
    show ∃ v, bX0_allWaiting_4 (fX0_allWaiting_4 n) S x (nI k) = some (v, S) ∧ bX5_heldAll_4 (fX5_heldAll_4 n) T x (nI k) = some (v, T)
    unfold bX0_allWaiting_4 bX5_heldAll_4
    rw [if_neg (z_16 h16), if_neg (z_16 h16)]
    simp only [z_in16 h16, z_cl (show k < 1000 by omega), fX5_heldAll_30, zlet_s, z_sc]
    rcases h.there h16 with ⟨p0, -⟩ | ⟨p0, -⟩
    · rw [X_wait0 h h16 p0, if_pos p0]
      exact ih n (k + 1) _ (by omega) (by omega)
    · rw [X_wait1 h h16 p0, p0, if_neg n10, ← h.2.2.1.2.2.2.2.1]
      exact ih n (k + 1) _ (by omega) (by omega)
theorem sim_wait {q c : Nat} {S T : zS} (h : Rel q c S T) : ∃ v, fX0_allWaiting S = some (v, S) ∧ fX5_heldAll T = some (v, T) := sim_wait4 h 16 64 0 0 rfl (by decide)
theorem fresh_eq {q c : Nat} {S T : zS} (h : Rel q c S T) : zcn (pXf S) 16 = zcn (pTs T 1) 16 := by
  refine zcn_congr (fun k hk => ?_)
  show decide (S.2.1 3 k = 1) = decide (¬ T.2.1 0 k = 0 ∧ T.2.1 1 k = 1)
  rcases h.there hk with ⟨p0, p1, -⟩ | ⟨p0, p1, -⟩
  · have e : ¬ (-1 : Int32) = 1 := by decide
    rw [p0, p1]; simp [e]
  · rw [p0, ← p1]
    simp [n10]
theorem sim_many {q c : Nat} {S T : zS} (h : Rel q c S T) (x : Int32) : ∃ r, fX4_count S x = some (r, S) ∧ fX5_howMany T x = some (r, T) := by
  obtain ⟨-, -, -, -, -, -, v7, v8, -⟩ := h.2.1
  obtain ⟨g1, -⟩ := h.2.2.2.2.1
  obtain ⟨n0, -, k2, k3, -⟩ := h.2.2.2.2.2.1
  obtain ⟨n, q, -, -, -, -, -, o4, o5, -⟩ := h.2.2.2.2.2.2.2
  obtain ⟨w, e1, e2⟩ := sim_wait h
  have e3 := fresh_eq h
  unfold fX4_count fX5_howMany fX0_howMany fX3_howMany fX1_howMany fX0_lostEver fX2_lettersEver fX2_allEver fX0_goneEver
  simp only [M_entries, M_entF T 1 (by decide), M_routers, X_fresh, e1, e2, obnd_s, h.cntR, g1, k2, k3, v7, v8, o4, o5, e3]
  by_cases h0 : x = 0
  · rw [if_pos h0, if_pos h0]; exact ⟨_, rfl, rfl⟩
  rw [if_neg h0, if_neg h0]
  by_cases h1 : x = 1
  · rw [if_pos h1, if_pos h1]; exact ⟨_, rfl, rfl⟩
  rw [if_neg h1, if_neg h1]
  by_cases h2 : x = 2
  · rw [if_pos h2, if_pos h2]; exact ⟨_, rfl, rfl⟩
  rw [if_neg h2, if_neg h2]
  by_cases h3 : x = 3
  · rw [if_pos h3, if_pos h3]; exact ⟨_, rfl, rfl⟩
  rw [if_neg h3, if_neg h3]
  by_cases h4 : x = 4
  · rw [if_pos h4, if_pos h4]; exact ⟨_, rfl, rfl⟩
  rw [if_neg h4, if_neg h4]
  by_cases h5 : x = 5
  · rw [if_pos h5, if_pos h5]; exact ⟨_, rfl, rfl⟩
  rw [if_neg h5, if_neg h5]
  by_cases h6 : x = 6
  · rw [if_pos h6, if_pos h6]; exact ⟨_, rfl, rfl⟩
  rw [if_neg h6, if_neg h6]
  by_cases h7 : x = 7
  · rw [if_pos h7, if_pos h7]; exact ⟨_, rfl, rfl⟩
  rw [if_neg h7, if_neg h7]
  by_cases h8 : x = 8
  · rw [if_pos h8, if_pos h8]; exact ⟨_, rfl, rfl⟩
  rw [if_neg h8, if_neg h8]; exact ⟨_, rfl, rfl⟩
theorem sim_count {c : Nat} {S T : zS} (h : Rel 16 c S T) (x : Int32) : Sim c (fX4_count S x) (fX5_count T x) := by
  obtain ⟨r, e1, e2⟩ := sim_many h x
  unfold fX5_count
  rw [e1, e2]
  exact Sim.same h _
