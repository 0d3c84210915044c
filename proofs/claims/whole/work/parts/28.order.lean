/-! ===== the order of routers ===== -/
theorem zcn_lt {p : Nat → Bool} {k n : Nat} (hk : k < n) (h : p k = false) : zcn p n < n := by
  induction n with
  | zero => omega
  | succ n ih =>
    have e : zcn p (n + 1) = zcn p n + (if p n then 1 else 0) := rfl
    have hl := zcn_le p n
    by_cases hkn : k = n
    · subst hkn; rw [e, h]; simp; omega
    · have := ih (by omega)
      rw [e]; split <;> omega
theorem zcn_sub {p q : Nat → Bool} (h : ∀ j, p j = true → q j = true) : ∀ n, zcn p n ≤ zcn q n := by
  intro n
  induction n with
  | zero => exact Nat.le_refl _
  | succ n ih =>
    have e1 : zcn p (n + 1) = zcn p n + (if p n then 1 else 0) := rfl
    have e2 : zcn q (n + 1) = zcn q n + (if q n then 1 else 0) := rfl
    have := h n
    rw [e1, e2]
    cases hp : p n with
    | true => rw [this hp]; simp; exact ih
    | false => simp; split <;> omega
theorem zcn_str {p q : Nat → Bool} (h : ∀ j, p j = true → q j = true) {k : Nat} (h1 : p k = false) (h2 : q k = true) : ∀ {n}, k < n → zcn p n < zcn q n := by
  intro n hk
  induction n with
  | zero => omega
  | succ n ih =>
    have e1 : zcn p (n + 1) = zcn p n + (if p n then 1 else 0) := rfl
    have e2 : zcn q (n + 1) = zcn q n + (if q n then 1 else 0) := rfl
    have hs := zcn_sub h n
    rw [e1, e2]
    by_cases hkn : k = n
    · subst hkn; rw [h1, h2]; simp; omega
    · have := ih (by omega)
      have hh := h n
      cases hp : p n with
      | true => rw [hh hp]; simp; omega
      | false => simp; split <;> omega
theorem zcn_off {q : Nat → Bool} {n : Nat} (h : ∀ k, n ≤ k → q k = false) : ∀ m, n ≤ m → zcn q m = zcn q n := by
  intro m
  induction m with
  | zero => intro hm; have : n = 0 := by omega
            rw [this]
  | succ m ih =>
    intro hm
    by_cases hmn : n = m + 1
    · rw [hmn]
    · have e : zcn q (m + 1) = zcn q m + (if q m then 1 else 0) := rfl
      rw [e, h m (by omega), ih (by omega)]; simp
/-- who is injective into n is onto -/
theorem onto {n : Nat} (hn : n ≤ 16) {f : Nat → Nat} (h1 : ∀ i, i < n → f i < n) (h2 : ∀ i j, i < n → j < n → f i = f j → i = j) {p : Nat} (hp : p < n) : ∃ i, i < n ∧ f i = p := by
  obtain ⟨q, e1, e2⟩ := inj_cnt f n (fun i hi => by have := h1 i hi; omega) h2
  cases hq : q p with
  | true => exact (e1 p).mp hq
  | false =>
    exfalso
    have h3 : ∀ k, n ≤ k → q k = false := fun k hk => by
      cases hh : q k with
      | false => rfl
      | true =>
        obtain ⟨i, hi, e⟩ := (e1 k).mp hh
        have := h1 i hi
        omega
    have h4 := zcn_off h3 16 hn
    have h5 := zcn_lt hp hq
    omega
/-- counting over addresses, and over slots -/
theorem cnt_slots (ad : Nat → Nat) (P : Nat → Bool) : ∀ n, (∀ i, i < n → ad i < 16) → (∀ i j, i < n → j < n → ad i = ad j → i = j) → ∃ q : Nat → Bool, (∀ k, q k = true ↔ P k = true ∧ ∃ i, i < n ∧ ad i = k) ∧ zcn q 16 = zcn (fun j => P (ad j)) n := by
  intro n
  induction n with
  | zero => intro _ _; exact ⟨fun _ => false, fun k => ⟨fun e => absurd e Bool.false_ne_true, fun ⟨_, i, hi, _⟩ => absurd hi (by omega)⟩, (show zcn (fun _ => false) 16 = 0 by decide)⟩
  | succ n ih =>
    intro h1 h2
    obtain ⟨q, e1, e2⟩ := ih (fun i hi => h1 i (by omega)) (fun i j hi hj e => h2 i j (by omega) (by omega) e)
    have hq : q (ad n) = false := by
      cases hh : q (ad n) with
      | false => rfl
      | true =>
        obtain ⟨-, i, hi, e⟩ := (e1 _).mp hh
        have := h2 i n (by omega) (by omega) e
        omega
    have e3 : zcn (fun j => P (ad j)) (n + 1) = zcn (fun j => P (ad j)) n + (if P (ad n) then 1 else 0) := rfl
    cases hP : P (ad n) with
    | true =>
      refine ⟨fun k => if k = ad n then true else q k, fun k => ?_, ?_⟩
      · by_cases hk : k = ad n
        · simp only [hk, if_true, true_iff]
          exact ⟨hP, n, by omega, rfl⟩
        · simp only [hk, if_false]
          rw [e1]
          exact ⟨fun ⟨a, i, hi, e⟩ => ⟨a, i, by omega, e⟩, fun ⟨a, i, hi, e⟩ => ⟨a, i, by
            have : i ≠ n := fun q => hk (by rw [← e, q])
            omega, e⟩⟩
      · have := zcn_on (p := q) (q := fun k => if k = ad n then true else q k) (k := ad n) hq (by simp) (fun j hj => by simp [hj]) 16
        rw [this, if_pos (h1 n (by omega)), e2, e3, hP]; rfl
    | false =>
      refine ⟨q, fun k => ?_, by rw [e2, e3, hP]; simp⟩
      rw [e1]
      exact ⟨fun ⟨a, i, hi, e⟩ => ⟨a, i, by omega, e⟩, fun ⟨a, i, hi, e⟩ => ⟨a, i, by
        have : i ≠ n := fun q => by rw [q] at e; rw [← e, hP] at a; exact absurd a Bool.false_ne_true
        omega, e⟩⟩
def gd (T : zS) (a : Nat) : Bool := decide (¬ T.2.1 0 a = 0 ∧ ¬ T.2.1 1 a = 0)
/-- greater: ahead -/
def wt (T : zS) (a : Nat) : Int := ((if gd T a then 1 else 0) * 3 + (T.2.1 9 a).toInt) * 16 - (a : Int)
theorem M_isGood (T : zS) {k : Nat} (hk : k < 16) : fX5_isGood T (nI k) = some (if gd T k then 1 else 0, T) := by
  unfold fX5_isGood gd
  simp only [z_in16 hk, z_cl (show k < 1000 by omega)]
  by_cases h0 : T.2.1 0 k = 0
  · simp [h0]
  · by_cases h1 : T.2.1 1 k = 0 <;> simp [h0, h1]
theorem X_hasMark {q c k : Nat} {S T : zS} (h : Rel q c S T) (hk : k < 16) : fX0_hasMark S (nI k) = some (if gd T k then 1 else 0, S) := by
  unfold fX0_hasMark gd
  rw [if_neg (z_neg (by omega)), if_neg (z_16 hk)]
  simp only [z_in16 hk, z_cl (show k < 1000 by omega)]
  rcases h.there hk with ⟨p0, p1, -⟩ | ⟨p0, p1, p2⟩
  · rw [p1, if_pos rfl, p0]; simp
  · rw [if_neg (rSt_ne p2), p0, ← p1]
    by_cases h0 : S.2.1 3 k = 0 <;> simp [h0]
theorem w_dec : ∀ a : Fin 16, ((((0 : Int32) * 3 + (-1)) * 16 - nI a).toInt = ((0 : Int) * 3 + (-1)) * 16 - (a.val : Int)) ∧ ((((0 : Int32) * 3 + 0) * 16 - nI a).toInt = ((0 : Int) * 3 + 0) * 16 - (a.val : Int)) ∧ ((((0 : Int32) * 3 + 1) * 16 - nI a).toInt = ((0 : Int) * 3 + 1) * 16 - (a.val : Int)) ∧ ((((1 : Int32) * 3 + (-1)) * 16 - nI a).toInt = ((1 : Int) * 3 + (-1)) * 16 - (a.val : Int)) ∧ ((((1 : Int32) * 3 + 0) * 16 - nI a).toInt = ((1 : Int) * 3 + 0) * 16 - (a.val : Int)) ∧ ((((1 : Int32) * 3 + 1) * 16 - nI a).toInt = ((1 : Int) * 3 + 1) * 16 - (a.val : Int)) := by decide +kernel
theorem X_weight {q c n i : Nat} {ad : Nat → Nat} {S T : zS} (h : Rel q c S T) (hr : rRn n ad S T) (hi : i < n) : ∃ w, fX3_weight S (nI i) = some (w, S) ∧ w.toInt = wt T (ad i) := by
  obtain ⟨g1, g2, g3, g4, g5⟩ := hr.2.2.1 i hi
  have hn := hr.1
  unfold fX3_weight fX3_weight_18
  simp only [z_in4 (show i < 4 by omega), z_cl (show i < 1000 by omega), zlet_s, g2, X_hasMark h g1, obnd_s]
  have hd := w_dec ⟨ad i, g1⟩
  unfold wt
  rw [← g3]
  cases hg : gd T (ad i) with
  | true =>
    refine ⟨_, rfl, ?_⟩
    rcases g5 with e | e | e
    · rw [e]; exact hd.2.2.2.1
    · rw [e]; exact hd.2.2.2.2.1
    · rw [e]; exact hd.2.2.2.2.2
  | false =>
    refine ⟨_, rfl, ?_⟩
    rcases g5 with e | e | e
    · rw [e]; exact hd.1
    · rw [e]; exact hd.2.1
    · rw [e]; exact hd.2.2.1
theorem rk_int {x : Int32} (h : x = -1 ∨ x = 0 ∨ x = 1) : -1 ≤ x.toInt ∧ x.toInt ≤ 1 := by
  rcases h with rfl | rfl | rfl <;> decide
theorem wt_ne (T : zS) {a b : Nat} (ha : a < 16) (hb : b < 16) (h : a ≠ b) : wt T a ≠ wt T b := by
  unfold wt; omega
theorem M_isAhead (T : zS) {o a : Nat} (ho : o < 16) (ha : a < 16) (hne : o ≠ a) (r1 : T.2.1 9 o = -1 ∨ T.2.1 9 o = 0 ∨ T.2.1 9 o = 1) (r2 : T.2.1 9 a = -1 ∨ T.2.1 9 a = 0 ∨ T.2.1 9 a = 1) : fX5_isAhead T (nI o) (nI a) = some (if wt T a < wt T o then 1 else 0, T) := by
  have i1 := rk_int r1
  have i2 := rk_int r2
  unfold fX5_isAhead
  simp only [M_isGood T ho, M_isGood T ha, obnd_s, z_in16 ho, z_in16 ha, z_cl (show o < 1000 by omega), z_cl (show a < 1000 by omega), fX5_isAhead_54]
  unfold wt
  have lt_i : ∀ x y : Int32, (x < y) = (x.toInt < y.toInt) := fun x y => propext Int32.lt_iff_toInt_lt
  have eq_i : ∀ x y : Int32, (x = y) = (x.toInt = y.toInt) := fun x y => propext Int32.toInt_inj.symm
  cases hg1 : gd T o with
  | true =>
    cases hg2 : gd T a with
    | true =>
      simp only [if_true, lt_i, z_le (show a < 1000000 by omega) (show o < 1000000 by omega)]
      by_cases c1 : (T.2.1 9 a).toInt < (T.2.1 9 o).toInt
      · rw [if_pos c1, if_pos (by omega)]
      · rw [if_neg c1]
        by_cases c2 : T.2.1 9 o = T.2.1 9 a
        · rw [if_pos c2, c2]
          by_cases c3 : a ≤ o
          · rw [if_pos c3, if_neg (by omega)]
          · rw [if_neg c3, if_pos (by omega)]
        · rw [if_neg c2]
          rw [eq_i] at c2
          rw [if_neg (by omega)]
    | false =>
      simp only [if_true, Bool.false_eq_true, if_false, show ¬ (1 : Int32) = 0 by decide, zbl_1]
      rw [if_pos (by omega)]
  | false =>
    cases hg2 : gd T a with
    | true =>
      simp only [if_true, Bool.false_eq_true, if_false, show ¬ (0 : Int32) = 1 by decide, zbl_0]
      rw [if_neg (by omega)]
    | false =>
      simp only [if_true, Bool.false_eq_true, if_false, lt_i, z_le (show a < 1000000 by omega) (show o < 1000000 by omega)]
      by_cases c1 : (T.2.1 9 a).toInt < (T.2.1 9 o).toInt
      · rw [if_pos c1, if_pos (by omega)]
      · rw [if_neg c1]
        by_cases c2 : T.2.1 9 o = T.2.1 9 a
        · rw [if_pos c2, c2]
          by_cases c3 : a ≤ o
          · rw [if_pos c3, if_neg (by omega)]
          · rw [if_neg c3, if_pos (by omega)]
        · rw [if_neg c2]
          rw [eq_i] at c2
          rw [if_neg (by omega)]
/-- the place of an address -/
abbrev pAh (T : zS) (a : Nat) : Nat → Bool := fun o => decide (¬ T.2.1 8 o = 0 ∧ wt T a < wt T o)
theorem M_place4 {n : Nat} {ad : Nat → Nat} {S T : zS} (hr : rRn n ad S T) {a : Nat} (ha : a < 16) (hra : T.2.1 8 a = 1) : ∀ (d f k : Nat), k + d = 16 → d < f → fX5_placeOf_4 f T (nI a) (nI (zcn (pAh T a) k)) (nI k) = some (nI (zcn (pAh T a) 16), T) := by
  obtain ⟨-, -, h3, -, h5⟩ := hr
  have rk : ∀ k, k < 16 → T.2.1 8 k = 1 → (T.2.1 9 k = -1 ∨ T.2.1 9 k = 0 ∨ T.2.1 9 k = 1) := fun k hk e => by
    obtain ⟨i, hi, rfl⟩ := (h5 k hk).2.mp e
    rw [← (h3 i hi).2.2.1]; exact (h3 i hi).2.2.2.2
  intro d
  induction d with
  | zero =>
    intro f k hk hn
    obtain ⟨f, rfl⟩ := fu hn
    obtain rfl : k = 16 := by omega
    show bX5_placeOf_4 _ T _ _ _ = _
    unfold bX5_placeOf_4
    rw [if_pos z_16e]
  | succ d ih =>
    intro f k hk hn
    obtain ⟨f, rfl⟩ := fu hn
    have h16 : k < 16 := by omega
    show bX5_placeOf_4 _ T _ _ _ = _
    unfold bX5_placeOf_4
    have hi := ih f (k + 1) (by omega) (by omega)
    rw [if_neg (z_16 h16), z_in16 h16, z_cl (by omega)]
    simp only [fX5_placeOf_38, fX5_placeOf_39, zlet_s, z_sc]
    rcases (h5 k h16).1 with e | e
    · rw [if_pos e, ← hi]
      simp [zcn, e]
    · rw [if_neg (by rw [e]; decide)]
      by_cases hka : k = a
      · subst hka
        rw [if_pos rfl, ← hi]
        simp [zcn]
      · rw [if_neg (fun q => hka ((z_eq (by omega) (by omega)).mp q)), M_isAhead T h16 ha hka (rk k h16 e) (rk a ha hra)]
        simp only [obnd_s]
        by_cases hw : wt T a < wt T k
        · rw [if_pos hw, if_neg (by decide), ← hi]
          simp [zcn, e, hw]
        · rw [if_neg hw, if_pos rfl, ← hi]
          simp [zcn, hw]
theorem M_place {n : Nat} {ad : Nat → Nat} {S T : zS} (hr : rRn n ad S T) {a : Nat} (ha : a < 16) (hra : T.2.1 8 a = 1) : fX5_placeOf T (nI a) = some (nI (zcn (pAh T a) 16), T) := M_place4 hr ha hra 16 64 0 rfl (by decide)
/-- the place of a slot -/
abbrev pSl (T : zS) (ad : Nat → Nat) (i : Nat) : Nat → Bool := fun j => decide (wt T (ad i) < wt T (ad j))
abbrev plc (T : zS) (ad : Nat → Nat) (n i : Nat) : Nat := zcn (pSl T ad i) n
theorem plc_eq {n i : Nat} {ad : Nat → Nat} {S T : zS} (hr : rRn n ad S T) (_ : i < n) : zcn (pAh T (ad i)) 16 = plc T ad n i := by
  obtain ⟨-, -, h3, h4, h5⟩ := hr
  obtain ⟨q, e1, e2⟩ := cnt_slots ad (fun o => decide (wt T (ad i) < wt T o)) n (fun i hi => (h3 i hi).1) h4
  show _ = zcn (fun j => (fun o => decide (wt T (ad i) < wt T o)) (ad j)) n
  rw [← e2]
  refine zcn_congr (fun k hk => ?_)
  have hz := h5 k hk
  cases hq : q k with
  | true =>
    obtain ⟨a, b⟩ := (e1 k).mp hq
    have := hz.2.mpr b
    simp at a
    simp [this, a]
  | false =>
    rcases hz.1 with e | e
    · simp [e]
    · have hn : ¬ wt T (ad i) < wt T k := fun w => by
        have := (e1 k).mpr ⟨by simp [w], hz.2.mp e⟩
        rw [hq] at this; exact absurd this Bool.false_ne_true
      simp [hn]
theorem plc_lt {n i : Nat} {ad : Nat → Nat} {T : zS} (hi : i < n) : plc T ad n i < n := zcn_lt hi (by simp)
theorem plc_inj {n : Nat} {ad : Nat → Nat} {S T : zS} (hr : rRn n ad S T) : ∀ i j, i < n → j < n → plc T ad n i = plc T ad n j → i = j := by
  obtain ⟨-, -, h3, h4, -⟩ := hr
  have key : ∀ i j, i < n → j < n → wt T (ad i) < wt T (ad j) → plc T ad n j < plc T ad n i := fun i j hi hj hw => by
    refine zcn_str (k := j) (fun l hl => ?_) ?_ ?_ hj
    · simp at hl ⊢; omega
    · simp
    · simp; exact hw
  intro i j hi hj e
  rcases Int.lt_trichotomy (wt T (ad i)) (wt T (ad j)) with w | w | w
  · have := key i j hi hj w; omega
  · exact h4 _ _ hi hj (by
      by_cases hne : ad i = ad j
      · exact hne
      · exact absurd w (wt_ne T (h3 i hi).1 (h3 j hj).1 hne))
  · have := key j i hj hi w; omega
theorem X_order24 {q c n i : Nat} {ad : Nat → Nat} {S T : zS} (h : Rel q c S T) (hr : rRn n ad S T) (hi : i < n) {w : Int32} (hw : w.toInt = wt T (ad i)) (F2 : zS → Int32 → Int32 → Option (Int32 × zS)) (x : Int32) : ∀ (d f j : Nat), j + d = n → d < f → fX3_slotInOrder_24 F2 f S x (nI i) w (nI (zcn (pSl T ad i) j)) (nI j) = if nI (plc T ad n i) = x then some (nI i, S) else F2 S x (nI (i + 1)) := by
  have hn := hr.1
  intro d
  induction d with
  | zero =>
    intro f j hj hf
    obtain ⟨f, rfl⟩ := fu hf
    obtain rfl : j = n := by omega
    show bX3_slotInOrder_24 _ _ S _ _ _ _ _ = _
    unfold bX3_slotInOrder_24
    rw [hr.2.1, if_pos ((z_le (by omega) (by omega)).mpr (by omega))]
    simp only [zlet_s, z_sc]
  | succ d ih =>
    intro f j hj hf
    obtain ⟨f, rfl⟩ := fu hf
    show bX3_slotInOrder_24 _ _ S _ _ _ _ _ = _
    unfold bX3_slotInOrder_24
    rw [hr.2.1, if_neg (fun e => absurd ((z_le (by omega) (by omega)).mp e) (by omega))]
    obtain ⟨v, e1, e2⟩ := X_weight h hr (i := j) (by omega)
    rw [e1]
    simp only [obnd_s, fX3_slotInOrder_48, zlet_s, z_sc]
    have hi2 := ih f (j + 1) (by omega) (by omega)
    rw [← hi2]
    have e3 : zcn (pSl T ad i) (j + 1) = zcn (pSl T ad i) j + (if pSl T ad i j then 1 else 0) := rfl
    by_cases hle : v ≤ w
    · rw [if_pos hle]
      rw [Int32.le_iff_toInt_le, e2, hw] at hle
      have : pSl T ad i j = false := by simp; omega
      rw [e3, this]; simp
    · rw [if_neg hle]
      rw [Int32.le_iff_toInt_le, e2, hw] at hle
      have : pSl T ad i j = true := by simp; omega
      rw [e3, this]; simp
theorem X_order2 {q c n : Nat} {ad : Nat → Nat} {S T : zS} (h : Rel q c S T) (hr : rRn n ad S T) (x : Int32) : ∀ (d f i : Nat), i + d = n → d < f → ∃ v, fX3_slotInOrder_2 f S x (nI i) = some (v, S) ∧ ((v = -1 ∧ ∀ j, i ≤ j → j < n → ¬ nI (plc T ad n j) = x) ∨ ∃ j, j < n ∧ v = nI j ∧ nI (plc T ad n j) = x) := by
  have hn := hr.1
  intro d
  induction d with
  | zero =>
    intro f i hi hf
    obtain ⟨f, rfl⟩ := fu hf
    show ∃ v, bX3_slotInOrder_2 _ S _ _ = some (v, S) ∧ _
    unfold bX3_slotInOrder_2
    rw [hr.2.1, if_pos ((z_le (by omega) (by omega)).mpr (by omega))]
    exact ⟨-1, rfl, Or.inl ⟨rfl, fun j a b => absurd b (by omega)⟩⟩
  | succ d ih =>
    intro f i hi hf
    obtain ⟨f, rfl⟩ := fu hf
    show ∃ v, bX3_slotInOrder_2 _ S _ _ = some (v, S) ∧ _
    unfold bX3_slotInOrder_2
    rw [hr.2.1, if_neg (fun e => absurd ((z_le (by omega) (by omega)).mp e) (by omega))]
    obtain ⟨w, e1, e2⟩ := X_weight h hr (i := i) (by omega)
    rw [e1]
    simp only [obnd_s, zlet_s]
    have := X_order24 h hr (i := i) (by omega) e2 (fX3_slotInOrder_2 f) x n 64 0 (by omega) (by omega)
    have z0 : nI (zcn (pSl T ad i) 0) = 0 := rfl
    rw [z0, show nI 0 = 0 from rfl] at this
    rw [this]
    by_cases hx : nI (plc T ad n i) = x
    · rw [if_pos hx]
      exact ⟨nI i, rfl, Or.inr ⟨i, by omega, rfl, hx⟩⟩
    · rw [if_neg hx]
      obtain ⟨v, a1, a2⟩ := ih f (i + 1) (by omega) (by omega)
      refine ⟨v, a1, ?_⟩
      rcases a2 with ⟨b1, b2⟩ | b
      · refine Or.inl ⟨b1, fun j hj hjn => ?_⟩
        by_cases hji : j = i
        · rw [hji]; exact hx
        · exact b2 j (by omega) hjn
      · exact Or.inr b
theorem X_order {q c n : Nat} {ad : Nat → Nat} {S T : zS} (h : Rel q c S T) (hr : rRn n ad S T) (x : Int32) : ∃ v, fX3_slotInOrder S x = some (v, S) ∧ ((v = -1 ∧ ∀ j, j < n → ¬ nI (plc T ad n j) = x) ∨ ∃ j, j < n ∧ v = nI j ∧ nI (plc T ad n j) = x) := by
  have hn := hr.1
  obtain ⟨v, a1, a2⟩ := X_order2 h hr x n 64 0 (by omega) (by omega)
  refine ⟨v, a1, ?_⟩
  rcases a2 with ⟨b1, b2⟩ | b
  · exact Or.inl ⟨b1, fun j hj => b2 j (by omega) hj⟩
  · exact Or.inr b
theorem M_at2 {n p i0 : Nat} {ad : Nat → Nat} {S T : zS} (hr : rRn n ad S T) (hi0 : i0 < n) (hp : plc T ad n i0 = p) : ∀ (d f a : Nat), a + d = ad i0 → d < f → fX5_routerAt_2 f T (nI p) (nI a) = some (nI (ad i0), T) := by
  have hn := hr.1
  have h16 := (hr.2.2.1 i0 hi0).1
  have hpn : p < n := by rw [← hp]; exact plc_lt hi0
  intro d
  induction d with
  | zero =>
    intro f a ha hf
    obtain ⟨f, rfl⟩ := fu hf
    obtain rfl : a = ad i0 := by omega
    have e8 : T.2.1 8 (ad i0) = 1 := (hr.2.2.2.2 _ h16).2.mpr ⟨i0, hi0, rfl⟩
    show bX5_routerAt_2 _ T _ _ = _
    unfold bX5_routerAt_2
    rw [z_in16 h16, z_cl (by omega), if_neg (by rw [e8]; decide), M_place hr h16 e8, plc_eq hr hi0, hp]
    simp only [obnd_s, if_true]
  | succ d ih =>
    intro f a ha hf
    obtain ⟨f, rfl⟩ := fu hf
    have ha16 : a < 16 := by omega
    show bX5_routerAt_2 _ T _ _ = _
    unfold bX5_routerAt_2
    rw [z_in16 ha16, z_cl (by omega)]
    have hi := ih f (a + 1) (by omega) (by omega)
    simp only [fX5_routerAt_20, zlet_s, z_sc]
    rcases (hr.2.2.2.2 a ha16).1 with e | e
    · rw [if_pos e]; exact hi
    · rw [if_neg (by rw [e]; decide), M_place hr ha16 e]
      simp only [obnd_s]
      obtain ⟨i, hin, hia⟩ := (hr.2.2.2.2 a ha16).2.mp e
      have hpe : zcn (pAh T a) 16 = plc T ad n i := by rw [← hia]; exact plc_eq hr hin
      have hpl : plc T ad n i < n := plc_lt hin
      rw [hpe, if_neg]
      · exact hi
      · intro q
        have := (z_eq (by omega) (by omega)).mp q
        have := plc_inj hr i i0 hin hi0 (by rw [this, hp])
        rw [this] at hia
        omega
theorem M_at {n p i0 : Nat} {ad : Nat → Nat} {S T : zS} (hr : rRn n ad S T) (hi0 : i0 < n) (hp : plc T ad n i0 = p) : fX5_routerAt T (nI p) = some (nI (ad i0), T) := by
  have h16 := (hr.2.2.1 i0 hi0).1
  exact M_at2 hr hi0 hp (ad i0) 64 0 (by omega) (by omega)
/-- both find the same one -/
theorem sim_at {q c n p : Nat} {ad : Nat → Nat} {S T : zS} (h : Rel q c S T) (hr : rRn n ad S T) (hp : p < n) : ∃ i, i < n ∧ fX3_slotInOrder S (nI p) = some (nI i, S) ∧ fX5_routerAt T (nI p) = some (nI (ad i), T) := by
  have hn := hr.1
  obtain ⟨i0, hi0, e0⟩ := onto (f := plc T ad n) (by omega) (fun i hi => plc_lt hi) (plc_inj hr) hp
  obtain ⟨v, a1, a2⟩ := X_order h hr (nI p)
  rcases a2 with ⟨-, b⟩ | ⟨j, hj, rfl, e⟩
  · exact absurd (by rw [e0]) (b i0 hi0)
  · have hpl : plc T ad n j < n := plc_lt hj
    have := (z_eq (by omega) (by omega)).mp e
    exact ⟨j, hj, a1, M_at hr hj this⟩
