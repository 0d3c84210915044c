/-! ===== numbers, and how states are read ===== -/
theorem z_in {β : Type} {k n : Nat} (h : k < n) (hn : n < 2 ^ 31) (E : Option β) : zin (nI k) n E = E := by
  unfold zin; rw [if_neg (nI_in h hn)]
theorem z_in16 {β : Type} {k : Nat} (h : k < 16) (E : Option β) : zin (nI k) 16 E = E := z_in h (by decide) E
theorem z_in4 {β : Type} {k : Nat} (h : k < 4) (E : Option β) : zin (nI k) 4 E = E := z_in h (by decide) E
theorem z_in48 {β : Type} {k : Nat} (h : k < 48) (E : Option β) : zin (nI k) 48 E = E := z_in h (by decide) E
theorem z_in50 {β : Type} {k : Nat} (h : k < 50) (E : Option β) : zin (nI k) 50 E = E := z_in h (by decide) E
theorem z_cl {k : Nat} (h : k < 1000) : (nI k).toNatClampNeg = k := nI_clamp (by omega)
theorem z_neg {k : Nat} (h : k < 1000000) : ¬ nI k < 0 := nI_pos (by omega)
theorem z_pos {k : Nat} (h : k < 1000000) : 0 ≤ nI k := nI_pos' (by omega)
theorem z_m1 {k : Nat} (h : k < 1000000) : ¬ nI k = -1 := fun e => by
  have h1 := nI_toInt (n := k) (by omega)
  rw [e] at h1
  have h2 : ((-1 : Int32)).toInt = -1 := by decide
  omega
theorem z_m1' {k : Nat} (h : k < 1000000) : ¬ (-1 : Int32) = nI k := fun e => z_m1 h e.symm
theorem z_16 {k : Nat} (h : k < 16) : ¬ (16 : Int32) ≤ nI k := nI_ge (b := 16) h (by decide)
theorem z_15 {k : Nat} (h : k < 16) : ¬ (15 : Int32) < nI k := nI_nlt (a := 15) (b := k) (by omega) (by decide)
theorem z_16e : (16 : Int32) ≤ nI 16 := by decide
theorem z_sc (k : Nat) : nI k + (1 : Int32) = nI (k + 1) := nI_1 k
theorem z_eq {a b : Nat} (ha : a < 1000000) (hb : b < 1000000) : nI a = nI b ↔ a = b := nI_eq (by omega) (by omega)
theorem z_le {a b : Nat} (ha : a < 1000000) (hb : b < 1000000) : nI a ≤ nI b ↔ a ≤ b := nI_leI (by omega) (by omega)
theorem z_lt {a b : Nat} (ha : a < 1000000) (hb : b < 1000000) : nI a < nI b ↔ a < b := nI_ltI (by omega) (by omega)
theorem z_n0 : (0 : Int32) = nI 0 := rfl
theorem z_b0 : vp_nar .boolean (0 : Int32) = 0 := rfl
theorem z_b1 : vp_nar .boolean (1 : Int32) = 1 := rfl
theorem zI_1 (S : zS) (k : Nat) (v : Int32) (j : Nat) : (zI S k v).1 j = if j = k then v else S.1 j := rfl
theorem zI_2 (S : zS) (k : Nat) (v : Int32) : (zI S k v).2 = S.2 := rfl
theorem zR_1 (S : zS) (k i : Nat) (v : Int32) : (zR S k i v).1 = S.1 := rfl
theorem zR_2 (S : zS) (k i : Nat) (v : Int32) (j : Nat) : (zR S k i v).2.1 j = if j = k then upd (S.2.1 k) i v else S.2.1 j := rfl
theorem zR_3 (S : zS) (k i : Nat) (v : Int32) : (zR S k i v).2.2 = S.2.2 := rfl
theorem ud_s (f : Nat → Int32) (k : Nat) (v : Int32) : upd f k v k = v := by simp [upd]
theorem ud_n {f : Nat → Int32} {k j : Nat} {v : Int32} (h : j ≠ k) : upd f k v j = f j := by simp [upd, h]
theorem ud_i {f : Nat → Int32} {k : Nat} {v : Int32} (h : f k = v) : upd f k v = f := by
  funext j; by_cases hj : j = k
  · subst hj; rw [ud_s, h]
  · rw [ud_n hj]
theorem ud_u (f : Nat → Int32) (k : Nat) (v w : Int32) : upd (upd f k v) k w = upd f k w := by
  funext j; by_cases hj : j = k
  · subst hj; rw [ud_s, ud_s]
  · rw [ud_n hj, ud_n hj, ud_n hj]
theorem obnd_s {α β : Type} (x : α) (S : zS) (k : α → zS → Option β) : obnd (some (x, S)) k = k x S := rfl
theorem obnv_s {β : Type} (S : zS) (k : zS → Option β) : obnv (some S) k = k S := rfl
theorem zlet_s {α β : Type} (x : α) (k : α → Option β) : zlet x k = k x := rfl
theorem zbl_0 {β : Type} (E : Option β) : zbl (0 : Int32) E = E := by simp [zbl]
theorem zbl_1 {β : Type} (E : Option β) : zbl (1 : Int32) E = E := by simp [zbl]
/-- how many below n -/
def zcn (p : Nat → Bool) : Nat → Nat
  | 0 => 0
  | n + 1 => zcn p n + (if p n then 1 else 0)
theorem zcn_le (p : Nat → Bool) (n : Nat) : zcn p n ≤ n := by
  induction n with
  | zero => exact Nat.le_refl _
  | succ n ih => unfold zcn; split <;> omega
theorem zcn_congr {p q : Nat → Bool} {n : Nat} (h : ∀ k, k < n → p k = q k) : zcn p n = zcn q n := by
  induction n with
  | zero => rfl
  | succ n ih => unfold zcn; rw [ih (fun k hk => h k (by omega)), h n (by omega)]
theorem zcn_on {p q : Nat → Bool} {k : Nat} (hk : p k = false) (hq : q k = true) (h : ∀ j, j ≠ k → q j = p j) : ∀ n, zcn q n = zcn p n + (if k < n then 1 else 0) := by
  intro n
  induction n with
  | zero => rfl
  | succ n ih =>
    unfold zcn
    rw [ih]
    by_cases hn : n = k
    · subst hn; rw [hk, hq]; simp
    · rw [h n hn]
      by_cases h1 : k < n
      · simp [h1, show k < n + 1 by omega]; omega
      · simp [h1, show ¬ k < n + 1 by omega]
theorem zcn_mono {p : Nat → Bool} {n m : Nat} (h : n ≤ m) : zcn p n ≤ zcn p m := by
  induction m with
  | zero => have : n = 0 := by omega
            subst this; exact Nat.le_refl _
  | succ m ih =>
    by_cases hn : n = m + 1
    · subst hn; exact Nat.le_refl _
    · have := ih (by omega)
      show zcn p n ≤ zcn p m + _
      omega
theorem zcn_pos {p : Nat → Bool} {k n : Nat} (hk : k < n) (h : p k = true) : 0 < zcn p n := by
  have h1 := zcn_mono (p := p) (show k + 1 ≤ n by omega)
  have h2 : zcn p (k + 1) = zcn p k + 1 := by show zcn p k + _ = _; rw [h]; rfl
  omega
theorem zcn_zero {p : Nat → Bool} {n : Nat} (h : zcn p n = 0) : ∀ k, k < n → p k = false := by
  intro k hk
  cases hp : p k with
  | false => rfl
  | true => have := zcn_pos hk hp; omega
theorem fu {n d : Nat} (h : d < n) : ∃ n', n = n' + 1 := ⟨n - 1, by omega⟩
/-! ===== loops that only count ===== -/
abbrev pTh (T : zS) : Nat → Bool := fun k => decide (¬ T.2.1 0 k = 0)
abbrev pTs (T : zS) (v : Int32) : Nat → Bool := fun k => decide (¬ T.2.1 0 k = 0 ∧ T.2.1 1 k = v)
theorem M_entries4 (T : zS) : ∀ (d n k : Nat), k + d = 16 → d < n → fX5_entries_4 n T (-1) (nI (zcn (pTh T) k)) (nI k) = some (nI (zcn (pTh T) 16), T) := by
  intro d
  induction d with
  | zero =>
    intro n k hk hn
    obtain ⟨n, rfl⟩ := fu hn
    obtain rfl : k = 16 := by omega
    show bX5_entries_4 _ T _ _ _ = _
    unfold bX5_entries_4
    rw [if_pos z_16e]
  | succ d ih =>
    intro n k hk hn
    obtain ⟨n, rfl⟩ := fu hn
    have h16 : k < 16 := by omega
    show bX5_entries_4 _ T _ _ _ = _
    unfold bX5_entries_4
    rw [if_neg (z_16 h16), z_in16 h16, z_cl (by omega)]
    have hi := ih n (k + 1) (by omega) (by omega)
    by_cases h0 : T.2.1 0 k = 0
    · rw [if_pos h0]
      simp only [fX5_entries_39, fX5_entries_40, zlet, z_sc]
      rw [← hi]
      simp [zcn, h0]
    · rw [if_neg h0, if_pos rfl]
      simp only [fX5_entries_35, fX5_entries_40, zlet, z_sc]
      rw [← hi]
      simp [zcn, h0]
theorem M_entries (T : zS) : fX5_entries T (-1) = some (nI (zcn (pTh T) 16), T) := M_entries4 T 16 64 0 rfl (by decide)
theorem M_entF4 (T : zS) (v : Int32) (hv : ¬ v = -1) : ∀ (d n k : Nat), k + d = 16 → d < n → fX5_entries_4 n T v (nI (zcn (pTs T v) k)) (nI k) = some (nI (zcn (pTs T v) 16), T) := by
  intro d
  induction d with
  | zero =>
    intro n k hk hn
    obtain ⟨n, rfl⟩ := fu hn
    obtain rfl : k = 16 := by omega
    show bX5_entries_4 _ T _ _ _ = _
    unfold bX5_entries_4
    rw [if_pos z_16e]
  | succ d ih =>
    intro n k hk hn
    obtain ⟨n, rfl⟩ := fu hn
    have h16 : k < 16 := by omega
    show bX5_entries_4 _ T _ _ _ = _
    unfold bX5_entries_4
    rw [if_neg (z_16 h16), z_in16 h16, z_cl (by omega)]
    have hi := ih n (k + 1) (by omega) (by omega)
    by_cases h0 : T.2.1 0 k = 0
    · rw [if_pos h0]
      simp only [fX5_entries_39, fX5_entries_40, zlet, z_sc]
      rw [← hi]
      simp [zcn, h0]
    · rw [if_neg h0, if_neg hv, z_in16 h16]
      by_cases h1 : T.2.1 1 k = v
      · rw [if_pos h1]
        simp only [fX5_entries_35, fX5_entries_40, zlet, z_sc]
        rw [← hi]
        simp [zcn, h0, h1]
      · rw [if_neg h1]
        simp only [fX5_entries_39, fX5_entries_40, zlet, z_sc]
        rw [← hi]
        simp [zcn, h1]
theorem M_entF (T : zS) (v : Int32) (hv : ¬ v = -1) : fX5_entries T v = some (nI (zcn (pTs T v) 16), T) := M_entF4 T v hv 16 64 0 rfl (by decide)
abbrev pXf (S : zS) : Nat → Bool := fun k => decide (S.2.1 3 k = 1)
theorem X_fresh4 (S : zS) : ∀ (d n k : Nat), k + d = 16 → d < n → fX0_allFresh_4 n S (nI (zcn (pXf S) k)) (nI k) = some (nI (zcn (pXf S) 16), S) := by
  intro d
  induction d with
  | zero =>
    intro n k hk hn
    obtain ⟨n, rfl⟩ := fu hn
    obtain rfl : k = 16 := by omega
    show bX0_allFresh_4 _ S _ _ = _
    unfold bX0_allFresh_4
    rw [if_pos z_16e]
  | succ d ih =>
    intro n k hk hn
    obtain ⟨n, rfl⟩ := fu hn
    have h16 : k < 16 := by omega
    show bX0_allFresh_4 _ S _ _ = _
    unfold bX0_allFresh_4
    rw [if_neg (z_16 h16), z_in16 h16, z_cl (by omega)]
    have hi := ih n (k + 1) (by omega) (by omega)
    by_cases h0 : S.2.1 3 k = 1
    · rw [if_pos h0]
      simp only [fX0_allFresh_23, zlet, z_sc]
      rw [← hi]
      simp [zcn, h0]
    · rw [if_neg h0]
      simp only [fX0_allFresh_23, zlet, z_sc]
      rw [← hi]
      simp [zcn, h0]
theorem X_fresh (S : zS) : fX0_allFresh S = some (nI (zcn (pXf S) 16), S) := X_fresh4 S 16 64 0 rfl (by decide)
