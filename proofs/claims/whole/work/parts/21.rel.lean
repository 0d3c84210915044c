/-! ===== how a state S of the class and a state T of the reference belong together ===== -/
def rSt (x : Prop) (s mk en tr wt : Int32) : Prop :=
  (s = 0 ∧ (x ∨ mk = 0) ∧ (tr = 1 ∨ tr = 2 ∨ tr = 3)) ∨ (s = 1 ∧ (x ∨ wt = 0)) ∨ (s = 2 ∧ en = -1 ∧ (x ∨ wt = 0)) ∨ (s = 3 ∧ tr = 0 ∧ (x ∨ wt = 0)) ∨ (s = 4 ∧ (tr = 1 ∨ tr = 2 ∨ tr = 3) ∧ (x ∨ wt = 0))
def rE1 (q : Nat) (S T : zS) (k : Nat) : Prop := (S.2.1 8 k = 0 ∨ S.2.1 8 k = 1 ∨ S.2.1 8 k = 2 ∨ S.2.1 8 k = 3) ∧ ((T.2.1 0 k = 0 ∧ S.2.1 3 k = -1 ∧ S.2.1 8 k = 0) ∨ (T.2.1 0 k = 1 ∧ S.2.1 3 k = T.2.1 1 k ∧ rSt (k = q) (S.2.1 3 k) (S.2.1 4 k) (S.2.1 5 k) (S.2.1 6 k) (S.2.1 8 k)))
def rE (q : Nat) (S T : zS) : Prop := ∀ k, k < 16 → rE1 q S T k
def rA (S T : zS) : Prop := S.2.1 4 = T.2.1 2 ∧ S.2.1 5 = T.2.1 3 ∧ S.2.1 6 = T.2.1 4 ∧ S.2.1 7 = T.2.1 5 ∧ S.2.1 8 = T.2.1 6 ∧ S.2.1 9 = T.2.1 7
/-- whose turn it was: the same; or (17 + m) the reference's is m already -/
def rTn (q : Nat) (S T : zS) : Prop := (q ≤ 16 → S.1 5 = T.1 2) ∧ ∀ m, q = 17 + m → T.1 2 = nI m
def rV (q : Nat) (S T : zS) : Prop := S.1 1 = T.1 4 ∧ S.1 2 = T.1 5 ∧ S.1 3 = T.1 6 ∧ S.1 4 = T.1 7 ∧ rTn q S T ∧ S.1 6 = T.1 1 ∧ S.1 13 = T.1 9 ∧ S.1 14 = T.1 12 ∧ (S.1 6 = 0 ∨ S.1 6 = 1)
def rC (S T : zS) : Prop := S.1 12 = nI (zcn (pTh T) 16) ∧ zcn (pTh T) 16 ≤ 5
def rK (S T : zS) : Prop := ∃ n : Nat, n ≤ 4 ∧ S.1 11 = nI n ∧ T.1 3 = nI n ∧ ∀ i, i < n → S.2.1 1 i = T.2.1 11 i ∧ S.2.1 2 i = T.2.1 12 i ∧ ∃ j : Nat, j < 16 ∧ S.2.1 2 i = nI j
def rO (S T : zS) : Prop := ∃ n q : Nat, n ≤ 10 ∧ q < 10 ∧ S.1 8 = nI n ∧ T.1 8 = nI n ∧ S.1 7 = nI q ∧ S.1 9 = T.1 11 ∧ S.1 10 = T.1 10 ∧ ∀ i, i < n → ∀ w, w < 5 → S.2.1 0 ((q + 10 - i) % 10 * 5 + w) = T.2.1 13 (5 * i + w)
def rR (S T : zS) : Prop := ∃ (n : Nat) (ad : Nat → Nat), n ≤ 4 ∧ S.1 15 = nI n ∧ (∀ i, i < n → ad i < 16 ∧ S.2.1 10 i = nI (ad i) ∧ S.2.1 11 i = T.2.1 9 (ad i) ∧ S.2.1 12 i = T.2.1 10 (ad i) ∧ (S.2.1 11 i = -1 ∨ S.2.1 11 i = 0 ∨ S.2.1 11 i = 1)) ∧ (∀ i j, i < n → j < n → ad i = ad j → i = j) ∧ ∀ k, k < 16 → (T.2.1 8 k = 0 ∨ T.2.1 8 k = 1) ∧ (T.2.1 8 k = 1 ↔ ∃ i, i < n ∧ ad i = k)
def rCl (c : Nat) (S T : zS) : Prop := S.1 0 = nI c ∧ T.1 0 = nI c
def Rel (q c : Nat) (S T : zS) : Prop := rCl c S T ∧ rV q S T ∧ rA S T ∧ rE q S T ∧ rC S T ∧ rK S T ∧ rR S T ∧ rO S T
/-- only what goes out has changed -/
def fO (S S' : zS) : Prop := (∀ j, j ≠ 7 → j ≠ 8 → j ≠ 9 → j ≠ 10 → S'.1 j = S.1 j) ∧ ∀ j, j ≠ 0 → S'.2.1 j = S.2.1 j
def fOm (T T' : zS) : Prop := (∀ j, j ≠ 8 → j ≠ 10 → j ≠ 11 → T'.1 j = T.1 j) ∧ ∀ j, j ≠ 13 → T'.2.1 j = T.2.1 j
theorem Rel.out {q c : Nat} {S T S' T' : zS} (h : Rel q c S T) (hS : fO S S') (hT : fOm T T') (hO : rO S' T') : Rel q c S' T' := by
  obtain ⟨⟨a1, a2⟩, ⟨b1, b2, b3, b4, b5, b6, b7, b8⟩, ⟨d1, d2, d3, d4, d5, d6⟩, hE, ⟨g1, g2⟩, ⟨n, k1, k2, k3, k4⟩, ⟨n', ad, r1, r2, r3, r4, r5⟩, -⟩ := h
  obtain ⟨s1, s2⟩ := hS
  obtain ⟨t1, t2⟩ := hT
  have e0 : pTh T' = pTh T := by funext k; simp only [pTh, t2 0 (by decide)]
  refine ⟨⟨?_, ?_⟩, ⟨?_, ?_, ?_, ?_, ?_, ?_, ?_, ?_⟩, ⟨?_, ?_, ?_, ?_, ?_, ?_⟩, ?_, ⟨?_, ?_⟩, ⟨n, k1, ?_, ?_, ?_⟩, ⟨n', ad, r1, ?_, ?_, r4, ?_⟩, hO⟩
  · rw [s1 0 (by decide) (by decide) (by decide) (by decide)]; exact a1
  · rw [t1 0 (by decide) (by decide) (by decide)]; exact a2
  · rw [s1 1 (by decide) (by decide) (by decide) (by decide), t1 4 (by decide) (by decide) (by decide)]; exact b1
  · rw [s1 2 (by decide) (by decide) (by decide) (by decide), t1 5 (by decide) (by decide) (by decide)]; exact b2
  · rw [s1 3 (by decide) (by decide) (by decide) (by decide), t1 6 (by decide) (by decide) (by decide)]; exact b3
  · rw [s1 4 (by decide) (by decide) (by decide) (by decide), t1 7 (by decide) (by decide) (by decide)]; exact b4
  · unfold rTn at b5 ⊢; rw [s1 5 (by decide) (by decide) (by decide) (by decide), t1 2 (by decide) (by decide) (by decide)]; exact b5
  · rw [s1 6 (by decide) (by decide) (by decide) (by decide), t1 1 (by decide) (by decide) (by decide)]; exact b6
  · rw [s1 13 (by decide) (by decide) (by decide) (by decide), t1 9 (by decide) (by decide) (by decide)]; exact b7
  · rw [s1 14 (by decide) (by decide) (by decide) (by decide), t1 12 (by decide) (by decide) (by decide), s1 6 (by decide) (by decide) (by decide) (by decide)]; exact b8
  · rw [s2 4 (by decide), t2 2 (by decide)]; exact d1
  · rw [s2 5 (by decide), t2 3 (by decide)]; exact d2
  · rw [s2 6 (by decide), t2 4 (by decide)]; exact d3
  · rw [s2 7 (by decide), t2 5 (by decide)]; exact d4
  · rw [s2 8 (by decide), t2 6 (by decide)]; exact d5
  · rw [s2 9 (by decide), t2 7 (by decide)]; exact d6
  · intro k hk
    have := hE k hk
    unfold rE1 at this ⊢
    rw [s2 8 (by decide), s2 3 (by decide), s2 4 (by decide), s2 5 (by decide), s2 6 (by decide), t2 0 (by decide), t2 1 (by decide)]
    exact this
  · rw [s1 12 (by decide) (by decide) (by decide) (by decide), e0]; exact g1
  · rw [e0]; exact g2
  · rw [s1 11 (by decide) (by decide) (by decide) (by decide)]; exact k2
  · rw [t1 3 (by decide) (by decide) (by decide)]; exact k3
  · rw [s2 1 (by decide), s2 2 (by decide), t2 11 (by decide), t2 12 (by decide)]; exact k4
  · rw [s1 15 (by decide) (by decide) (by decide) (by decide)]; exact r2
  · rw [s2 10 (by decide), s2 11 (by decide), s2 12 (by decide), t2 9 (by decide), t2 10 (by decide)]; exact r3
  · rw [t2 8 (by decide)]; exact r5
/-! ===== out ===== -/
theorem z_m5 (a : Nat) : nI a * (5 : Int32) = nI (a * 5) := pk_mul a 5
theorem z_m5' (a : Nat) : (5 : Int32) * nI a = nI (5 * a) := pk_mul 5 a
theorem z_m3 (a : Nat) : nI a * (3 : Int32) = nI (a * 3) := pk_mul a 3
theorem z_m3' (a : Nat) : (3 : Int32) * nI a = nI (3 * a) := pk_mul 3 a
theorem z_p (a b : Nat) : nI a + nI b = nI (a + b) := nI_add a b
theorem z_p2 (a : Nat) : nI a + (2 : Int32) = nI (a + 2) := nI_add a 2
theorem z_p3 (a : Nat) : nI a + (3 : Int32) = nI (a + 3) := nI_add a 3
theorem z_p4 (a : Nat) : nI a + (4 : Int32) = nI (a + 4) := nI_add a 4
theorem z_p5 (a : Nat) : nI a + (5 : Int32) = nI (a + 5) := nI_add a 5
theorem X_add20 (S : zS) (s a m l t : Int32) {q n : Nat} (hq : q < 10) (hn : n ≤ 10) (h8 : S.1 8 = nI n) : ∃ S', fX2_add_20 S s a m l t (nI q) = some S' ∧ fO S S' ∧ S'.1 7 = nI q ∧ S'.1 8 = nI (min (n + 1) 10) ∧ S'.1 9 = S.1 9 + 1 ∧ S'.1 10 = S.1 10 + (if s = 0 then 1 else 0) ∧ S'.2.1 0 = upd (upd (upd (upd (upd (S.2.1 0) (q * 5) s) (q * 5 + 1) a) (q * 5 + 2) m) (q * 5 + 3) l) (q * 5 + 4) t := by
  unfold fX2_add_20
  simp only [zlet_s, show (zI S 7 (nI q)).1 7 = nI q from rfl, z_m5, z_sc, z_p2, z_p3, z_p4, z_in50 (show q * 5 < 50 by omega), z_in50 (show q * 5 + 1 < 50 by omega), z_in50 (show q * 5 + 2 < 50 by omega), z_in50 (show q * 5 + 3 < 50 by omega), z_in50 (show q * 5 + 4 < 50 by omega), z_cl (show q * 5 < 1000 by omega), z_cl (show q * 5 + 1 < 1000 by omega), z_cl (show q * 5 + 2 < 1000 by omega), z_cl (show q * 5 + 3 < 1000 by omega), z_cl (show q * 5 + 4 < 1000 by omega), zR_1, fX2_add_100]
  have fin : ∀ (S1 : zS), (∀ j, j ≠ 7 → j ≠ 8 → S1.1 j = S.1 j) → (∀ j, j ≠ 0 → S1.2.1 j = S.2.1 j) → S1.1 7 = nI q → S1.1 8 = nI (min (n + 1) 10) → S1.2.1 0 = upd (upd (upd (upd (upd (S.2.1 0) (q * 5) s) (q * 5 + 1) a) (q * 5 + 2) m) (q * 5 + 3) l) (q * 5 + 4) t → ∃ S', (if s = 0 then some (zI (zI S1 9 (S1.1 9 + 1)) 10 ((zI S1 9 (S1.1 9 + 1)).1 10 + 1)) else some (zI S1 9 (S1.1 9 + 1))) = some S' ∧ fO S S' ∧ S'.1 7 = nI q ∧ S'.1 8 = nI (min (n + 1) 10) ∧ S'.1 9 = S.1 9 + 1 ∧ S'.1 10 = S.1 10 + (if s = 0 then 1 else 0) ∧ S'.2.1 0 = upd (upd (upd (upd (upd (S.2.1 0) (q * 5) s) (q * 5 + 1) a) (q * 5 + 2) m) (q * 5 + 3) l) (q * 5 + 4) t := by
    intro S1 a1 a2 a3 a4 a5
    by_cases hs : s = 0
    · rw [if_pos hs, if_pos hs]
      refine ⟨_, rfl, ⟨fun j h1 h2 h3 h4 => by simp [zI_1, h3, h4, a1 j h1 h2], fun j h1 => by simp [zI_2, a2 j h1]⟩, by simp [zI_1, a3], by simp [zI_1, a4], by simp [zI_1, a1 9 (by decide) (by decide)], by simp [zI_1, a1 10 (by decide) (by decide)], by simp [zI_2, a5]⟩
    · rw [if_neg hs, if_neg hs]
      refine ⟨_, rfl, ⟨fun j h1 h2 h3 h4 => by simp [zI_1, h3, a1 j h1 h2], fun j h1 => by simp [zI_2, a2 j h1]⟩, by simp [zI_1, a3], by simp [zI_1, a4], by simp [zI_1, a1 9 (by decide) (by decide)], by simp [zI_1, a1 10 (by decide) (by decide)], by simp [zI_2, a5]⟩
  by_cases h10 : n = 10
  · have e : (10 : Int32) ≤ (zI S 7 (nI q)).1 8 := by rw [zI_1, if_neg (by decide), h8, h10]; decide
    have em : min (n + 1) 10 = n := by omega
    rw [if_pos e]
    refine fin _ (fun j h1 h2 => by simp [zR_1, zI_1, h1]) (fun j h1 => by simp [zR_2, zI_2, h1]) (by simp [zR_1, zI_1]) (by simp [zR_1, zI_1, em, h8]) (by simp [zR_2, zI_2])
  · have e : ¬ (10 : Int32) ≤ (zI S 7 (nI q)).1 8 := by rw [zI_1, if_neg (by decide), h8]; exact nI_ge (b := 10) (by omega) (by decide)
    have em : min (n + 1) 10 = n + 1 := by omega
    rw [if_neg e]
    refine fin _ (fun j h1 h2 => by simp [zR_1, zI_1, h1, h2]) (fun j h1 => by simp [zR_2, zI_2, h1]) (by simp [zR_1, zI_1]) (by simp [zR_1, zI_1, em, h8, z_sc]) (by simp [zR_2, zI_2])
theorem X_add (S : zS) (s a m l t : Int32) {q n : Nat} (hq : q < 10) (hn : n ≤ 10) (h7 : S.1 7 = nI q) (h8 : S.1 8 = nI n) : ∃ S', fX2_add S s a m l t = some S' ∧ fO S S' ∧ S'.1 7 = nI ((q + 1) % 10) ∧ S'.1 8 = nI (min (n + 1) 10) ∧ S'.1 9 = S.1 9 + 1 ∧ S'.1 10 = S.1 10 + (if s = 0 then 1 else 0) ∧ S'.2.1 0 = upd (upd (upd (upd (upd (S.2.1 0) ((q + 1) % 10 * 5) s) ((q + 1) % 10 * 5 + 1) a) ((q + 1) % 10 * 5 + 2) m) ((q + 1) % 10 * 5 + 3) l) ((q + 1) % 10 * 5 + 4) t := by
  unfold fX2_add
  rw [h7]
  by_cases h9 : q < 9
  · rw [if_pos (show nI q < 9 from nI_lt (b := 9) h9 (by decide)), z_sc, Nat.mod_eq_of_lt (show q + 1 < 10 by omega)]
    exact X_add20 S s a m l t (by omega) hn h8
  · obtain rfl : q = 9 := by omega
    rw [if_neg (by decide)]
    exact X_add20 S s a m l t (q := 0) (by omega) hn h8
theorem M_goOut28 (x1 x2 x3 x4 : Int32) (N : Nat) : ∀ (k n : Nat) (T : zS) (x6 : Int32), k ≤ 45 → k < n → ((k = 0 ∧ x6 = -1) ∨ ∃ k', k = k' + 1 ∧ x6 = nI k') → ∃ T', fX5_goOut_28 n T x1 x2 x3 x4 (nI N) x6 = some T' ∧ fOm T T' ∧ T'.1 8 = nI (N + 1) ∧ T'.1 11 = T.1 11 + 1 ∧ T'.1 10 = T.1 10 + (if x1 = 0 then 1 else 0) ∧ T'.2.1 13 0 = x1 ∧ T'.2.1 13 1 = x2 ∧ T'.2.1 13 2 = x3 ∧ T'.2.1 13 3 = x4 ∧ T'.2.1 13 4 = T.1 0 ∧ (∀ i, i < k → T'.2.1 13 (i + 5) = T.2.1 13 i) ∧ ∀ i, k + 5 ≤ i → T'.2.1 13 i = T.2.1 13 i := by
  intro k
  induction k with
  | zero =>
    intro n T x6 hk hn h6
    obtain ⟨n, rfl⟩ := fu hn
    obtain rfl : x6 = -1 := by
      rcases h6 with h | ⟨k', h, -⟩
      · exact h.2
      · omega
    show ∃ T', bX5_goOut_28 _ T x1 x2 x3 x4 (nI N) (-1) = some T' ∧ _
    unfold bX5_goOut_28
    rw [if_pos (by decide)]
    simp only [zlet_s, show (0 : Int32) = nI 0 from rfl, show (1 : Int32) = nI 1 from rfl, show (2 : Int32) = nI 2 from rfl, show (3 : Int32) = nI 3 from rfl, show (4 : Int32) = nI 4 from rfl, z_in50 (show 0 < 50 by decide), z_in50 (show 1 < 50 by decide), z_in50 (show 2 < 50 by decide), z_in50 (show 3 < 50 by decide), z_in50 (show 4 < 50 by decide), z_cl (show 0 < 1000 by decide), z_cl (show 1 < 1000 by decide), z_cl (show 2 < 1000 by decide), z_cl (show 3 < 1000 by decide), z_cl (show 4 < 1000 by decide), zR_1, zI_1, fX5_goOut_126]
    by_cases hs : x1 = nI 0
    · rw [if_pos hs, if_pos hs]
      refine ⟨_, rfl, ⟨fun j h1 h2 h3 => by simp [zI_1, zR_1, h1, h2, h3], fun j h1 => by simp [zI_2, zR_2, h1]⟩, by simp [zI_1, z_p], by simp [zI_1, zR_1], by simp [zI_1, zR_1], ?_, ?_, ?_, ?_, ?_, fun i hi => absurd hi (by omega), fun i hi => ?_⟩
      all_goals simp [zI_2, zR_2, upd]
      simp [show ¬ i = 4 by omega, show ¬ i = 3 by omega, show ¬ i = 2 by omega, show ¬ i = 1 by omega, show ¬ i = 0 by omega]
    · rw [if_neg hs, if_neg hs]
      refine ⟨_, rfl, ⟨fun j h1 h2 h3 => by simp [zI_1, zR_1, h1, h2, h3], fun j h1 => by simp [zI_2, zR_2, h1]⟩, by simp [zI_1, z_p], by simp [zI_1, zR_1], by simp [zI_1, zR_1], ?_, ?_, ?_, ?_, ?_, fun i hi => absurd hi (by omega), fun i hi => ?_⟩
      all_goals simp [zI_2, zR_2, upd]
      simp [show ¬ i = 4 by omega, show ¬ i = 3 by omega, show ¬ i = 2 by omega, show ¬ i = 1 by omega, show ¬ i = 0 by omega]
  | succ k ih =>
    intro n T x6 hk hn h6
    obtain ⟨n, rfl⟩ := fu hn
    obtain rfl : x6 = nI k := by
      rcases h6 with h | ⟨k', h, e⟩
      · omega
      · obtain rfl : k = k' := by omega
        exact e
    show ∃ T', bX5_goOut_28 _ T x1 x2 x3 x4 (nI N) (nI k) = some T' ∧ _
    unfold bX5_goOut_28
    rw [if_neg (z_neg (by omega)), z_in50 (by omega), z_p5, z_in50 (by omega)]
    simp only [zlet_s, z_cl (show k < 1000 by omega), z_cl (show k + 5 < 1000 by omega)]
    obtain ⟨T', e1, ⟨f1, f2⟩, e2, e3, e4, e5, e6, e7, e8, e9, e10, e11⟩ := ih n (zR T 13 (k + 5) (T.2.1 13 k)) (nI k + (-1)) (by omega) (by omega) (by
      cases k with
      | zero => exact Or.inl ⟨rfl, by decide⟩
      | succ k => exact Or.inr ⟨k, rfl, pk_m1 k⟩)
    refine ⟨T', e1, ⟨fun j h1 h2 h3 => by rw [f1 j h1 h2 h3]; rfl, fun j h1 => by rw [f2 j h1, zR_2, if_neg h1]⟩, e2, e3, e4, e5, e6, e7, e8, e9, fun i hi => ?_, fun i hi => ?_⟩
    · by_cases hik : i = k
      · subst hik
        rw [e11 (i + 5) (by omega), zR_2, if_pos rfl, ud_s]
      · rw [e10 i (by omega), zR_2, if_pos rfl, ud_n (by omega)]
    · rw [e11 i (by omega), zR_2, if_pos rfl, ud_n (by omega)]
theorem M_goOut (T : zS) (s a m l : Int32) {n : Nat} (hn : n ≤ 10) (h8 : T.1 8 = nI n) : ∃ T', fX5_goOut T s a m l = some T' ∧ fOm T T' ∧ T'.1 8 = nI (min n 9 + 1) ∧ T'.1 11 = T.1 11 + 1 ∧ T'.1 10 = T.1 10 + (if s = 0 then 1 else 0) ∧ T'.2.1 13 0 = s ∧ T'.2.1 13 1 = a ∧ T'.2.1 13 2 = m ∧ T'.2.1 13 3 = l ∧ T'.2.1 13 4 = T.1 0 ∧ ∀ i, i < 5 * min n 9 → T'.2.1 13 (i + 5) = T.2.1 13 i := by
  have key : ∀ k, k ≤ 9 → ∃ T', fX5_goOut_18 T s a m l (nI k) = some T' ∧ fOm T T' ∧ T'.1 8 = nI (k + 1) ∧ T'.1 11 = T.1 11 + 1 ∧ T'.1 10 = T.1 10 + (if s = 0 then 1 else 0) ∧ T'.2.1 13 0 = s ∧ T'.2.1 13 1 = a ∧ T'.2.1 13 2 = m ∧ T'.2.1 13 3 = l ∧ T'.2.1 13 4 = T.1 0 ∧ ∀ i, i < 5 * k → T'.2.1 13 (i + 5) = T.2.1 13 i := by
    intro k hk
    unfold fX5_goOut_18
    simp only [zlet_s, z_m5']
    obtain ⟨T', e1, e2, e3, e4, e5, e6, e7, e8, e9, e10, e11, -⟩ := M_goOut28 s a m l k (5 * k) 64 T (nI (5 * k) - 1) (by omega) (by omega) (by
      cases k with
      | zero => exact Or.inl ⟨rfl, by decide⟩
      | succ k => exact Or.inr ⟨5 * k + 4, by omega, nI_pred (5 * k + 4)⟩)
    exact ⟨T', e1, e2, e3, e4, e5, e6, e7, e8, e9, e10, e11⟩
  unfold fX5_goOut
  rw [h8]
  by_cases h10 : n = 10
  · subst h10
    rw [if_pos (by decide)]
    exact key 9 (by omega)
  · rw [if_neg (show ¬ (10 : Int32) ≤ nI n from nI_ge (b := 10) (by omega) (by decide)), Nat.min_eq_left (by omega)]
    exact key n (by omega)
theorem sim_out {S T : zS} (h : rO S T) (s a m l t : Int32) (ht : T.1 0 = t) : ∃ S' T', fX2_add S s a m l t = some S' ∧ fX5_goOut T s a m l = some T' ∧ fO S S' ∧ fOm T T' ∧ rO S' T' := by
  obtain ⟨n, q, hn, hq, h1, h2, h3, h4, h5, h6⟩ := h
  obtain ⟨S', a1, a2, a3, a4, a5, a6, a7⟩ := X_add S s a m l t hq hn h3 h1
  obtain ⟨T', b1, b2, b3, b4, b5, c0, c1, c2, c3, c4, c5⟩ := M_goOut T s a m l hn h2
  refine ⟨S', T', a1, b1, a2, b2, min (n + 1) 10, (q + 1) % 10, by omega, by omega, a4, by rw [b3]; congr 1; omega, a3, by rw [a5, b4, h4], by rw [a6, b5, h5], fun i hi w hw => ?_⟩
  rw [a7]
  by_cases hi0 : i = 0
  · subst hi0
    have e : ((q + 1) % 10 + 10 - 0) % 10 * 5 = (q + 1) % 10 * 5 := by omega
    rw [e]
    have hw5 : w = 0 ∨ w = 1 ∨ w = 2 ∨ w = 3 ∨ w = 4 := by omega
    rcases hw5 with rfl | rfl | rfl | rfl | rfl
    · simp [upd, c0]
    · simp [upd, c1]
    · simp [upd, c2]
    · simp [upd, c3]
    · simp [upd, c4, ht]
  · obtain ⟨i, rfl⟩ : ∃ j, i = j + 1 := ⟨i - 1, by omega⟩
    have e : ((q + 1) % 10 + 10 - (i + 1)) % 10 = (q + 10 - i) % 10 := by omega
    have e2 : (q + 10 - i) % 10 ≠ (q + 1) % 10 := by omega
    rw [e]
    rw [ud_n (by omega), ud_n (by omega), ud_n (by omega), ud_n (by omega), ud_n (by omega)]
    rw [h6 i (by omega) w hw, show 5 * (i + 1) + w = 5 * i + w + 5 by omega, c5 (5 * i + w) (by omega)]
theorem Rel.go {q c : Nat} {S T : zS} (h : Rel q c S T) (s a m l t : Int32) (ht : t = nI c) : ∃ S' T', fX2_add S s a m l t = some S' ∧ fX5_goOut T s a m l = some T' ∧ fO S S' ∧ fOm T T' ∧ Rel q c S' T' := by
  obtain ⟨S', T', h1, h2, h3, h4, h5⟩ := sim_out h.2.2.2.2.2.2.2 s a m l t (by rw [ht]; exact h.1.2)
  exact ⟨S', T', h1, h2, h3, h4, h.out h3 h4 h5⟩
