/-! ===== kept for a goal ===== -/
theorem sim_kept2 {n : Nat} {S T : zS} (hn : n ≤ 4) (h1 : S.1 11 = nI n) (h2 : T.1 3 = nI n) (h3 : ∀ i, i < n → S.2.1 1 i = T.2.1 11 i) (g : Int32) : ∀ (d f i : Nat), i + d = n → d < f → (∀ j, j < i → ¬ S.2.1 1 j = g) → ∃ v w, fX1_slotOf_2 f S g (nI i) = some (v, S) ∧ fX5_keptFor_2 f T g (nI i) = some (w, T) ∧ ((v = -1 ∧ w = nI n ∧ ∀ j, j < n → ¬ S.2.1 1 j = g) ∨ ∃ j, j < n ∧ v = nI j ∧ w = nI j ∧ S.2.1 1 j = g ∧ ∀ l, l < j → ¬ S.2.1 1 l = g) := by
  intro d
  induction d with
  | zero =>
    intro f i hi hf hj
    obtain ⟨f, rfl⟩ := fu hf
    obtain rfl : i = n := by omega
    show ∃ v w, bX1_slotOf_2 _ S _ _ = some (v, S) ∧ bX5_keptFor_2 _ T _ _ = some (w, T) ∧ _
    unfold bX1_slotOf_2 bX5_keptFor_2
    rw [h1, h2, if_pos ((z_le (by omega) (by omega)).mpr (by omega)), if_pos ((z_le (by omega) (by omega)).mpr (by omega))]
    exact ⟨-1, nI i, rfl, rfl, Or.inl ⟨rfl, rfl, hj⟩⟩
  | succ d ih =>
    intro f i hi hf hj
    obtain ⟨f, rfl⟩ := fu hf
    show ∃ v w, bX1_slotOf_2 (fX1_slotOf_2 f) S _ _ = some (v, S) ∧ bX5_keptFor_2 (fX5_keptFor_2 f) T _ _ = some (w, T) ∧ _
    unfold bX1_slotOf_2 bX5_keptFor_2
    rw [h1, h2, if_neg (fun e => absurd ((z_le (by omega) (by omega)).mp e) (by omega)), if_neg (fun e => absurd ((z_le (by omega) (by omega)).mp e) (by omega))]
    simp only [z_in4 (show i < 4 by omega), z_cl (show i < 1000 by omega), ← h3 i (by omega), zlet_s, z_sc]
    by_cases hg : S.2.1 1 i = g
    · rw [if_pos hg, if_pos hg]
      exact ⟨nI i, nI i, rfl, rfl, Or.inr ⟨i, by omega, rfl, rfl, hg, hj⟩⟩
    · rw [if_neg hg, if_neg hg]
      exact ih f (i + 1) (by omega) (by omega) (fun j hj2 => by
        by_cases hji : j = i
        · rw [hji]; exact hg
        · exact hj j (by omega))
theorem sim_kept {S T : zS} (h : rK S T) (g : Int32) : ∃ n v w, n ≤ 4 ∧ S.1 11 = nI n ∧ T.1 3 = nI n ∧ fX1_slotOf S g = some (v, S) ∧ fX5_keptFor T g = some (w, T) ∧ ((v = -1 ∧ w = nI n ∧ ∀ j, j < n → ¬ S.2.1 1 j = g) ∨ ∃ j, j < n ∧ v = nI j ∧ w = nI j ∧ S.2.1 1 j = g ∧ ∀ l, l < j → ¬ S.2.1 1 l = g) := by
  obtain ⟨n, h1, h2, h3, h4⟩ := h
  obtain ⟨v, w, a, b, d⟩ := sim_kept2 h1 h2 h3 (fun i hi => (h4 i hi).1) g n 64 0 (by omega) (by omega) (fun j hj => absurd hj (by omega))
  exact ⟨n, v, w, h1, h2, h3, a, b, d⟩
/-! ===== the least one of a kind ===== -/
def isM (P : Nat → Prop) (lo : Nat) (x : Int32) : Prop := (x = -1 ∧ ∀ a, lo ≤ a → a < 16 → ¬ P a) ∨ ∃ a, lo ≤ a ∧ a < 16 ∧ x = nI a ∧ P a ∧ ∀ b, lo ≤ b → b < 16 → P b → a ≤ b
theorem isM_uniq {P : Nat → Prop} {lo : Nat} {x y : Int32} (h : isM P lo x) (h' : isM P lo y) : x = y := by
  rcases h with ⟨e, a⟩ | ⟨a, a1, a2, a3, a4, a5⟩
  · rcases h' with ⟨e', -⟩ | ⟨b, b1, b2, b3, b4, b5⟩
    · rw [e, e']
    · exact absurd b4 (a b b1 b2)
  · rcases h' with ⟨e', b⟩ | ⟨b, b1, b2, b3, b4, b5⟩
    · exact absurd a4 (b a a1 a2)
    · have := a5 b b1 b2 b4
      have := b5 a a1 a2 a4
      have : a = b := by omega
      rw [a3, b3, this]
theorem isM_down {P : Nat → Prop} {k : Nat} {x : Int32} (hk : k < 16) (h : isM P (k + 1) x) : (P k → isM P k (nI k)) ∧ (¬ P k → isM P k x) := by
  refine ⟨fun hp => Or.inr ⟨k, Nat.le_refl _, hk, rfl, hp, fun b hb _ _ => hb⟩, fun hp => ?_⟩
  rcases h with ⟨e, a⟩ | ⟨a, a1, a2, a3, a4, a5⟩
  · refine Or.inl ⟨e, fun b hb hb2 hpb => ?_⟩
    by_cases hbk : b = k
    · rw [hbk] at hpb; exact hp hpb
    · exact a b (by omega) hb2 hpb
  · refine Or.inr ⟨a, by omega, a2, a3, a4, fun b hb hb2 hpb => ?_⟩
    by_cases hbk : b = k
    · rw [hbk] at hpb; exact absurd hpb hp
    · exact a5 b (by omega) hb2 hpb
theorem X_above4 {n : Nat} {ad : Nat → Nat} {S T : zS} (hr : rRn n ad S T) (b : Int32) : ∀ (d f i : Nat) (x : Int32), i + d = n → d < f → ((x = -1 ∧ ∀ j, j < i → ¬ b < nI (ad j)) ∨ ∃ j, j < i ∧ x = nI (ad j) ∧ b < nI (ad j) ∧ ∀ l, l < i → b < nI (ad l) → ad j ≤ ad l) → ∃ v, fX3_leastAbove_4 f S b x (nI i) = some (v, S) ∧ ((v = -1 ∧ ∀ j, j < n → ¬ b < nI (ad j)) ∨ ∃ j, j < n ∧ v = nI (ad j) ∧ b < nI (ad j) ∧ ∀ l, l < n → b < nI (ad l) → ad j ≤ ad l) := by
  obtain ⟨hn, h2, h3, -, -⟩ := hr
  intro d
  induction d with
  | zero =>
    intro f i x hi hf hx
    obtain ⟨f, rfl⟩ := fu hf
    obtain rfl : i = n := by omega
    show ∃ v, bX3_leastAbove_4 _ S _ _ _ = some (v, S) ∧ _
    unfold bX3_leastAbove_4
    rw [h2, if_pos ((z_le (by omega) (by omega)).mpr (by omega))]
    exact ⟨x, rfl, hx⟩
  | succ d ih =>
    intro f i x hi hf hx
    obtain ⟨f, rfl⟩ := fu hf
    show ∃ v, bX3_leastAbove_4 _ S _ _ _ = some (v, S) ∧ _
    unfold bX3_leastAbove_4
    obtain ⟨g1, g2, -⟩ := h3 i (by omega)
    rw [h2, if_neg (fun e => absurd ((z_le (by omega) (by omega)).mp e) (by omega))]
    simp only [z_in4 (show i < 4 by omega), z_cl (show i < 1000 by omega), zlet_s, g2, fX3_leastAbove_40, fX3_leastAbove_37, z_sc]
    have stay : ∀ (hno : b < nI (ad i) → ∃ j, j < i ∧ x = nI (ad j) ∧ b < nI (ad j) ∧ ad j ≤ ad i), _ := fun hno => ih f (i + 1) x (by omega) (by omega) (by
      rcases hx with ⟨e, a⟩ | ⟨j, a1, a2, a3, a4⟩
      · refine Or.inl ⟨e, fun j hj hb => ?_⟩
        by_cases hji : j = i
        · rw [hji] at hb
          obtain ⟨j', q1, q2, q3, q4⟩ := hno hb
          exact a j' q1 q3
        · exact a j (by omega) hb
      · refine Or.inr ⟨j, by omega, a2, a3, fun l hl hb => ?_⟩
        by_cases hli : l = i
        · rw [hli] at hb ⊢
          obtain ⟨j', q1, q2, q3, q4⟩ := hno hb
          have := a4 j' q1 q3
          omega
        · exact a4 l (by omega) hb)
    have take : ∀ (hb : b < nI (ad i)) (hlt : ∀ j, j < i → b < nI (ad j) → ad i ≤ ad j), _ := fun hb hlt => ih f (i + 1) (nI (ad i)) (by omega) (by omega) (Or.inr ⟨i, by omega, rfl, hb, fun l hl hbl => by
      by_cases hli : l = i
      · rw [hli]; exact Nat.le_refl _
      · exact hlt l (by omega) hbl⟩)
    by_cases hle : nI (ad i) ≤ b
    · rw [if_pos hle]
      exact stay (fun hb => absurd hle (Int32.not_le.mpr hb))
    · rw [if_neg hle]
      have hb : b < nI (ad i) := Int32.not_le.mp hle
      rcases hx with ⟨e, a⟩ | ⟨j, a1, a2, a3, a4⟩
      · rw [if_pos e]
        exact take hb (fun j hj hbj => absurd hbj (a j hj))
      · have g16 := (h3 j (by omega)).1
        rw [if_neg (by rw [a2]; exact z_m1 (by omega))]
        by_cases hc : x ≤ nI (ad i)
        · rw [if_pos hc]
          rw [a2] at hc
          exact stay (fun _ => ⟨j, a1, a2, a3, (z_le (by omega) (by omega)).mp hc⟩)
        · rw [if_neg hc]
          rw [a2] at hc
          have hc2 : ¬ ad j ≤ ad i := fun q => hc ((z_le (by omega) (by omega)).mpr q)
          exact take hb (fun l hl hbl => by have := a4 l hl hbl; omega)
theorem X_above {n : Nat} {ad : Nat → Nat} {S T : zS} (hr : rRn n ad S T) (b : Int32) : ∃ v, fX3_leastAbove S b = some (v, S) ∧ isM (fun a => T.2.1 8 a = 1 ∧ b < nI a) 0 v := by
  have hn := hr.1
  obtain ⟨v, a1, a2⟩ := X_above4 hr b n 64 0 (-1) (by omega) (by omega) (Or.inl ⟨rfl, fun j hj => absurd hj (by omega)⟩)
  refine ⟨v, a1, ?_⟩
  obtain ⟨-, -, h3, -, h5⟩ := hr
  rcases a2 with ⟨e, a⟩ | ⟨j, a1, a2, a3, a4⟩
  · refine Or.inl ⟨e, fun k _ hk ⟨e8, hb⟩ => ?_⟩
    obtain ⟨i, hi, rfl⟩ := (h5 k hk).2.mp e8
    exact a i hi hb
  · refine Or.inr ⟨ad j, by omega, (h3 j a1).1, a2, ⟨(h5 _ (h3 j a1).1).2.mpr ⟨j, a1, rfl⟩, a3⟩, fun k _ hk ⟨e8, hb⟩ => ?_⟩
    obtain ⟨i, hi, rfl⟩ := (h5 k hk).2.mp e8
    exact a4 i hi hb
theorem M_turn7 {T : zS} (h5 : ∀ k, k < 16 → T.2.1 8 k = 0 ∨ T.2.1 8 k = 1) : ∀ (m f : Nat) (x1 x2 x3 : Int32), m ≤ 16 → m < f → ((m = 0 ∧ x3 = -1) ∨ ∃ k, m = k + 1 ∧ x3 = nI k) → isM (fun a => T.2.1 8 a = 1) m x1 → isM (fun a => T.2.1 8 a = 1 ∧ ¬ T.1 2 = -1 ∧ T.1 2 < nI a) m x2 → ∃ l x, fX5_inTurn_7 f T x1 x2 x3 = some (if x = -1 then l else x, T) ∧ isM (fun a => T.2.1 8 a = 1) 0 l ∧ isM (fun a => T.2.1 8 a = 1 ∧ ¬ T.1 2 = -1 ∧ T.1 2 < nI a) 0 x := by
  intro m
  induction m with
  | zero =>
    intro f x1 x2 x3 hm hf h3 h1 h2
    obtain ⟨f, rfl⟩ := fu hf
    obtain rfl : x3 = -1 := by
      rcases h3 with h | ⟨k', h, -⟩
      · exact h.2
      · omega
    show ∃ l x, bX5_inTurn_7 _ T _ _ _ = some (_, T) ∧ _
    unfold bX5_inTurn_7
    rw [if_pos (by decide)]
    refine ⟨x1, x2, ?_, h1, h2⟩
    by_cases h : x2 = -1
    · rw [if_pos h, if_pos h]
    · rw [if_neg h, if_neg h]
  | succ m ih =>
    intro f x1 x2 x3 hm hf h3 h1 h2
    obtain ⟨f, rfl⟩ := fu hf
    obtain rfl : x3 = nI m := by
      rcases h3 with h | ⟨k', h, e⟩
      · omega
      · obtain rfl : m = k' := by omega
        exact e
    have h16 : m < 16 := by omega
    have hx : ((m = 0 ∧ nI m + (-1) = -1) ∨ ∃ k', m = k' + 1 ∧ nI m + (-1) = nI k') := by
      cases m with
      | zero => exact Or.inl ⟨rfl, by decide⟩
      | succ k => exact Or.inr ⟨k, rfl, pk_m1 k⟩
    show ∃ l x, bX5_inTurn_7 _ T _ _ _ = some (_, T) ∧ _
    unfold bX5_inTurn_7
    rw [if_neg (z_neg (by omega))]
    simp only [z_in16 h16, z_cl (show m < 1000 by omega), fX5_inTurn_25, fX5_inTurn_55, fX5_inTurn_56, zlet_s]
    have d1 := isM_down h16 h1
    have d2 := isM_down h16 h2
    rcases h5 m h16 with e | e
    · rw [if_pos e, if_pos e]
      exact ih f x1 x2 _ (by omega) (by omega) hx (d1.2 (fun q => by rw [e] at q; exact absurd q (by decide))) (d2.2 (fun q => by rw [e] at q; exact absurd q.1 (by decide)))
    · have ne : ¬ T.2.1 8 m = 0 := by rw [e]; decide
      rw [if_neg ne, if_neg ne]
      by_cases ht : T.1 2 = -1
      · rw [if_pos ht]
        exact ih f _ x2 _ (by omega) (by omega) hx (d1.1 e) (d2.2 (fun q => q.2.1 ht))
      · rw [if_neg ht]
        by_cases hle : nI m ≤ T.1 2
        · rw [if_pos hle]
          exact ih f _ x2 _ (by omega) (by omega) hx (d1.1 e) (d2.2 (fun q => absurd hle (Int32.not_le.mpr q.2.2)))
        · rw [if_neg hle]
          exact ih f _ _ _ (by omega) (by omega) hx (d1.1 e) (d2.1 ⟨e, ht, Int32.not_le.mp hle⟩)
theorem isM_iff {P Q : Nat → Prop} {x : Int32} (h : ∀ a, a < 16 → (P a ↔ Q a)) (hp : isM P 0 x) : isM Q 0 x := by
  rcases hp with ⟨e, a⟩ | ⟨a, a1, a2, a3, a4, a5⟩
  · exact Or.inl ⟨e, fun b b1 b2 b3 => a b b1 b2 ((h b b2).mpr b3)⟩
  · exact Or.inr ⟨a, a1, a2, a3, (h a a2).mp a4, fun b b1 b2 b3 => a5 b b1 b2 ((h b b2).mpr b3)⟩
theorem m1_lt {a : Nat} (h : a < 16) : (-1 : Int32) < nI a := by
  rw [Int32.lt_iff_toInt_lt, nI_toInt (by omega)]
  have : ((-1 : Int32)).toInt = -1 := by decide
  omega
theorem sim_turn {c : Nat} {S T : zS} (h : Rel 16 c S T) : ∃ v, fX4_nextInTurn S = some (v, S) ∧ fX5_inTurn T = some (v, T) ∧ ((v = -1 ∧ ∀ a, a < 16 → ¬ T.2.1 8 a = 1) ∨ ∃ a, a < 16 ∧ v = nI a ∧ T.2.1 8 a = 1) := by
  obtain ⟨n, ad, hr⟩ := h.2.2.2.2.2.2.1
  have hr : rRn n ad S T := hr
  have e5 : S.1 5 = T.1 2 := h.2.1.2.2.2.2.1.1 (Nat.le_refl 16)
  obtain ⟨u, a1, a2⟩ := X_above hr (T.1 2)
  obtain ⟨u0, b1, b2⟩ := X_above hr (-1)
  obtain ⟨l, x, c1, c2, c3⟩ := M_turn7 (T := T) (fun k hk => (hr.2.2.2.2 k hk).1) 16 64 (-1) (-1) 15 (by omega) (by omega) (Or.inr ⟨15, rfl, rfl⟩) (Or.inl ⟨rfl, fun a ha hb => absurd hb (by omega)⟩) (Or.inl ⟨rfl, fun a ha hb => absurd hb (by omega)⟩)
  have e0 : u0 = l := isM_uniq b2 (isM_iff (fun a ha => ⟨fun q => ⟨q, m1_lt ha⟩, fun q => q.1⟩) c2)
  have hres : ∀ v : Int32, (v = l ∨ (v = x ∧ ¬ x = -1)) → ((v = -1 ∧ ∀ a, a < 16 → ¬ T.2.1 8 a = 1) ∨ ∃ a, a < 16 ∧ v = nI a ∧ T.2.1 8 a = 1) := by
    intro v hv
    rcases hv with rfl | ⟨rfl, hne⟩
    · rcases c2 with ⟨q1, q2⟩ | ⟨a, q1, q2, q3, q4, q5⟩
      · exact Or.inl ⟨q1, fun a ha => q2 a (by omega) ha⟩
      · exact Or.inr ⟨a, q2, q3, q4⟩
    · rcases c3 with ⟨q1, q2⟩ | ⟨a, q1, q2, q3, q4, q5⟩
      · exact absurd q1 hne
      · exact Or.inr ⟨a, q2, q3, q4.1⟩
  have cM : fX5_inTurn T = some (if x = -1 then l else x, T) := c1
  unfold fX4_nextInTurn
  rw [e5, a1]
  simp only [obnd_s, zlet_s, b1]
  rw [cM]
  by_cases ht : T.1 2 = -1
  · have ex : x = -1 := by
      rcases c3 with ⟨q1, -⟩ | ⟨a, -, -, -, q4, -⟩
      · exact q1
      · exact absurd ht q4.2.1
    have eu : u = l := by
      rw [ht] at a2
      exact (isM_uniq a2 b2).trans e0
    rw [if_pos ex]
    by_cases hu : u = -1
    · rw [if_pos hu, e0]
      exact ⟨l, rfl, rfl, hres l (Or.inl rfl)⟩
    · rw [if_neg hu, eu]
      exact ⟨l, rfl, rfl, hres l (Or.inl rfl)⟩
  · have ex : u = x := isM_uniq a2 (isM_iff (fun a ha => ⟨fun q => ⟨q.1, q.2.2⟩, fun q => ⟨q.1, ht, q.2⟩⟩) c3)
    rw [ex]
    by_cases hu : x = -1
    · rw [if_pos hu, if_pos hu, e0]
      exact ⟨l, rfl, rfl, hres l (Or.inl rfl)⟩
    · rw [if_neg hu, if_neg hu]
      exact ⟨x, rfl, rfl, hres x (Or.inr ⟨rfl, hu⟩)⟩
/-! ===== the hop of a goal ===== -/
theorem X_isGood {q c n i : Nat} {ad : Nat → Nat} {S T : zS} (h : Rel q c S T) (hr : rRn n ad S T) (hi : i < n) : fX3_isGood S (nI i) = some (if gd T (ad i) then 1 else 0, S) := by
  obtain ⟨g1, g2, -⟩ := hr.2.2.1 i hi
  have hn := hr.1
  unfold fX3_isGood
  simp only [z_in4 (show i < 4 by omega), z_cl (show i < 1000 by omega), g2, X_hasMark h g1, obnd_s]
  cases gd T (ad i)
  · simp [zbl]
  · simp [zbl]
theorem sim_hop {c : Nat} {S T : zS} (h : Rel 16 c S T) (g : Int32) : ∃ su nx ho bt, fX4_sureHopOf S g = some (su, S) ∧ fX4_nextInTurn S = some (nx, S) ∧ fX5_hopNow T g = some (ho, T) ∧ fX5_isByTurn T g = some (bt, T) ∧ ho = (if su = -1 then nx else su) ∧ (ho = -1 ∨ ∃ k, k < 16 ∧ ho = nI k) ∧ ((bt = 1 ∧ su = -1) ∨ (bt = 0 ∧ (¬ su = -1 ∨ ho = -1))) := by
  obtain ⟨n, v, w, k1, k2, k3, k4, k5, k6⟩ := sim_kept h.2.2.2.2.2.1 g
  obtain ⟨nx, t1, t2, t3⟩ := sim_turn h
  obtain ⟨nr, ad, hr⟩ := h.2.2.2.2.2.2.1
  have hr : rRn nr ad S T := hr
  have hnr := hr.1
  have hcnt := hr.cnt
  have hB : fX5_isByTurn T g = (if w = nI n then (if nI nr ≤ 0 then some (0, T) else obnd (fX5_routerAt T 0) (fun y_3 S_3 => obnd (fX5_isGood S_3 y_3) (fun y_4 S_4 => if y_4 = 0 then some (1, S_4) else some (0, S_4)))) else some (0, T)) := by
    unfold fX5_isByTurn
    rw [k5]
    simp only [obnd_s, k3, M_routers, hcnt]
  unfold fX4_sureHopOf fX1_hopOf fX5_hopNow
  rw [k4, k5]
  simp only [obnd_s, zlet_s, k3, M_routers, hcnt]
  rcases k6 with ⟨rfl, rfl, -⟩ | ⟨j, hj, rfl, rfl, -, -⟩
  · rw [if_pos rfl] at hB ⊢
    rw [if_pos ((z_le (by omega) (by omega)).mpr (Nat.le_refl n))]
    simp only [obnd_s, if_true]
    by_cases h0 : nr = 0
    · subst h0
      rw [if_pos (by decide)] at hB
      obtain ⟨u, x1, x2⟩ := X_order h hr 0
      have hu : u = -1 := by
        rcases x2 with q | ⟨j, hj, -⟩
        · exact q.1
        · omega
      subst hu
      have hno : nx = -1 := by
        rcases t3 with q | ⟨a, ha, -, q⟩
        · exact q.1
        · obtain ⟨i, hi, -⟩ := (hr.2.2.2.2 a ha).2.mp q
          omega
      refine ⟨-1, nx, -1, 0, ?_, t1, ?_, hB, by rw [hno]; rfl, Or.inl rfl, Or.inr ⟨rfl, Or.inr rfl⟩⟩
      · unfold fX3_firstGood
        rw [x1]; rfl
      · rw [if_pos (show nI 0 = 0 from rfl)]
    · obtain ⟨i, hi, x1, x2⟩ := sim_at h hr (p := 0) (by omega)
      have x1' : fX3_slotInOrder S 0 = some (nI i, S) := x1
      have x2' : fX5_routerAt T 0 = some (nI (ad i), T) := x2
      have h16 := (hr.2.2.1 i hi).1
      have g2 := (hr.2.2.1 i hi).2.1
      have hp1 : ¬ nI nr = 0 := nI_ne0 (by omega) (by omega)
      have hp2 : ¬ nI nr ≤ 0 := nI_nle (by omega) (by omega)
      rw [if_neg hp2, x2'] at hB
      simp only [obnd_s, M_isGood T h16] at hB
      unfold fX3_firstGood
      rw [x1', if_neg hp1, hB]
      simp only [obnd_s, zlet_s, if_neg (z_m1 (show i < 1000000 by omega)), X_isGood h hr hi, z_in4 (show i < 4 by omega), z_cl (show i < 1000 by omega), g2]
      cases hg : gd T (ad i) with
      | true =>
        simp only [if_true, show ¬ (1 : Int32) = 0 by decide, if_false, obnd_s, x2']
        exact ⟨nI (ad i), nx, nI (ad i), 0, rfl, t1, rfl, rfl, by rw [if_neg (z_m1 (by omega))], Or.inr ⟨ad i, h16, rfl⟩, Or.inr ⟨rfl, Or.inl (z_m1 (by omega))⟩⟩
      | false =>
        simp only [if_true, Bool.false_eq_true, if_false, obnd_s, show ¬ (1 : Int32) = 0 by decide, t2]
        refine ⟨-1, nx, nx, 1, rfl, t1, rfl, rfl, by rw [if_pos rfl], ?_, Or.inl ⟨rfl, rfl⟩⟩
        rcases t3 with q | ⟨a, ha, e, -⟩
        · exact Or.inl q.1
        · exact Or.inr ⟨a, ha, e⟩
  · obtain ⟨n', m1, m2, m3, m4⟩ := h.2.2.2.2.2.1
    have hnn : n' = n := (z_eq (by omega) (by omega)).mp (m2.symm.trans k2)
    subst hnn
    obtain ⟨q1, q2, jj, q3, q4⟩ := m4 j hj
    rw [if_neg (fun e => absurd ((z_eq (by omega) (by omega)).mp e) (by omega))] at hB
    rw [if_neg (z_m1 (by omega)), if_neg (fun e => absurd ((z_le (by omega) (by omega)).mp e) (by omega))]
    simp only [z_in4 (show j < 4 by omega), z_cl (show j < 1000 by omega), obnd_s, ← q2, q4, if_neg (z_m1 (show jj < 1000000 by omega))]
    exact ⟨nI jj, nx, nI jj, 0, rfl, t1, rfl, hB, by rw [if_neg (z_m1 (by omega))], Or.inr ⟨jj, q3, rfl⟩, Or.inr ⟨rfl, Or.inl (z_m1 (by omega))⟩⟩
