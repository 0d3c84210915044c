/-! ===== one entry is set anew ===== -/
theorem Rel.en {q q' c k : Nat} {S T S' T' : zS} (h : Rel q c S T) (hq : ∀ i, i ≠ k → i < 16 → (i = q ↔ i = q')) (hp : T.2.1 0 k = 1) (s1 : ∀ j, S'.1 j = S.1 j) (t1 : ∀ j, T'.1 j = T.1 j) (s2 : ∀ j, j < 3 ∨ 9 < j → S'.2.1 j = S.2.1 j) (t2 : ∀ j, 7 < j → T'.2.1 j = T.2.1 j) (t0 : T'.2.1 0 = T.2.1 0) (hA : rA S' T') (s3 : ∀ j i, i ≠ k → 2 < j → j < 9 → j ≠ 7 → S'.2.1 j i = S.2.1 j i) (t3 : ∀ i, i ≠ k → T'.2.1 1 i = T.2.1 1 i) (hw : S'.2.1 8 k = 0 ∨ S'.2.1 8 k = 1 ∨ S'.2.1 8 k = 2 ∨ S'.2.1 8 k = 3) (hs : S'.2.1 3 k = T'.2.1 1 k) (hst : rSt (k = q') (S'.2.1 3 k) (S'.2.1 4 k) (S'.2.1 5 k) (S'.2.1 6 k) (S'.2.1 8 k)) (ht : rTn q S T → rTn q' S T := by first | exact fun h => h | exact fun h => ⟨fun _ => h.1 (by omega), fun m e => absurd e (by omega)⟩) : Rel q' c S' T' := by
  have hV := h.2.1
  obtain ⟨g1, g2⟩ := h.2.2.2.2.1
  refine Rel.ent (k := k) h hq (fun j _ _ _ => s1 j) (fun j _ _ => t1 j) (by rw [s1, t1]; exact hV.2.2.2.2.2.2.1) (by rw [s1, t1]; exact hV.2.2.2.2.2.2.2.1) s2 t2 hA (fun j i hi _ a b d => s3 j i hi a b d) (fun i hi _ => ⟨by rw [t0], t3 i hi⟩) ⟨hw, Or.inr ⟨by rw [t0]; exact hp, hs, hst⟩⟩ ⟨by rw [s1, cnt_same t0]; exact g1, by rw [cnt_same t0]; exact g2⟩ ht
theorem Rel.w03 {q c k : Nat} {S T : zS} (h : Rel q c S T) (hk : k < 16) : S.2.1 8 k = 0 ∨ S.2.1 8 k = 1 ∨ S.2.1 8 k = 2 ∨ S.2.1 8 k = 3 := (h.2.2.2.1 k hk).1
theorem Rel.at {q c k : Nat} {S T : zS} (h : Rel q c S T) (hk : k < 16) (hp : T.2.1 0 k = 1) : S.2.1 3 k = T.2.1 1 k ∧ rSt (k = q) (S.2.1 3 k) (S.2.1 4 k) (S.2.1 5 k) (S.2.1 6 k) (S.2.1 8 k) := by
  rcases h.there hk with h1 | h1
  · rw [h1.1] at hp; exact absurd hp (by decide)
  · exact h1.2
abbrev xE (S : zS) (k : Nat) (st en tr : Int32) : zS := zR (zR (zR S 3 k st) 5 k en) 6 k tr
abbrev mE (T : zS) (k : Nat) (st en tr : Int32) : zS := zR (zR (zR T 1 k st) 3 k en) 4 k tr
theorem Rel.set {q q' c k : Nat} {S T : zS} (h : Rel q c S T) (hq : ∀ i, i ≠ k → i < 16 → (i = q ↔ i = q')) (hk : k < 16) (hp : T.2.1 0 k = 1) {st en tr : Int32} (hst : rSt (k = q') st (S.2.1 4 k) en tr (S.2.1 8 k)) (ht : rTn q S T → rTn q' S T := by first | exact fun h => h | exact fun h => ⟨fun _ => h.1 (by omega), fun m e => absurd e (by omega)⟩) : Rel q' c (xE S k st en tr) (mE T k st en tr) := by
  obtain ⟨d1, d2, d3, d4, d5, d6⟩ := h.2.2.1
  refine Rel.en (k := k) h hq hp (fun j => rfl) (fun j => rfl) (fun j hj => by simp [zR_2, show ¬ j = 3 by omega, show ¬ j = 5 by omega, show ¬ j = 6 by omega]) (fun j hj => by simp [zR_2, show ¬ j = 1 by omega, show ¬ j = 3 by omega, show ¬ j = 4 by omega]) (by simp [zR_2]) ⟨by simp [zR_2, d1], by simp [zR_2, d2], by simp [zR_2, d3], by simp [zR_2, d4], by simp [zR_2, d5], by simp [zR_2, d6]⟩ (fun j i hi a b d => ?_) (fun i hi => by simp [zR_2, ud_n hi]) (by simp [zR_2]; exact h.w03 hk) (by simp [zR_2, ud_s]) (by simp [zR_2, ud_s]; exact hst) ht
  by_cases h3 : j = 3
  · subst h3; simp [zR_2, ud_n hi]
  · by_cases h5 : j = 5
    · subst h5; simp [zR_2, ud_n hi]
    · by_cases h6 : j = 6
      · subst h6; simp [zR_2, ud_n hi]
      · simp [zR_2, h3, h5, h6]
/-- the mark and the state -/
theorem Rel.setm {q q' c k : Nat} {S T : zS} (h : Rel q c S T) (hq : ∀ i, i ≠ k → i < 16 → (i = q ↔ i = q')) (hk : k < 16) (hp : T.2.1 0 k = 1) {mk st en tr : Int32} (hst : rSt (k = q') st mk en tr (S.2.1 8 k)) (ht : rTn q S T → rTn q' S T := by first | exact fun h => h | exact fun h => ⟨fun _ => h.1 (by omega), fun m e => absurd e (by omega)⟩) : Rel q' c (xE (zR S 4 k mk) k st en tr) (mE (zR T 2 k mk) k st en tr) := by
  obtain ⟨d1, d2, d3, d4, d5, d6⟩ := h.2.2.1
  refine Rel.en (k := k) h hq hp (fun j => rfl) (fun j => rfl) (fun j hj => by simp [zR_2, show ¬ j = 3 by omega, show ¬ j = 4 by omega, show ¬ j = 5 by omega, show ¬ j = 6 by omega]) (fun j hj => by simp [zR_2, show ¬ j = 1 by omega, show ¬ j = 2 by omega, show ¬ j = 3 by omega, show ¬ j = 4 by omega]) (by simp [zR_2]) ⟨by simp [zR_2, d1], by simp [zR_2, d2], by simp [zR_2, d3], by simp [zR_2, d4], by simp [zR_2, d5], by simp [zR_2, d6]⟩ (fun j i hi a b d => ?_) (fun i hi => by simp [zR_2, ud_n hi]) (by simp [zR_2]; exact h.w03 hk) (by simp [zR_2, ud_s]) (by simp [zR_2, ud_s]; exact hst) ht
  by_cases h3 : j = 3
  · subst h3; simp [zR_2, ud_n hi]
  · by_cases h5 : j = 5
    · subst h5; simp [zR_2, ud_n hi]
    · by_cases h6 : j = 6
      · subst h6; simp [zR_2, ud_n hi]
      · by_cases h4 : j = 4
        · subst h4; simp [zR_2, ud_n hi]
        · simp [zR_2, h3, h4, h5, h6]
/-- the tries and the end -/
theorem Rel.te {q c k : Nat} {S T : zS} (h : Rel q c S T) (hk : k < 16) (hp : T.2.1 0 k = 1) {en tr : Int32} (hst : rSt (k = q) (S.2.1 3 k) (S.2.1 4 k) en tr (S.2.1 8 k)) : Rel q c (zR (zR S 6 k tr) 5 k en) (zR (zR T 4 k tr) 3 k en) := by
  obtain ⟨d1, d2, d3, d4, d5, d6⟩ := h.2.2.1
  refine Rel.en (k := k) h (fun _ _ _ => Iff.rfl) hp (fun j => rfl) (fun j => rfl) (fun j hj => by simp [zR_2, show ¬ j = 5 by omega, show ¬ j = 6 by omega]) (fun j hj => by simp [zR_2, show ¬ j = 3 by omega, show ¬ j = 4 by omega]) (by simp [zR_2]) ⟨by simp [zR_2, d1], by simp [zR_2, d2], by simp [zR_2, d3], by simp [zR_2, d4], by simp [zR_2, d5], by simp [zR_2, d6]⟩ (fun j i hi a b d => ?_) (fun i hi => by simp [zR_2]) (by simp [zR_2]; exact h.w03 hk) (by simp [zR_2]; exact (h.at hk hp).1) (by simp [zR_2, ud_s]; exact hst)
  by_cases h5 : j = 5
  · subst h5; simp [zR_2, ud_n hi]
  · by_cases h6 : j = 6
    · subst h6; simp [zR_2, ud_n hi]
    · simp [zR_2, h5, h6]
theorem Rel.used {q c k : Nat} {S T : zS} (h : Rel q c S T) (hk : k < 16) (hp : T.2.1 0 k = 1) (v : Int32) : Rel q c (zR S 7 k v) (zR T 5 k v) := by
  obtain ⟨d1, d2, d3, d4, d5, d6⟩ := h.2.2.1
  exact Rel.en (k := k) h (fun _ _ _ => Iff.rfl) hp (fun j => rfl) (fun j => rfl) (fun j hj => by simp [zR_2, show ¬ j = 7 by omega]) (fun j hj => by simp [zR_2, show ¬ j = 5 by omega]) (by simp [zR_2]) ⟨by simp [zR_2, d1], by simp [zR_2, d2], by simp [zR_2, d3], by simp [zR_2, d4], by simp [zR_2, d5], by simp [zR_2, d6]⟩ (fun j i hi a b d => by simp [zR_2, d]) (fun i hi => by simp [zR_2]) (by simp [zR_2]; exact h.w03 hk) (by simp [zR_2]; exact (h.at hk hp).1) (by simp [zR_2]; exact (h.at hk hp).2)
/-- nothing waits any more -/
theorem Rel.w0 {c k : Nat} {S T : zS} (h : Rel k c S T) (hk : k < 16) (hp : T.2.1 0 k = 1) (hs : ¬ S.2.1 3 k = 0) : Rel 16 c (zR S 8 k 0) (zR T 6 k 0) := by
  obtain ⟨d1, d2, d3, d4, d5, d6⟩ := h.2.2.1
  refine Rel.en (k := k) h (fun i hi hi2 => ⟨fun e => absurd e hi, fun e => by omega⟩) hp (fun j => rfl) (fun j => rfl) (fun j hj => by simp [zR_2, show ¬ j = 8 by omega]) (fun j hj => by simp [zR_2, show ¬ j = 6 by omega]) (by simp [zR_2]) ⟨by simp [zR_2, d1], by simp [zR_2, d2], by simp [zR_2, d3], by simp [zR_2, d4], by simp [zR_2, d5], by simp [zR_2, d6]⟩ (fun j i hi a b d => ?_) (fun i hi => by simp [zR_2]) (by simp [zR_2, ud_s]) (by simp [zR_2]; exact (h.at hk hp).1) ?_
  · by_cases h8 : j = 8
    · subst h8; simp [zR_2, ud_n hi]
    · simp [zR_2, h8]
  · simp [zR_2, ud_s]
    have := (h.at hk hp).2
    unfold rSt at this ⊢
    rcases this with e | e | e | e | e
    · exact absurd e.1 hs
    · exact Or.inr (Or.inl ⟨e.1, Or.inr rfl⟩)
    · exact Or.inr (Or.inr (Or.inl ⟨e.1, e.2.1, Or.inr rfl⟩))
    · exact Or.inr (Or.inr (Or.inr (Or.inl ⟨e.1, e.2.1, Or.inr rfl⟩)))
    · exact Or.inr (Or.inr (Or.inr (Or.inr ⟨e.1, e.2.1, Or.inr rfl⟩)))
theorem X_become (S : zS) {k : Nat} (hk : k < 16) (st en : Int32) : fX0_become S (nI k) st en = some (xE S k st en 0) := by
  unfold fX0_become
  simp only [z_in16 hk, z_cl (show k < 1000 by omega), zlet_s]
theorem M_become (T : zS) {k : Nat} (hk : k < 16) (st ti : Int32) : fX5_become T (nI k) st ti = some (mE T k st (if ti = 0 then -1 else T.1 0 + ti) (if st = 0 ∨ st = 4 then 1 else 0)) := by
  unfold fX5_become
  simp only [z_in16 hk, z_cl (show k < 1000 by omega), zlet_s, fX5_become_26, fX5_become_41, fX5_become_46, zR_1]
  by_cases h0 : ti = 0 <;> by_cases h1 : st = 0 <;> by_cases h4 : st = 4 <;> simp [h0, h1, h4]
theorem X_fresh_ (S : zS) {k : Nat} (hk : k < 16) (now : Int32) : fX0_becomeFresh S (nI k) now = some (xE S k 1 (now + 30) 0) := by
  unfold fX0_becomeFresh; rw [X_become S hk]; rfl
theorem X_stale_ (S : zS) {k : Nat} (hk : k < 16) : fX0_becomeStale S (nI k) = some (xE S k 2 (-1) 0) := by
  unfold fX0_becomeStale; rw [X_become S hk]; rfl
theorem M_fresh_ (T : zS) {k c : Nat} (hk : k < 16) (hc : T.1 0 = nI c) : fX5_become T (nI k) 1 30 = some (mE T k 1 (nI c + 30) 0) := by
  rw [M_become T hk, hc]; rfl
theorem M_stale_ (T : zS) {k : Nat} (hk : k < 16) : fX5_become T (nI k) 2 0 = some (mE T k 2 (-1) 0) := by
  rw [M_become T hk]; rfl
theorem ex16 {k i : Nat} (hi : i ≠ k) (h : i < 16) : i = 16 ↔ i = k := ⟨fun e => by omega, fun e => absurd e hi⟩
/-! ===== held letters go out ===== -/
theorem fO.zR {S S' : zS} (h : fO S S') {j i : Nat} {v : Int32} (hj : j ≠ 0) : fO (zR S j i v) (zR S' j i v) := by
  refine ⟨h.1, fun p hp => ?_⟩
  simp only [zR_2]
  rw [h.2 j hj, h.2 p hp]
theorem fOm.zR {S S' : zS} (h : fOm S S') {j i : Nat} {v : Int32} (hj : j ≠ 13) : fOm (zR S j i v) (zR S' j i v) := by
  refine ⟨h.1, fun p hp => ?_⟩
  simp only [zR_2]
  rw [h.2 j hj, h.2 p hp]
theorem fO.trans {S S' S'' : zS} (h : fO S S') (h' : fO S' S'') : fO S S'' := ⟨fun j a b d e => (h'.1 j a b d e).trans (h.1 j a b d e), fun j a => (h'.2 j a).trans (h.2 j a)⟩
theorem fOm.trans {S S' S'' : zS} (h : fOm S S') (h' : fOm S' S'') : fOm S S'' := ⟨fun j a b d => (h'.1 j a b d).trans (h.1 j a b d), fun j a => (h'.2 j a).trans (h.2 j a)⟩
theorem fO.rf (S : zS) : fO S S := ⟨fun _ _ _ _ _ => rfl, fun _ _ => rfl⟩
theorem fOm.rf (S : zS) : fOm S S := ⟨fun _ _ _ _ => rfl, fun _ _ => rfl⟩
theorem w_nI {x : Int32} (h : x = 0 ∨ x = 1 ∨ x = 2 ∨ x = 3) : ∃ w, w ≤ 3 ∧ x = nI w := by
  rcases h with rfl | rfl | rfl | rfl
  · exact ⟨0, by decide, rfl⟩
  · exact ⟨1, by decide, rfl⟩
  · exact ⟨2, by decide, rfl⟩
  · exact ⟨3, by decide, rfl⟩
theorem sim_held7 {q c k w : Nat} (hk : k < 16) (hw : w ≤ 3) : ∀ (d n i : Nat) (S T : zS), Rel q c S T → S.2.1 8 k = nI w → i + d = w → d < n → ∃ S' T', fX0_heldGoOut_7 n S (nI k) (nI c) (nI (k * 3)) (nI i) = some (zR S' 8 k 0) ∧ fX5_letGo_2 n T (nI k) (nI i) = some (zR T' 6 k 0) ∧ Rel q c S' T' ∧ fO S S' ∧ fOm T T' := by
  intro d
  induction d with
  | zero =>
    intro n i S T h hS hi hn
    obtain ⟨n, rfl⟩ := fu hn
    have hT : T.2.1 6 k = nI w := by rw [← h.2.2.1.2.2.2.2.1]; exact hS
    refine ⟨S, T, ?_, ?_, h, fO.rf S, fOm.rf T⟩
    · show bX0_heldGoOut_7 _ S _ _ _ _ = _
      unfold bX0_heldGoOut_7
      simp only [z_in16 hk, z_cl (show k < 1000 by omega), hS, zlet_s]
      rw [if_pos ((z_le (by omega) (by omega)).mpr (by omega))]
    · show bX5_letGo_2 _ T _ _ = _
      unfold bX5_letGo_2
      simp only [z_in16 hk, z_cl (show k < 1000 by omega), hT, zlet_s]
      rw [if_pos ((z_le (by omega) (by omega)).mpr (by omega))]
  | succ d ih =>
    intro n i S T h hS hi hn
    obtain ⟨n, rfl⟩ := fu hn
    obtain ⟨d1, d2, d3, d4, d5, d6⟩ := h.2.2.1
    have hT : T.2.1 6 k = nI w := by rw [← d5]; exact hS
    obtain ⟨S1, T1, a1, a2, a3, a4, a5⟩ := h.go 0 (nI k) (S.2.1 4 k) (S.2.1 9 (k * 3 + i)) (nI c) rfl
    obtain ⟨S', T', b1, b2, b3, b4, b5⟩ := ih n (i + 1) S1 T1 a5 (by rw [a3.2 8 (by decide)]; exact hS) (by omega) (by omega)
    refine ⟨S', T', ?_, ?_, b3, a3.trans b4, a4.trans b5⟩
    · show bX0_heldGoOut_7 _ S _ _ _ _ = _
      unfold bX0_heldGoOut_7 fX0_letterGoesOut
      simp only [z_in16 hk, z_cl (show k < 1000 by omega), hS, zlet_s, z_p, z_in48 (show k * 3 + i < 48 by omega), z_cl (show k * 3 + i < 1000 by omega), a1, obnv_s, z_sc]
      rw [if_neg (fun e => absurd ((z_le (by omega) (by omega)).mp e) (by omega))]
      exact b1
    · show bX5_letGo_2 _ T _ _ = _
      unfold bX5_letGo_2
      simp only [z_in16 hk, z_cl (show k < 1000 by omega), hT, zlet_s, z_m3', z_p, show 3 * k + i = k * 3 + i by omega, z_in48 (show k * 3 + i < 48 by omega), z_cl (show k * 3 + i < 1000 by omega), ← d1, ← d6, a2, obnv_s, z_sc]
      rw [if_neg (fun e => absurd ((z_le (by omega) (by omega)).mp e) (by omega))]
      exact b2
theorem sim_held {q c k : Nat} {S T : zS} (h : Rel q c S T) (hk : k < 16) : ∃ S' T', fX0_heldGoOut S (nI k) (nI c) = some (zR S' 8 k 0) ∧ fX5_letGo T (nI k) = some (zR T' 6 k 0) ∧ Rel q c S' T' ∧ fO S S' ∧ fOm T T' := by
  obtain ⟨w, hw, e⟩ := w_nI (h.w03 hk)
  unfold fX0_heldGoOut fX5_letGo
  simp only [zlet_s, z_m3]
  exact sim_held7 hk hw w 64 0 S T h e (by omega) (by omega)
