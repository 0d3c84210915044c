/-! ===== entries: what one address's change keeps ===== -/
theorem Rel.kept {q c : Nat} {S T S' T' : zS} (h : Rel q c S T) (hS : fK S S') (hT : fKm T T') (hK : rK S' T') : Rel q c S' T' := by
  obtain ⟨⟨a1, a2⟩, ⟨b1, b2, b3, b4, b5, b6, b7, b8⟩, ⟨d1, d2, d3, d4, d5, d6⟩, hE, ⟨g1, g2⟩, -, ⟨n', ad, r1, r2, r3, r4, r5⟩, ⟨n, p, o1, o2, o3, o4, o5, o6, o7, o8⟩⟩ := h
  obtain ⟨s1, s2⟩ := hS
  obtain ⟨t1, t2⟩ := hT
  have e0 : pTh T' = pTh T := by funext k; simp only [pTh, t2 0 (by decide) (by decide)]
  refine ⟨⟨?_, ?_⟩, ⟨?_, ?_, ?_, ?_, ?_, ?_, ?_, ?_⟩, ⟨?_, ?_, ?_, ?_, ?_, ?_⟩, ?_, ⟨?_, ?_⟩, hK, ⟨n', ad, r1, ?_, ?_, r4, ?_⟩, ⟨n, p, o1, o2, ?_, ?_, ?_, ?_, ?_, ?_⟩⟩
  · rw [s1 0 (by decide)]; exact a1
  · rw [t1 0 (by decide)]; exact a2
  · rw [s1 1 (by decide), t1 4 (by decide)]; exact b1
  · rw [s1 2 (by decide), t1 5 (by decide)]; exact b2
  · rw [s1 3 (by decide), t1 6 (by decide)]; exact b3
  · rw [s1 4 (by decide), t1 7 (by decide)]; exact b4
  · unfold rTn at b5 ⊢; rw [s1 5 (by decide), t1 2 (by decide)]; exact b5
  · rw [s1 6 (by decide), t1 1 (by decide)]; exact b6
  · rw [s1 13 (by decide), t1 9 (by decide)]; exact b7
  · rw [s1 14 (by decide), t1 12 (by decide), s1 6 (by decide)]; exact b8
  · rw [s2 4 (by decide) (by decide), t2 2 (by decide) (by decide)]; exact d1
  · rw [s2 5 (by decide) (by decide), t2 3 (by decide) (by decide)]; exact d2
  · rw [s2 6 (by decide) (by decide), t2 4 (by decide) (by decide)]; exact d3
  · rw [s2 7 (by decide) (by decide), t2 5 (by decide) (by decide)]; exact d4
  · rw [s2 8 (by decide) (by decide), t2 6 (by decide) (by decide)]; exact d5
  · rw [s2 9 (by decide) (by decide), t2 7 (by decide) (by decide)]; exact d6
  · intro k hk
    have := hE k hk
    unfold rE1 at this ⊢
    rw [s2 8 (by decide) (by decide), s2 3 (by decide) (by decide), s2 4 (by decide) (by decide), s2 5 (by decide) (by decide), s2 6 (by decide) (by decide), t2 0 (by decide) (by decide), t2 1 (by decide) (by decide)]
    exact this
  · rw [s1 12 (by decide), e0]; exact g1
  · rw [e0]; exact g2
  · rw [s1 15 (by decide)]; exact r2
  · rw [s2 10 (by decide) (by decide), s2 11 (by decide) (by decide), s2 12 (by decide) (by decide), t2 9 (by decide) (by decide), t2 10 (by decide) (by decide)]; exact r3
  · rw [t2 8 (by decide) (by decide)]; exact r5
  · rw [s1 8 (by decide)]; exact o3
  · rw [t1 8 (by decide)]; exact o4
  · rw [s1 7 (by decide)]; exact o5
  · rw [s1 9 (by decide), t1 11 (by decide)]; exact o6
  · rw [s1 10 (by decide), t1 10 (by decide)]; exact o7
  · rw [s2 0 (by decide) (by decide), t2 13 (by decide) (by decide)]; exact o8
theorem Rel.ent {q q' c k : Nat} {S T S' T' : zS} (h : Rel q c S T) (hq : ∀ i, i ≠ k → i < 16 → (i = q ↔ i = q')) (s1 : ∀ j, j ≠ 12 → j ≠ 13 → j ≠ 14 → S'.1 j = S.1 j) (t1 : ∀ j, j ≠ 9 → j ≠ 12 → T'.1 j = T.1 j) (v1 : S'.1 13 = T'.1 9) (v2 : S'.1 14 = T'.1 12)
    (s2 : ∀ j, j < 3 ∨ 9 < j → S'.2.1 j = S.2.1 j) (t2 : ∀ j, 7 < j → T'.2.1 j = T.2.1 j) (hA : rA S' T') (s3 : ∀ j i, i ≠ k → i < 16 → 2 < j → j < 9 → j ≠ 7 → S'.2.1 j i = S.2.1 j i) (t3 : ∀ i, i ≠ k → i < 16 → T'.2.1 0 i = T.2.1 0 i ∧ T'.2.1 1 i = T.2.1 1 i) (hE : rE1 q' S' T' k) (hC : rC S' T') (ht : rTn q S T → rTn q' S T := by first | exact fun h => h | exact fun h => ⟨fun _ => h.1 (by omega), fun m e => absurd e (by omega)⟩) : Rel q' c S' T' := by
  obtain ⟨⟨a1, a2⟩, ⟨b1, b2, b3, b4, b5, b6, b7, b8⟩, -, hE0, -, ⟨n0, k1, k2, k3, k4⟩, ⟨n', ad, r1, r2, r3, r4, r5⟩, ⟨n, p, o1, o2, o3, o4, o5, o6, o7, o8⟩⟩ := h
  refine ⟨⟨?_, ?_⟩, ⟨?_, ?_, ?_, ?_, ?_, ?_, v1, v2, by rw [s1 6 (by decide) (by decide) (by decide)]; exact b8.2⟩, hA, ?_, hC, ⟨n0, k1, ?_, ?_, ?_⟩, ⟨n', ad, r1, ?_, ?_, r4, ?_⟩, ⟨n, p, o1, o2, ?_, ?_, ?_, ?_, ?_, ?_⟩⟩
  · rw [s1 0 (by decide) (by decide) (by decide)]; exact a1
  · rw [t1 0 (by decide) (by decide)]; exact a2
  · rw [s1 1 (by decide) (by decide) (by decide), t1 4 (by decide) (by decide)]; exact b1
  · rw [s1 2 (by decide) (by decide) (by decide), t1 5 (by decide) (by decide)]; exact b2
  · rw [s1 3 (by decide) (by decide) (by decide), t1 6 (by decide) (by decide)]; exact b3
  · rw [s1 4 (by decide) (by decide) (by decide), t1 7 (by decide) (by decide)]; exact b4
  · have b5 := ht b5
    unfold rTn at b5 ⊢; rw [s1 5 (by decide) (by decide) (by decide), t1 2 (by decide) (by decide)]; exact b5
  · rw [s1 6 (by decide) (by decide) (by decide), t1 1 (by decide) (by decide)]; exact b6
  · intro i hi
    by_cases hik : i = k
    · subst hik; exact hE
    · have := hE0 i hi
      unfold rE1 at this ⊢
      rw [s3 8 i hik hi (by decide) (by decide) (by decide), s3 3 i hik hi (by decide) (by decide) (by decide), s3 4 i hik hi (by decide) (by decide) (by decide), s3 5 i hik hi (by decide) (by decide) (by decide), s3 6 i hik hi (by decide) (by decide) (by decide), (t3 i hik hi).1, (t3 i hik hi).2]
      have e : (i = q) = (i = q') := propext (hq i hik hi)
      rw [← e]
      exact this
  · rw [s1 11 (by decide) (by decide) (by decide)]; exact k2
  · rw [t1 3 (by decide) (by decide)]; exact k3
  · rw [s2 1 (by decide), s2 2 (by decide), t2 11 (by decide), t2 12 (by decide)]; exact k4
  · rw [s1 15 (by decide) (by decide) (by decide)]; exact r2
  · rw [s2 10 (by decide), s2 11 (by decide), s2 12 (by decide), t2 9 (by decide), t2 10 (by decide)]; exact r3
  · rw [t2 8 (by decide)]; exact r5
  · rw [s1 8 (by decide) (by decide) (by decide)]; exact o3
  · rw [t1 8 (by decide) (by decide)]; exact o4
  · rw [s1 7 (by decide) (by decide) (by decide)]; exact o5
  · rw [s1 9 (by decide) (by decide) (by decide), t1 11 (by decide) (by decide)]; exact o6
  · rw [s1 10 (by decide) (by decide) (by decide), t1 10 (by decide) (by decide)]; exact o7
  · rw [s2 0 (by decide), t2 13 (by decide)]; exact o8
theorem rSt_ne {x : Prop} {s mk en tr wt : Int32} (h : rSt x s mk en tr wt) : ¬ s = -1 := by
  rcases h with h | h | h | h | h <;> (intro e; rw [h.1] at e; revert e; decide)
theorem Rel.there {q c k : Nat} {S T : zS} (h : Rel q c S T) (hk : k < 16) : (T.2.1 0 k = 0 ∧ S.2.1 3 k = -1 ∧ S.2.1 8 k = 0) ∨ (T.2.1 0 k = 1 ∧ S.2.1 3 k = T.2.1 1 k ∧ rSt (k = q) (S.2.1 3 k) (S.2.1 4 k) (S.2.1 5 k) (S.2.1 6 k) (S.2.1 8 k)) := (h.2.2.2.1 k hk).2
theorem X_has (S : zS) {k : Nat} (hk : k < 16) : fX0_has S (nI k) = some (if S.2.1 3 k = -1 then 0 else 1, S) := by
  unfold fX0_has
  rw [if_neg (z_neg (by omega)), if_neg (z_16 hk), z_in16 hk, z_cl (by omega)]
  split <;> rfl
theorem X_has1 {q c k : Nat} {S T : zS} (h : Rel q c S T) (hk : k < 16) (hp : T.2.1 0 k = 1) : fX0_has S (nI k) = some (1, S) := by
  rw [X_has S hk]
  rcases h.there hk with h1 | h1
  · rw [h1.1] at hp; exact absurd hp (by decide)
  · rw [if_neg (rSt_ne h1.2.2)]
theorem X_has0 {q c k : Nat} {S T : zS} (h : Rel q c S T) (hk : k < 16) (hp : T.2.1 0 k = 0) : fX0_has S (nI k) = some (0, S) := by
  rw [X_has S hk]
  rcases h.there hk with h1 | h1
  · rw [if_pos h1.2.1]
  · rw [h1.1] at hp; exact absurd hp (by decide)
theorem cnt_off {T T' : zS} {k : Nat} (hk : k < 16) (h1 : ¬ T.2.1 0 k = 0) (h2 : T'.2.1 0 k = 0) (h3 : ∀ i, i ≠ k → T'.2.1 0 i = T.2.1 0 i) : zcn (pTh T) 16 = zcn (pTh T') 16 + 1 := by
  have := zcn_on (p := pTh T') (q := pTh T) (k := k) (by simp [pTh, h2]) (by simp [pTh, h1]) (fun j hj => by simp [pTh, h3 j hj]) 16
  rw [this, if_pos hk]
theorem cnt_on {T T' : zS} {k : Nat} (hk : k < 16) (h1 : T.2.1 0 k = 0) (h2 : ¬ T'.2.1 0 k = 0) (h3 : ∀ i, i ≠ k → T'.2.1 0 i = T.2.1 0 i) : zcn (pTh T') 16 = zcn (pTh T) 16 + 1 := by
  have := zcn_on (p := pTh T) (q := pTh T') (k := k) (by simp [pTh, h1]) (by simp [pTh, h2]) (fun j hj => by simp [pTh, h3 j hj]) 16
  rw [this, if_pos hk]
theorem cnt_same {T T' : zS} (h : T'.2.1 0 = T.2.1 0) : zcn (pTh T') 16 = zcn (pTh T) 16 := by
  have : pTh T' = pTh T := by funext k; simp only [pTh, h]
  rw [this]
theorem sim_goes {q c k : Nat} {S T : zS} (h : Rel q c S T) (hk : k < 16) (hp : T.2.1 0 k = 1) : ∃ S' T', fX0_remove S (nI k) = some S' ∧ fX5_goes T (nI k) = some T' ∧ Rel q c S' T' ∧ (∀ i, T'.2.1 0 i = if i = k then 0 else T.2.1 0 i) ∧ (∀ i, i ≠ 12 → i ≠ 13 → i ≠ 14 → i ≠ 11 → S'.1 i = S.1 i) ∧ T'.2.1 8 = T.2.1 8 := by
  obtain ⟨d1, d2, d3, d4, d5, d6⟩ := h.2.2.1
  have hV := h.2.1
  obtain ⟨g1, g2⟩ := h.2.2.2.2.1
  have hne : ¬ T.2.1 0 k = 0 := by rw [hp]; decide
  have hcnt := cnt_off (T := T) (T' := zR T 0 k 0) hk hne (by simp [zR_2, ud_s]) (fun i hi => by simp [zR_2, ud_n hi])
  -- ahead of the hops
  have hR : Rel q c (zI (zI (zR (zR (zI S 13 (S.1 13 + S.2.1 8 k)) 8 k 0) 3 k (-1)) 12 (S.1 12 - 1)) 14 (S.1 14 + 1)) (zI (zR (zI (zR T 0 k 0) 9 (T.1 9 + T.2.1 6 k)) 6 k 0) 12 (T.1 12 + 1)) := by
    refine Rel.ent (k := k) h (fun i _ _ => Iff.rfl) (fun j a b d => by simp [zI_1, zR_1, a, b, d]) (fun j a b => by simp [zI_1, zR_1, a, b]) ?_ ?_ (fun j hj => by simp [zI_2, zR_2, show ¬ j = 3 by omega, show ¬ j = 8 by omega]) (fun j hj => by simp [zI_2, zR_2, show ¬ j = 0 by omega, show ¬ j = 6 by omega]) ?_ (fun j i hi _ a b d => ?_) (fun i hi _ => ?_) ?_ ?_
    · simp [zI_1, zR_1, hV.2.2.2.2.2.2.1, d5]
    · simp [zI_1, zR_1, hV.2.2.2.2.2.2.2.1]
    · refine ⟨by simp [zI_2, zR_2, d1], by simp [zI_2, zR_2, d2], by simp [zI_2, zR_2, d3], by simp [zI_2, zR_2, d4], by simp [zI_2, zR_2, d5], by simp [zI_2, zR_2, d6]⟩
    · by_cases h3 : j = 3
      · subst h3; simp [zI_2, zR_2, ud_n hi]
      · by_cases h8 : j = 8
        · subst h8; simp [zI_2, zR_2, ud_n hi]
        · simp [zI_2, zR_2, h3, h8]
    · simp [zI_2, zR_2, ud_n hi]
    · unfold rE1
      simp [zI_2, zR_2, ud_s]
    · refine ⟨?_, ?_⟩
      · have e : zcn (pTh (zI (zR (zI (zR T 0 k 0) 9 (T.1 9 + T.2.1 6 k)) 6 k 0) 12 (T.1 12 + 1))) 16 = zcn (pTh (zR T 0 k 0)) 16 := cnt_same rfl
        rw [e]
        simp only [zI_1, zR_1, show ¬ (12 : Nat) = 14 by decide, if_false, if_true]
        rw [g1, hcnt]
        exact nI_pred _
      · have e : zcn (pTh (zI (zR (zI (zR T 0 k 0) 9 (T.1 9 + T.2.1 6 k)) 6 k 0) 12 (T.1 12 + 1))) 16 = zcn (pTh (zR T 0 k 0)) 16 := cnt_same rfl
        rw [e]; omega
  obtain ⟨S', T', e1, e2, f1, f2, hK⟩ := sim_drop hR.2.2.2.2.2.1 (nI k)
  refine ⟨S', T', ?_, ?_, hR.kept f1 f2 hK, fun i => ?_, fun i a b d e => ?_, by rw [f2.2 8 (by decide) (by decide)]; simp [zI_2, zR_2]⟩
  · unfold fX0_remove
    rw [X_has1 h hk hp]
    simp only [obnd_s, show ¬ (1 : Int32) = 0 by decide, if_false, z_in16 hk, z_cl (show k < 1000 by omega), zlet_s]
    simp only [zI_1, zI_2, zR_1, zR_2, show ¬ (12 : Nat) = 13 by decide, show ¬ (14 : Nat) = 12 by decide, show ¬ (14 : Nat) = 13 by decide, if_false] at e1 ⊢
    rw [e1]; rfl
  · unfold fX5_goes
    simp only [z_in16 hk, z_cl (show k < 1000 by omega), zlet_s, z_b0]
    simp only [zI_1, zI_2, zR_1, zR_2, show ¬ (12 : Nat) = 9 by decide, show ¬ (6 : Nat) = 0 by decide, if_false] at e2 ⊢
    rw [e2]; rfl
  · rw [f2.2 0 (by decide) (by decide)]
    simp [zI_2, zR_2, upd]
  · rw [f1.1 i e]
    simp [zI_1, zR_1, a, b, d]
/-! ===== the stale one that gives way; room ===== -/
theorem sim_old4 {q c : Nat} {S T : zS} (h : Rel q c S T) : ∀ (d n k : Nat) (x : Int32), k + d = 16 → d < n → (x = -1 ∨ ∃ j, j < 16 ∧ x = nI j ∧ T.2.1 0 j = 1 ∧ S.2.1 3 j = 2) → ∃ v, fX0_longestUnused_4 n S x (nI k) = some (v, S) ∧ fX5_oldest_4 n T x (nI k) = some (v, T) ∧ (v = -1 ∨ ∃ j, j < 16 ∧ v = nI j ∧ T.2.1 0 j = 1 ∧ S.2.1 3 j = 2) := by
  intro d
  induction d with
  | zero =>
    intro n k x hk hn hx
    obtain ⟨n, rfl⟩ := fu hn
    obtain rfl : k = 16 := by omega
    refine ⟨x, ?_, ?_, hx⟩
    · show bX0_longestUnused_4 _ S _ _ = _
      unfold bX0_longestUnused_4
      rw [if_pos z_16e]
    · show bX5_oldest_4 _ T _ _ = _
      unfold bX5_oldest_4
      rw [if_pos z_16e]
  | succ d ih =>
    intro n k x hk hn hx
    obtain ⟨n, rfl⟩ := fu hn
    have h16 : k < 16 := by omega
    have hu := h.2.2.1.2.2.2.1
    show ∃ v, bX0_longestUnused_4 (fX0_longestUnused_4 n) S x (nI k) = some (v, S) ∧ bX5_oldest_4 (fX5_oldest_4 n) T x (nI k) = some (v, T) ∧ _
    unfold bX0_longestUnused_4 bX5_oldest_4
    rw [if_neg (z_16 h16), if_neg (z_16 h16)]
    simp only [z_in16 h16, z_cl (show k < 1000 by omega), fX0_longestUnused_40, fX0_longestUnused_42, fX5_oldest_33, fX5_oldest_34, fX5_oldest_59, fX5_oldest_63, fX5_oldest_64, zlet_s, z_sc, show ¬ (1 : Int32) = 0 by decide, if_false, if_true]
    have stay := ih n (k + 1) x (by omega) (by omega) hx
    rcases h.there h16 with ⟨p0, p1, -⟩ | ⟨p0, p1, p2⟩
    · rw [p1, p0, if_neg (by decide), if_pos rfl]
      exact stay
    · rw [p0, ← p1, if_neg (show ¬ (1 : Int32) = 0 by decide)]
      by_cases h2 : S.2.1 3 k = 2
      · rw [if_pos h2, if_pos h2]
        have take := ih n (k + 1) (nI k) (by omega) (by omega) (Or.inr ⟨k, h16, rfl, p0, h2⟩)
        rcases hx with rfl | ⟨j, hj, rfl, -, -⟩
        · rw [if_pos rfl, if_pos rfl]
          exact take
        · rw [if_neg (z_m1 (by omega)), if_neg (z_m1 (by omega)), z_in16 hj, z_in16 hj, z_cl (by omega), ← hu]
          by_cases hle : S.2.1 7 j ≤ S.2.1 7 k
          · rw [if_pos hle, if_pos hle]; exact stay
          · rw [if_neg hle, if_neg hle]; exact take
      · rw [if_neg h2, if_neg h2]
        exact stay
theorem sim_old {q c : Nat} {S T : zS} (h : Rel q c S T) : ∃ v, fX0_longestUnused S = some (v, S) ∧ fX5_oldest T = some (v, T) ∧ (v = -1 ∨ ∃ j, j < 16 ∧ v = nI j ∧ T.2.1 0 j = 1 ∧ S.2.1 3 j = 2) :=
  sim_old4 h 16 64 0 (-1) rfl (by decide) (Or.inl rfl)
theorem sim_room {q c : Nat} {S T : zS} (h : Rel q c S T) : ∃ b, fX0_hasRoom S = some (b, S) ∧ fX5_isRoom T = some (b, T) ∧ (b = 0 ∨ (b = 1 ∧ (zcn (pTh T) 16 < 5 ∨ ∃ j, j < 16 ∧ fX0_longestUnused S = some (nI j, S) ∧ fX5_oldest T = some (nI j, T) ∧ T.2.1 0 j = 1))) := by
  obtain ⟨g1, g2⟩ := h.2.2.2.2.1
  obtain ⟨v, e1, e2, e3⟩ := sim_old h
  unfold fX0_hasRoom fX5_isRoom
  rw [M_entries, g1, e1]
  simp only [obnd_s, e2, fX0_hasRoom_16, fX5_isRoom_17]
  by_cases hc : zcn (pTh T) 16 < 5
  · rw [if_pos (show nI _ < 5 from nI_lt (b := 5) hc (by decide)), if_pos (show nI _ < 5 from nI_lt (b := 5) hc (by decide))]
    exact ⟨1, rfl, rfl, Or.inr ⟨rfl, Or.inl hc⟩⟩
  · rw [if_neg (show ¬ nI _ < 5 from nI_nlt (b := 5) (by omega) (by omega)), if_neg (show ¬ nI _ < 5 from nI_nlt (b := 5) (by omega) (by omega))]
    rcases e3 with rfl | ⟨j, hj, rfl, h1, h2⟩
    · rw [if_pos rfl, if_pos rfl]
      exact ⟨0, rfl, rfl, Or.inl rfl⟩
    · rw [if_neg (z_m1 (by omega)), if_neg (z_m1 (by omega))]
      exact ⟨1, rfl, rfl, Or.inr ⟨rfl, Or.inr ⟨j, hj, rfl, rfl, h1⟩⟩⟩
/-- room is made: what is left to do is the coming itself -/
theorem sim_make {q c k : Nat} {S T : zS} (h : Rel q c S T) (hk : k < 16) (ha : T.2.1 0 k = 0) (hr : zcn (pTh T) 16 < 5 ∨ ∃ j, j < 16 ∧ fX0_longestUnused S = some (nI j, S) ∧ fX5_oldest T = some (nI j, T) ∧ T.2.1 0 j = 1) (st mk now mk' : Int32) : ∃ S' T', fX0_come S (nI k) st mk now = fX0_come_16 S' (nI k) st mk now ∧ fX5_comes T (nI k) mk' = fX5_comes_17 T' (nI k) mk' ∧ Rel q c S' T' ∧ T'.2.1 0 k = 0 ∧ zcn (pTh T') 16 ≤ 4 ∧ S'.1 15 = S.1 15 ∧ T'.2.1 8 = T.2.1 8 := by
  obtain ⟨g1, g2⟩ := h.2.2.2.2.1
  unfold fX0_come fX5_comes
  rw [M_entries, g1]
  simp only [obnd_s]
  by_cases hc : zcn (pTh T) 16 < 5
  · rw [if_pos (show nI _ < 5 from nI_lt (b := 5) hc (by decide)), if_neg (show ¬ nI (zcn (pTh T) 16) = (5 : Int32) from fun e => absurd ((z_eq (a := zcn (pTh T) 16) (b := 5) (by omega) (by omega)).mp e) (by omega))]
    exact ⟨S, T, rfl, rfl, h, ha, by omega, rfl, rfl⟩
  · have h5 : zcn (pTh T) 16 = 5 := by omega
    rw [h5, if_neg (by decide), if_pos (by decide)]
    rcases hr with hr | ⟨j, hj, e1, e2, e3⟩
    · exact absurd hr hc
    · rw [e1, e2]
      simp only [obnd_s]
      obtain ⟨S', T', a1, a2, a3, a4, a5, a6⟩ := sim_goes h hj e3
      rw [a1, a2]
      have hkj : k ≠ j := fun e => by rw [e, e3] at ha; exact absurd ha (by decide)
      refine ⟨S', T', rfl, rfl, a3, by rw [a4, if_neg hkj, ha], ?_, a5 15 (by decide) (by decide) (by decide) (by decide), a6⟩
      have := cnt_off (T := T) (T' := T') hj (by rw [e3]; decide) (by rw [a4, if_pos rfl]) (fun i hi => by rw [a4, if_neg hi])
      omega
