/-! ===== a letter is held ===== -/
theorem Rel.lt {q c k : Nat} {S T : zS} (h : Rel q c S T) (hk : k < 16) (hp : T.2.1 0 k = 1) (hs : S.2.1 3 k = 0) {S' T' : zS} (w : Int32) (hw : w = 0 ∨ w = 1 ∨ w = 2 ∨ w = 3) (s1 : ∀ j, j ≠ 13 → S'.1 j = S.1 j) (t1 : ∀ j, j ≠ 9 → T'.1 j = T.1 j) (v1 : S'.1 13 = T'.1 9) (s2 : ∀ j, j ≠ 8 → j ≠ 9 → S'.2.1 j = S.2.1 j) (t2 : ∀ j, j ≠ 6 → j ≠ 7 → T'.2.1 j = T.2.1 j) (s8 : S'.2.1 8 = upd (S.2.1 8) k w) (t6 : T'.2.1 6 = upd (T.2.1 6) k w) (hl : S'.2.1 9 = T'.2.1 7) : Rel q c S' T' := by
  obtain ⟨d1, d2, d3, d4, d5, d6⟩ := h.2.2.1
  have hV := h.2.1
  obtain ⟨g1, g2⟩ := h.2.2.2.2.1
  have t0 := t2 0 (by decide) (by decide)
  have hat := h.at hk hp
  refine Rel.ent (k := k) h (fun _ _ _ => Iff.rfl) (fun j _ a _ => s1 j a) (fun j a _ => t1 j a) v1 (by rw [s1 14 (by decide), t1 12 (by decide)]; exact hV.2.2.2.2.2.2.2.1) (fun j hj => s2 j (by omega) (by omega)) (fun j hj => t2 j (by omega) (by omega)) ⟨?_, ?_, ?_, ?_, ?_, hl⟩ (fun j i hi _ a b d => ?_) (fun i hi _ => ⟨by rw [t0], by rw [t2 1 (by decide) (by decide)]⟩) ⟨?_, Or.inr ⟨by rw [t0]; exact hp, ?_, ?_⟩⟩ ⟨by rw [s1 12 (by decide), cnt_same t0]; exact g1, by rw [cnt_same t0]; exact g2⟩
  · rw [s2 4 (by decide) (by decide), t2 2 (by decide) (by decide)]; exact d1
  · rw [s2 5 (by decide) (by decide), t2 3 (by decide) (by decide)]; exact d2
  · rw [s2 6 (by decide) (by decide), t2 4 (by decide) (by decide)]; exact d3
  · rw [s2 7 (by decide) (by decide), t2 5 (by decide) (by decide)]; exact d4
  · rw [s8, t6, d5]
  · by_cases h8 : j = 8
    · subst h8; rw [s8, ud_n hi]
    · rw [s2 j h8 (by omega)]
  · rw [s8, ud_s]; exact hw
  · rw [s2 3 (by decide) (by decide), t2 1 (by decide) (by decide)]; exact hat.1
  · rw [s2 3 (by decide) (by decide), s2 4 (by decide) (by decide), s2 5 (by decide) (by decide), s2 6 (by decide) (by decide), s8, ud_s]
    have := hat.2
    unfold rSt at this ⊢
    rcases this with e | e | e | e | e
    · exact Or.inl e
    all_goals (rw [hs] at e; exact absurd e.1 (by decide))
theorem X_hold43 (S : zS) (l : Int32) {k : Nat} (hk : k < 16) : fX0_hold_43 64 S l (nI (k * 3)) (nI (k * 3)) = some (2, zI (zR (zR (zR S 9 (k * 3) (S.2.1 9 (k * 3 + 1))) 9 (k * 3 + 1) ((zR S 9 (k * 3) (S.2.1 9 (k * 3 + 1))).2.1 9 (k * 3 + 2))) 9 (k * 3 + 2) l) 13 (S.1 13 + 1)) := by
  have e2 : nI (k * 3) + (3 : Int32) - 1 = nI (k * 3 + 2) := by rw [z_p3]; exact nI_pred _
  show bX0_hold_43 (fX0_hold_43 63) S l _ _ = _
  unfold bX0_hold_43
  simp only [e2, zlet_s, z_sc, z_in48 (show k * 3 < 48 by omega), z_in48 (show k * 3 + 1 < 48 by omega), z_cl (show k * 3 < 1000 by omega), z_cl (show k * 3 + 1 < 1000 by omega)]
  rw [if_neg (fun e => absurd ((z_le (by omega) (by omega)).mp e) (by omega))]
  show bX0_hold_43 (fX0_hold_43 62) _ l _ _ = _
  unfold bX0_hold_43
  simp only [e2, zlet_s, z_sc, show k * 3 + 1 + 1 = k * 3 + 2 from rfl, z_in48 (show k * 3 + 1 < 48 by omega), z_in48 (show k * 3 + 2 < 48 by omega), z_cl (show k * 3 + 1 < 1000 by omega), z_cl (show k * 3 + 2 < 1000 by omega)]
  rw [if_neg (fun e => absurd ((z_le (by omega) (by omega)).mp e) (by omega))]
  show bX0_hold_43 (fX0_hold_43 61) _ l _ _ = _
  unfold bX0_hold_43
  simp only [e2, zlet_s, z_in48 (show k * 3 + 2 < 48 by omega), z_cl (show k * 3 + 2 < 1000 by omega)]
  rw [if_pos ((z_le (by omega) (by omega)).mpr (by omega))]
  rfl
theorem X_holdF {S : zS} {k : Nat} (hk : k < 16) (l : Int32) (e : S.2.1 8 k = nI 3) : ∃ S', fX0_hold S (nI k) l = some (2, S') ∧ (∀ j, j ≠ 13 → S'.1 j = S.1 j) ∧ S'.1 13 = S.1 13 + 1 ∧ (∀ j, j ≠ 9 → S'.2.1 j = S.2.1 j) ∧ S'.2.1 9 = upd (upd (upd (S.2.1 9) (k * 3) (S.2.1 9 (k * 3 + 1))) (k * 3 + 1) (S.2.1 9 (k * 3 + 2))) (k * 3 + 2) l := by
  have e0 : fX0_hold S (nI k) l = fX0_hold_43 64 S l (nI (k * 3)) (nI (k * 3)) := by
    unfold fX0_hold
    simp only [zlet_s, z_m3, z_in16 hk, z_cl (show k < 1000 by omega), e]
    rw [if_pos (by decide)]
  rw [e0, X_hold43 S l hk]
  refine ⟨_, rfl, fun j hj => by simp [zI_1, zR_1, hj], by simp [zI_1], fun j hj => by simp [zI_2, zR_2, hj], ?_⟩
  simp [zI_2, zR_2, upd]
theorem M_holdF {T : zS} {k : Nat} (hk : k < 16) (l : Int32) (e : T.2.1 6 k = nI 3) : ∃ T', fX5_hold T (nI k) l = some (1, T') ∧ (∀ j, j ≠ 9 → T'.1 j = T.1 j) ∧ T'.1 9 = T.1 9 + 1 ∧ (∀ j, j ≠ 7 → j ≠ 6 → T'.2.1 j = T.2.1 j) ∧ T'.2.1 6 = upd (T.2.1 6) k 3 ∧ T'.2.1 7 = upd (upd (upd (T.2.1 7) (3 * k) (T.2.1 7 (3 * k + 1))) (3 * k + 1) (T.2.1 7 (3 * k + 2))) (3 * k + 2) l := by
  unfold fX5_hold
  simp only [z_in16 hk, z_cl (show k < 1000 by omega), e]
  rw [if_pos (by decide)]
  unfold fX5_hold_15 fX5_hold_78
  have e1 : upd (T.2.1 6) k (nI 3 - 1) k = nI 2 := by rw [ud_s]; decide
  simp only [zlet_s, show ¬ (1 : Int32) = 0 by decide, if_false, z_m3', z_sc, z_p2, z_p, z_in16 hk, z_cl (show k < 1000 by omega), z_in48 (show 3 * k < 48 by omega), z_in48 (show 3 * k + 1 < 48 by omega), z_in48 (show 3 * k + 2 < 48 by omega), z_cl (show 3 * k < 1000 by omega), z_cl (show 3 * k + 1 < 1000 by omega), z_cl (show 3 * k + 2 < 1000 by omega), zR_1, zR_2, zI_2, show ¬ (6 : Nat) = 7 by decide, e, e1, if_true, zbl_1]
  refine ⟨_, rfl, fun j hj => by simp [zI_1, zR_1, hj], by simp [zI_1, zR_1], fun j a b => by simp [zI_2, zR_2, a, b], ?_, ?_⟩
  · simp [zI_2, zR_2, ud_u]; rfl
  · simp [zI_2, zR_2, upd]
theorem X_holdL {S : zS} {k w : Nat} (hk : k < 16) (l : Int32) (e : S.2.1 8 k = nI w) (hw : w < 3) : fX0_hold S (nI k) l = some (1, zR (zR S 9 (k * 3 + w) l) 8 k (nI (w + 1))) := by
  unfold fX0_hold
  simp only [zlet_s, z_m3, z_in16 hk, z_cl (show k < 1000 by omega), e]
  rw [if_neg (show ¬ (3 : Int32) ≤ nI w from nI_ge (b := 3) (by omega) (by decide))]
  simp only [z_p, z_in48 (show k * 3 + w < 48 by omega), z_cl (show k * 3 + w < 1000 by omega), zR_2, show ¬ (8 : Nat) = 9 by decide, if_false, e, z_sc]
theorem M_holdL {T : zS} {k w : Nat} (hk : k < 16) (l : Int32) (e : T.2.1 6 k = nI w) (hw : w < 3) : fX5_hold T (nI k) l = some (0, zR (zR T 7 (3 * k + w) l) 6 k (nI (w + 1))) := by
  unfold fX5_hold
  simp only [z_in16 hk, z_cl (show k < 1000 by omega), e]
  rw [if_neg (show ¬ nI w = (3 : Int32) from fun e => absurd ((z_eq (a := w) (b := 3) (by omega) (by omega)).mp e) (by omega))]
  unfold fX5_hold_15 fX5_hold_78
  simp only [zlet_s, if_true, z_m3', e, z_p, z_in16 hk, z_cl (show k < 1000 by omega), z_in48 (show 3 * k + w < 48 by omega), z_cl (show 3 * k + w < 1000 by omega), zR_2, show ¬ (6 : Nat) = 7 by decide, if_false, z_sc, zbl_0]
theorem sim_hold {q c k : Nat} {S T : zS} (h : Rel q c S T) (hk : k < 16) (hp : T.2.1 0 k = 1) (hs : S.2.1 3 k = 0) (l : Int32) : ∃ b b' S' T', fX0_hold S (nI k) l = some (b, S') ∧ fX5_hold T (nI k) l = some (b', T') ∧ Rel q c S' T' ∧ ((b = 1 ∧ b' = 0) ∨ (b = 2 ∧ b' = 1)) := by
  obtain ⟨d1, d2, d3, d4, d5, d6⟩ := h.2.2.1
  have hV := h.2.1
  obtain ⟨w, hw, e⟩ := w_nI (h.w03 hk)
  have eT : T.2.1 6 k = nI w := by rw [← d5]; exact e
  by_cases h3 : w = 3
  · subst h3
    obtain ⟨S', a1, a2, a3, a4, a5⟩ := X_holdF hk l e
    obtain ⟨T', b1, b2, b3, b4, b5, b6⟩ := M_holdF hk l eT
    refine ⟨2, 1, S', T', a1, b1, ?_, Or.inr ⟨rfl, rfl⟩⟩
    refine h.lt hk hp hs 3 (by simp) a2 b2 (by rw [a3, b3, hV.2.2.2.2.2.2.1]) (fun j _ b => a4 j b) (fun j a b => b4 j b a) ?_ b5 ?_
    · rw [a4 8 (by decide)]; exact (ud_i e).symm
    · rw [a5, b6, d6, show k * 3 = 3 * k by omega]
  · refine ⟨1, 0, _, _, X_holdL hk l e (by omega), M_holdL hk l eT (by omega), ?_, Or.inl ⟨rfl, rfl⟩⟩
    refine h.lt hk hp hs (nI (w + 1)) ?_ (fun j hj => by simp [zR_1]) (fun j hj => by simp [zR_1]) (by simp [zR_1, hV.2.2.2.2.2.2.1]) (fun j a b => by simp [zR_2, a, b]) (fun j a b => by simp [zR_2, a, b]) (by simp [zR_2]) (by simp [zR_2]) (by simp [zR_2, d6, show k * 3 = 3 * k by omega])
    have : w = 0 ∨ w = 1 ∨ w = 2 := by omega
    rcases this with rfl | rfl | rfl
    · exact Or.inr (Or.inl rfl)
    · exact Or.inr (Or.inr (Or.inl rfl))
    · exact Or.inr (Or.inr (Or.inr rfl))
theorem X_letter {S S' : zS} {k : Nat} (hk : k < 16) (l t : Int32) (h : fX2_add S 0 (nI k) (S.2.1 4 k) l t = some S') : fX0_letterGoesOut S (nI k) l t = some S' := by
  unfold fX0_letterGoesOut
  simp only [z_in16 hk, z_cl (show k < 1000 by omega), h, obnv_s]
theorem sim_take32 {q c k : Nat} {S T : zS} (h : Rel q c S T) (hk : k < 16) (hp : T.2.1 0 k = 1) (l : Int32) : ∃ r S' T', fX0_takeLetter_32 S (nI k) l (nI c) = some (r, S') ∧ fX5_sendNow_31 T (nI k) l = some (r, T') ∧ Rel q c S' T' ∧ ¬ r = -104 := by
  have h1 := h.used hk hp (nI c)
  have hp1 : (zR T 5 k (nI c)).2.1 0 k = 1 := by simp [zR_2]; exact hp
  have hat := h1.at hk hp1
  unfold fX0_takeLetter_32 fX5_sendNow_31
  simp only [z_in16 hk, z_cl (show k < 1000 by omega), zlet_s, h.1.2]
  by_cases hs : (zR S 7 k (nI c)).2.1 3 k = 0
  · rw [if_pos hs, ← hat.1, if_pos hs]
    obtain ⟨b, b', S', T', a1, a2, a3, a4⟩ := sim_hold h1 hk hp1 hs l
    rw [a1, a2]
    simp only [obnd_s]
    rcases a4 with ⟨rfl, rfl⟩ | ⟨rfl, rfl⟩
    · exact ⟨1, S', T', rfl, rfl, a3, by decide⟩
    · exact ⟨2, S', T', rfl, rfl, a3, by decide⟩
  · rw [if_neg hs, ← hat.1, if_neg hs]
    obtain ⟨S1, T1, a1, a2, a3, a4, a5⟩ := h1.go 0 (nI k) ((zR S 7 k (nI c)).2.1 4 k) l (nI c) rfl
    rw [X_letter hk l (nI c) a1, ← h1.2.2.1.1, a2]
    simp only [obnv_s]
    have hp2 : T1.2.1 0 k = 1 := by rw [a4.2 0 (by decide)]; exact hp1
    have hat2 := a5.at hk hp2
    by_cases h2 : S1.2.1 3 k = 2
    · rw [if_pos h2, ← hat2.1, if_pos h2, X_become S1 hk, M_become T1 hk, a5.1.2]
      refine ⟨0, _, _, rfl, rfl, ?_, by decide⟩
      refine Rel.set a5 (fun _ _ _ => Iff.rfl) hk hp2 ?_
      have := hat2.2
      unfold rSt at this ⊢
      rcases this with e | e | e | e | e
      · rw [h2] at e; exact absurd e.1 (by decide)
      · rw [h2] at e; exact absurd e.1 (by decide)
      · exact Or.inr (Or.inr (Or.inr (Or.inl ⟨rfl, rfl, e.2.2⟩)))
      · rw [h2] at e; exact absurd e.1 (by decide)
      · rw [h2] at e; exact absurd e.1 (by decide)
    · rw [if_neg h2, ← hat2.1, if_neg h2]
      exact ⟨0, S1, T1, rfl, rfl, a5, by decide⟩
