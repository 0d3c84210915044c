/-! ===== an entry comes ===== -/
theorem Rel.come {q c k : Nat} (hq : 16 ≤ q) {S T : zS} (h : Rel q c S T) (hk : k < 16) (ha : T.2.1 0 k = 0) (h4 : zcn (pTh T) 16 ≤ 4) {mk st en tr us : Int32} (hst : rSt False st mk en tr 0) : Rel q c (xE (zR (zR (zI S 12 (S.1 12 + 1)) 4 k mk) 7 k us) k st en tr) (mE (zR (zR (zR (zR T 0 k 1) 2 k mk) 5 k us) 6 k 0) k st en tr) := by
  obtain ⟨d1, d2, d3, d4, d5, d6⟩ := h.2.2.1
  have hV := h.2.1
  obtain ⟨g1, g2⟩ := h.2.2.2.2.1
  have hw : S.2.1 8 k = 0 := by
    rcases h.there hk with h1 | h1
    · exact h1.2.2
    · rw [h1.1] at ha; exact absurd ha (by decide)
  have hcnt := cnt_on (T := T) (T' := mE (zR (zR (zR (zR T 0 k 1) 2 k mk) 5 k us) 6 k 0) k st en tr) hk ha (by simp [zR_2, ud_s]) (fun i hi => by simp [zR_2, ud_n hi])
  refine Rel.ent (k := k) h (fun _ _ _ => Iff.rfl) (fun j a _ _ => by simp [zI_1, zR_1, a]) (fun j _ _ => by simp [zR_1]) (by simp [zI_1, zR_1, hV.2.2.2.2.2.2.1]) (by simp [zI_1, zR_1, hV.2.2.2.2.2.2.2.1]) (fun j hj => by simp [zI_2, zR_2, show ¬ j = 3 by omega, show ¬ j = 4 by omega, show ¬ j = 5 by omega, show ¬ j = 6 by omega, show ¬ j = 7 by omega]) (fun j hj => by simp [zR_2, show ¬ j = 0 by omega, show ¬ j = 1 by omega, show ¬ j = 2 by omega, show ¬ j = 3 by omega, show ¬ j = 4 by omega, show ¬ j = 5 by omega, show ¬ j = 6 by omega]) ⟨by simp [zI_2, zR_2, d1], by simp [zI_2, zR_2, d2], by simp [zI_2, zR_2, d3], by simp [zI_2, zR_2, d4], ?_, by simp [zI_2, zR_2, d6]⟩ (fun j i hi _ a b d => ?_) (fun i hi _ => by simp [zR_2, ud_n hi]) ⟨by simp [zI_2, zR_2, hw], Or.inr ⟨by simp [zR_2, ud_s], by simp [zI_2, zR_2, ud_s], ?_⟩⟩ ⟨?_, ?_⟩
  · simp [zI_2, zR_2]
    rw [← d5]; exact (ud_i hw).symm
  · by_cases h3 : j = 3
    · subst h3; simp [zI_2, zR_2, ud_n hi]
    · by_cases h5 : j = 5
      · subst h5; simp [zI_2, zR_2, ud_n hi]
      · by_cases h6 : j = 6
        · subst h6; simp [zI_2, zR_2, ud_n hi]
        · by_cases h4 : j = 4
          · subst h4; simp [zI_2, zR_2, ud_n hi]
          · simp [zI_2, zR_2, h3, h4, h5, h6, d]
  · simp [zI_2, zR_2, ud_s, hw]
    have e : (k = q) = False := by simp; omega
    rw [e]; exact hst
  · rw [hcnt, ← z_sc, ← g1]; rfl
  · rw [hcnt]; omega
theorem X_come16 (S : zS) {k : Nat} (hk : k < 16) (st mk now : Int32) : fX0_come_16 S (nI k) st mk now = some (xE (zR (zR (zI S 12 (S.1 12 + 1)) 4 k mk) 7 k now) k st (-1) 0) := by
  unfold fX0_come_16
  simp only [zlet_s, z_in16 hk, z_cl (show k < 1000 by omega), X_become _ hk, obnv_s]
theorem M_comes17 (T : zS) {k c : Nat} (hk : k < 16) (hc : T.1 0 = nI c) (mk : Int32) : fX5_comes_17 T (nI k) mk = some (zR (zR (zR (zR T 0 k 1) 2 k mk) 5 k (nI c)) 6 k 0) := by
  unfold fX5_comes_17
  simp only [zlet_s, z_in16 hk, z_cl (show k < 1000 by omega), z_b1, zR_1, hc]
theorem rO.zR {S T : zS} (h : rO S T) {j i : Nat} {v : Int32} (hj : j ≠ 0) : rO (zR S j i v) T := by
  obtain ⟨n, q, h1, h2, h3, h4, h5, h6, h7, h8⟩ := h
  exact ⟨n, q, h1, h2, h3, h4, h5, h6, h7, by simp only [zR_2, if_neg (show ¬ 0 = j from fun e => hj e.symm)]; exact h8⟩
theorem X_ask {S S1 : zS} {k : Nat} (hk : k < 16) (now : Int32) (h : fX2_add S 1 (nI k) 0 0 now = some S1) : fX0_ask S (nI k) now = some (zR (zR S1 6 k (S1.2.1 6 k + 1)) 5 k (now + 6)) := by
  unfold fX0_ask
  simp only [h, obnv_s, zlet_s, z_in16 hk, z_cl (show k < 1000 by omega)]
theorem X_probe {S S1 : zS} {k : Nat} (hk : k < 16) (now : Int32) (h : fX2_add S 2 (nI k) (S.2.1 4 k) 0 now = some S1) : fX0_probe S (nI k) now = some (zR (zR S1 6 k (S1.2.1 6 k + 1)) 5 k (now + 4)) := by
  unfold fX0_probe
  simp only [z_in16 hk, z_cl (show k < 1000 by omega), h, obnv_s, zlet_s]
/-- what is done ahead of the going out, or behind it, is the same -/
theorem Rel.comm {q c k : Nat} {S T S1 T1 : zS} {tr en : Int32} (h : Rel q c (zR (zR S 6 k tr) 5 k en) T) (hS : fO S S1) (hT : fOm T T1) (hO : rO S1 T1) : Rel q c (zR (zR S1 6 k tr) 5 k en) T1 :=
  h.out ((hS.zR (by decide)).zR (by decide)) hT ((hO.zR (by decide)).zR (by decide))
theorem xE_te (S : zS) (k : Nat) (st en tr en' tr' : Int32) : zR (zR (xE S k st en tr) 6 k tr') 5 k en' = zR (zR (zR S 3 k st) 6 k tr') 5 k en' := by
  refine Prod.ext rfl (Prod.ext ?_ rfl)
  funext j
  simp only [zR_2]
  by_cases h5 : j = 5
  · subst h5; simp [ud_u]
  · by_cases h6 : j = 6
    · subst h6; simp [ud_u]
    · simp [h5, h6]
theorem xE_te2 (S : zS) (k : Nat) (st en tr : Int32) : zR (zR (zR S 3 k st) 6 k tr) 5 k en = xE S k st en tr := by
  refine Prod.ext rfl (Prod.ext ?_ rfl)
  funext j
  simp only [zR_2]
  by_cases h5 : j = 5
  · subst h5; simp
  · by_cases h6 : j = 6
    · subst h6; simp
    · simp [h5, h6]
theorem xE_com (S : zS) (k : Nat) (st en tr en' tr' : Int32) : zR (zR (xE S k st en tr) 6 k tr') 5 k en' = xE S k st en' tr' := by rw [xE_te, xE_te2]
/-- it comes, and is asked for -/
theorem sim_comeAsk {q c k : Nat} (hq : 16 ≤ q) {S T : zS} (h : Rel q c S T) (hk : k < 16) (ha : T.2.1 0 k = 0) (h4 : zcn (pTh T) 16 ≤ 4) : ∃ S1 S' T1 T2 T', fX0_come_16 S (nI k) 0 0 (nI c) = some S1 ∧ fX0_ask S1 (nI k) (nI c) = some S' ∧ fX5_comes_17 T (nI k) 0 = some T1 ∧ fX5_become T1 (nI k) 0 6 = some T2 ∧ fX5_goOut T2 1 (nI k) 0 0 = some T' ∧ Rel q c S' T' ∧ T'.2.1 0 k = 1 := by
  have hR := h.come hq hk ha h4 (mk := 0) (st := 0) (en := nI c + 6) (tr := 1) (us := nI c) (Or.inl ⟨rfl, Or.inr rfl, Or.inl rfl⟩)
  have hO := hR.2.2.2.2.2.2.2
  have hO2 : rO (xE (zR (zR (zI S 12 (S.1 12 + 1)) 4 k 0) 7 k (nI c)) k 0 (-1) 0) (mE (zR (zR (zR (zR T 0 k 1) 2 k 0) 5 k (nI c)) 6 k 0) k 0 (nI c + 6) 1) := hO
  obtain ⟨S2, T3, e1, e2, e3, e4, e5⟩ := sim_out hO2 1 (nI k) 0 0 (nI c) h.1.2
  refine ⟨_, _, _, _, T3, X_come16 S hk 0 0 (nI c), X_ask hk (nI c) e1, M_comes17 T hk h.1.2 0, ?_, e2, ?_, ?_⟩
  · rw [M_become _ hk, zR_1, zR_1, zR_1, zR_1, h.1.2]; rfl
  · have e6 : S2.2.1 6 k + 1 = 1 := by rw [e3.2 6 (by decide)]; simp [zR_2, ud_s]
    rw [e6]
    refine Rel.comm (S := xE (zR (zR (zI S 12 (S.1 12 + 1)) 4 k 0) 7 k (nI c)) k 0 (-1) 0) ?_ e3 e4 e5
    rw [xE_com]
    exact hR
  · rw [e4.2 0 (by decide)]; simp [zR_2, ud_s]
/-- it comes, stale -/
theorem sim_comeStale {c k : Nat} {S T : zS} (h : Rel 16 c S T) (hk : k < 16) (ha : T.2.1 0 k = 0) (h4 : zcn (pTh T) 16 ≤ 4) (mk : Int32) : ∃ S' T1 T', fX0_come_16 S (nI k) 2 mk (nI c) = some S' ∧ fX5_comes_17 T (nI k) mk = some T1 ∧ fX5_become T1 (nI k) 2 0 = some T' ∧ Rel 16 c S' T' ∧ S'.1 15 = S.1 15 ∧ T'.2.1 8 = T.2.1 8 := by
  have hR := h.come (Nat.le_refl 16) hk ha h4 (mk := mk) (st := 2) (en := -1) (tr := 0) (us := nI c) (Or.inr (Or.inr (Or.inl ⟨rfl, rfl, Or.inr rfl⟩)))
  exact ⟨_, _, _, X_come16 S hk 2 mk (nI c), M_comes17 T hk h.1.2 mk, M_stale_ _ hk, hR, rfl, by simp [zR_2]⟩
/-! ===== a letter to an address ===== -/
theorem sim_take {q c k : Nat} (hq : 16 ≤ q) {S T : zS} (h : Rel q c S T) (hk : k < 16) (l : Int32) : (∃ r S' T', fX0_takeLetter S (nI k) l (nI c) = some (r, S') ∧ (T.2.1 0 k = 0 → ∃ b, fX5_isRoom T = some (b, T) ∧ ¬ b = 0) ∧ fX5_sendNow T (nI k) l = some (r, T') ∧ Rel q c S' T' ∧ ¬ r = -104) ∨ (fX0_takeLetter S (nI k) l (nI c) = some (-104, S) ∧ T.2.1 0 k = 0 ∧ fX5_isRoom T = some (0, T)) := by
  rcases h.there hk with ⟨p0, -⟩ | ⟨p0, -⟩
  · obtain ⟨b, e1, e2, e3⟩ := sim_room h
    rcases e3 with rfl | ⟨rfl, hr⟩
    · refine Or.inr ⟨?_, p0, e2⟩
      unfold fX0_takeLetter
      rw [X_has0 h hk p0]
      simp only [obnd_s, if_true, e1]
    · left
      obtain ⟨S1, T1, a1, a2, a3, a4, a5, -⟩ := sim_make h hk p0 hr 0 0 (nI c) 0
      obtain ⟨S2, S3, T2, T3, T4, b1, b2, b3, b4, b5, b6, b7⟩ := sim_comeAsk hq a3 hk a4 a5
      obtain ⟨r, S', T', c1, c2, c3, c4⟩ := sim_take32 b6 hk b7 l
      refine ⟨r, S', T', ?_, fun _ => ⟨1, e2, by decide⟩, ?_, c3, c4⟩
      · unfold fX0_takeLetter
        rw [X_has0 h hk p0]
        simp only [obnd_s, if_true, e1, show ¬ (1 : Int32) = 0 by decide, if_false, a1, b1, obnv_s, b2, c1]
      · unfold fX5_sendNow
        simp only [z_in16 hk, z_cl (show k < 1000 by omega), p0, if_true, a2, b3, obnv_s, b4, b5, c2]
  · left
    obtain ⟨r, S', T', c1, c2, c3, c4⟩ := sim_take32 h hk p0 l
    refine ⟨r, S', T', ?_, fun e => absurd (p0.symm.trans e) (by decide), ?_, c3, c4⟩
    · unfold fX0_takeLetter
      rw [X_has1 h hk p0]
      simp only [obnd_s, show ¬ (1 : Int32) = 0 by decide, if_false, c1]
    · unfold fX5_sendNow
      simp only [z_in16 hk, z_cl (show k < 1000 by omega), p0, show ¬ (1 : Int32) = 0 by decide, if_false, c2]
/-! ===== asking ends; an address is heard ===== -/
theorem sim_endAsk {c k : Nat} {S T : zS} (h : Rel 16 c S T) (hk : k < 16) (hp : T.2.1 0 k = 1) (mk : Int32) {st en : Int32} (hst : st = 1 ∨ (st = 2 ∧ en = -1)) : ∃ S' T', fX0_heldGoOut (xE (zR S 4 k mk) k st en 0) (nI k) (nI c) = some S' ∧ fX5_letGo (mE (zR T 2 k mk) k st en 0) (nI k) = some T' ∧ Rel 16 c S' T' ∧ T'.2.1 1 k = st ∧ T'.2.1 0 k = 1 ∧ S'.2.1 3 k = st ∧ S'.1 15 = S.1 15 ∧ T'.2.1 8 = T.2.1 8 := by
  have hR : Rel k c (xE (zR S 4 k mk) k st en 0) (mE (zR T 2 k mk) k st en 0) := by
    refine h.setm (fun i hi h16 => ex16 hi h16) hk hp ?_
    rcases hst with e | ⟨e, e2⟩
    · exact Or.inr (Or.inl ⟨e, Or.inl rfl⟩)
    · exact Or.inr (Or.inr (Or.inl ⟨e, e2, Or.inl rfl⟩))
  obtain ⟨S1, T1, a1, a2, a3, a4, a5⟩ := sim_held hR hk
  have hs : S1.2.1 3 k = st := by rw [a4.2 3 (by decide)]; simp [zR_2, ud_s]
  have ht : T1.2.1 0 k = 1 := by rw [a5.2 0 (by decide)]; simp [zR_2]; exact hp
  refine ⟨_, _, a1, a2, a3.w0 hk ht ?_, ?_, ?_, ?_, a4.1 15 (by decide) (by decide) (by decide) (by decide), by simp only [zR_2, show ¬ (8 : Nat) = 6 by decide, if_false]; rw [a5.2 8 (by decide)]; simp [zR_2]⟩
  · rw [hs]; rcases hst with e | ⟨e, -⟩ <;> rw [e] <;> decide
  · simp [zR_2]; rw [a5.2 1 (by decide)]; simp [zR_2, ud_s]
  · simp [zR_2]; exact ht
  · simp [zR_2]; exact hs
theorem sim_hear {c k : Nat} {S T : zS} (h : Rel 16 c S T) (hk : k < 16) (mk : Int32) : ∃ S' T', fX0_hear S (nI k) mk (nI c) = some S' ∧ fX5_hear T (nI k) mk = some T' ∧ Rel 16 c S' T' ∧ S'.1 15 = S.1 15 ∧ T'.2.1 8 = T.2.1 8 := by
  rcases h.there hk with ⟨p0, -⟩ | ⟨p0, p1, p2⟩
  · obtain ⟨b, e1, e2, e3⟩ := sim_room h
    unfold fX0_hear fX5_hear
    rw [X_has0 h hk p0]
    simp only [obnd_s, if_true, e1, z_in16 hk, z_cl (show k < 1000 by omega), p0, e2]
    rcases e3 with rfl | ⟨rfl, hr⟩
    · simp only [if_true]
      exact ⟨S, T, rfl, rfl, h, rfl, rfl⟩
    · simp only [show ¬ (1 : Int32) = 0 by decide, if_false]
      obtain ⟨S1, T1, a1, a2, a3, a4, a5, a6, a7⟩ := sim_make h hk p0 hr 2 mk (nI c) mk
      obtain ⟨S2, T2, T3, b1, b2, b3, b4, b5, b6⟩ := sim_comeStale a3 hk a4 a5 mk
      rw [a1, a2, b1, b2]
      simp only [obnv_s, b3]
      exact ⟨S2, T3, rfl, rfl, b4, b5.trans a6, b6.trans a7⟩
  · unfold fX0_hear fX5_hear
    rw [X_has1 h hk p0]
    simp only [obnd_s, show ¬ (1 : Int32) = 0 by decide, if_false, z_in16 hk, z_cl (show k < 1000 by omega), p0, ← p1]
    by_cases hs : S.2.1 3 k = 0
    · rw [if_pos hs, if_pos hs]
      obtain ⟨S', T', a1, a2, a3, -, -, -, a8, a9⟩ := sim_endAsk h hk p0 mk (st := 2) (en := -1) (Or.inr ⟨rfl, rfl⟩)
      refine ⟨S', T', ?_, ?_, a3, a8, a9⟩
      · unfold fX0_endAsking fX0_endAsking_26
        simp only [z_in16 hk, z_cl (show k < 1000 by omega), zlet_s, if_true, X_stale_ _ hk, obnv_s, a1]
      · unfold fX5_hear_44 fX5_hear_59
        simp only [zlet_s, show ¬ (1 : Int32) = 0 by decide, if_false, z_in16 hk, z_cl (show k < 1000 by omega), M_stale_ _ hk, obnv_s, a2]
    · rw [if_neg hs, if_neg hs]
      unfold fX5_hear_44
      simp only [zlet_s, if_true, z_in16 hk, z_cl (show k < 1000 by omega), ← h.2.2.1.1]
      by_cases hm : S.2.1 4 k = mk
      · rw [if_pos hm, if_pos hm]
        exact ⟨S, T, rfl, rfl, h, rfl, rfl⟩
      · rw [if_neg hm, if_neg hm]
        obtain ⟨S', T', a1, a2, a3, -, -, -, a8, a9⟩ := sim_endAsk h hk p0 mk (st := 2) (en := -1) (Or.inr ⟨rfl, rfl⟩)
        have hw : S.2.1 8 k = 0 := by
          unfold rSt at p2
          have e : ¬ k = 16 := by omega
          rcases p2 with e1 | e1 | e1 | e1 | e1
          · exact absurd e1.1 hs
          · exact e1.2.resolve_left e
          · exact e1.2.2.resolve_left e
          · exact e1.2.2.resolve_left e
          · exact e1.2.2.resolve_left e
        have eX : fX0_heldGoOut (xE (zR S 4 k mk) k 2 (-1) 0) (nI k) (nI c) = some (zR (xE (zR S 4 k mk) k 2 (-1) 0) 8 k 0) := by
          unfold fX0_heldGoOut
          simp only [zlet_s, z_m3]
          show bX0_heldGoOut_7 _ _ _ _ _ _ = _
          unfold bX0_heldGoOut_7
          have e8 : (xE (zR S 4 k mk) k 2 (-1) 0).2.1 8 k = 0 := by simp [zR_2]; exact hw
          simp only [z_in16 hk, z_cl (show k < 1000 by omega), e8, zlet_s]
          rw [if_pos (by decide)]
        have eS : zR (xE (zR S 4 k mk) k 2 (-1) 0) 8 k 0 = xE (zR S 4 k mk) k 2 (-1) 0 := by
          refine Prod.ext rfl (Prod.ext ?_ rfl)
          funext j
          rw [zR_2]
          by_cases h8 : j = 8
          · subst h8; rw [if_pos rfl]; exact ud_i (by simp [zR_2]; exact hw)
          · rw [if_neg h8]
        rw [eX, eS] at a1
        refine ⟨S', T', ?_, ?_, a3, a8, a9⟩
        · unfold fX0_correctMark
          simp only [z_in16 hk, z_cl (show k < 1000 by omega), zlet_s, X_stale_ _ hk, obnv_s]
          exact a1
        · unfold fX5_hear_59
          simp only [z_in16 hk, z_cl (show k < 1000 by omega), zlet_s, M_stale_ _ hk, obnv_s, a2]
