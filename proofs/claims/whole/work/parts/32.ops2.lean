theorem zI_id (T : zS) (j : Nat) : zI T j (T.1 j) = T := Prod.ext (ud_i rfl) rfl
theorem sim_route36 {c k : Nat} {S T : zS} (h : Rel 16 c S T) (hk : k < 16) (l su bt g : Int32) (hB : fX5_isByTurn T g = some (bt, T)) (hb : (bt = 1 ∧ su = -1) ∨ (bt = 0 ∧ ¬ su = -1)) : Sim c (fX4_route_36 S l su (nI k)) (zin (nI k) 16 (if (T.2.1 0 (nI k).toNatClampNeg) = 0 then obnd (fX5_isRoom T) (fun y_5 S_4 => (if y_5 = 0 then some ((-104 : Int32), S_4) else fX5_route_50 S_4 g l (nI k))) else fX5_route_50 T g l (nI k))) := by
  unfold fX4_route_36
  simp only [zlet_s, if_neg (z_m1 (show k < 1000000 by omega)), z_in16 hk, z_cl (show k < 1000 by omega), h.1.1]
  have v := h.2.1
  rcases hb with ⟨rfl, rfl⟩ | ⟨rfl, hsu⟩
  · -- taken in turn
    have hR : Rel (17 + k) c S (zI T 2 (nI k)) := by
      refine h.sc (fun j hj => rfl) (fun j hj => by simp [zI_1, show ¬ j = 2 by omega]) rfl rfl ⟨v.1, v.2.1, v.2.2.1, v.2.2.2.1, ⟨fun q => by omega, fun m e => ?_⟩, v.2.2.2.2.2.1, v.2.2.2.2.2.2.2.2⟩ (fun i hi => ⟨fun e => by omega, fun e => by omega⟩)
      have : m = k := by omega
      rw [this]; rfl
    rcases sim_take (by omega) hR hk l with ⟨r, S', T', a1, a2, a3, a4, a5⟩ | ⟨a1, a2, a3⟩
    · rw [a1]
      simp only [obnd_s, if_neg a5, if_true]
      have hR2 : Rel 16 c (zI S' 5 (nI k)) T' := by
        have v' := a4.2.1
        refine a4.sc (fun j hj => by simp [zI_1, show ¬ j = 5 by omega]) (fun j hj => rfl) rfl rfl ⟨v'.1, v'.2.1, v'.2.2.1, v'.2.2.2.1, ⟨fun _ => ?_, fun m e => by omega⟩, v'.2.2.2.2.2.1, v'.2.2.2.2.2.2.2.2⟩ (fun i hi => ⟨fun e => by omega, fun e => by omega⟩)
        rw [v'.2.2.2.2.1.2 k rfl]; rfl
      have eM : fX5_route_50 T g l (nI k) = some (r, T') := by
        unfold fX5_route_50 fX5_route_67
        rw [hB]
        simp only [obnd_s, n10, if_false, zlet_s, a3]
      by_cases h0 : T.2.1 0 k = 0
      · rw [if_pos h0]
        obtain ⟨b, b1, b2⟩ := a2 h0
        obtain ⟨b', c1, c2, c3⟩ := sim_room h
        have : b' = b := by
          obtain ⟨b'', d1, d2, -⟩ := sim_room hR
          rw [d2] at b1
          have e1 : b'' = b := (Prod.mk.inj (Option.some.inj b1)).1
          rw [c1] at d1
          have e2 : b' = b'' := (Prod.mk.inj (Option.some.inj d1)).1
          rw [e2, e1]
        rw [c2]
        simp only [obnd_s, this, if_neg b2]
        exact ⟨r, _, T', rfl, eM, hR2⟩
      · rw [if_neg h0]
        exact ⟨r, _, T', rfl, eM, hR2⟩
    · rw [a1]
      simp only [obnd_s, if_true]
      have h0 : T.2.1 0 k = 0 := a2
      rw [if_pos h0]
      obtain ⟨b', c1, c2, c3⟩ := sim_room h
      obtain ⟨b'', d1, d2, -⟩ := sim_room hR
      rw [d2] at a3
      have e1 : b'' = 0 := (Prod.mk.inj (Option.some.inj a3)).1
      rw [c1] at d1
      have e2 : b' = b'' := (Prod.mk.inj (Option.some.inj d1)).1
      rw [c2]
      simp only [obnd_s, e2, e1, if_true]
      exact Sim.same h _
  · have eM : ∀ r T', fX5_sendNow T (nI k) l = some (r, T') → fX5_route_50 T g l (nI k) = some (r, T') := by
      intro r T' e
      unfold fX5_route_50 fX5_route_67
      rw [hB]
      simp only [obnd_s, if_true, zlet_s, zI_id, e]
    rcases sim_take (Nat.le_refl 16) h hk l with ⟨r, S', T', a1, a2, a3, a4, a5⟩ | ⟨a1, a2, a3⟩
    · rw [a1]
      simp only [obnd_s, if_neg a5, if_neg hsu]
      by_cases h0 : T.2.1 0 k = 0
      · rw [if_pos h0]
        obtain ⟨b, b1, b2⟩ := a2 h0
        rw [b1]
        simp only [obnd_s, if_neg b2]
        exact ⟨r, S', T', rfl, eM r T' a3, a4⟩
      · rw [if_neg h0]
        exact ⟨r, S', T', rfl, eM r T' a3, a4⟩
    · rw [a1, if_pos a2, a3]
      simp only [obnd_s, if_true]
      exact Sim.same h _
theorem sim_route {c : Nat} {S T : zS} (h : Rel 16 c S T) (g l : Int32) : Sim c (fX4_route S g l) (fX5_route T g l) := by
  unfold fX4_route fX5_route
  obtain ⟨b, e1, e2, e3⟩ := K_goal S T g
  rw [e1, e2]
  simp only [obnd_s]
  rcases e3 with rfl | rfl
  · simp only [if_true]; exact Sim.same h _
  · simp only [n10, if_false]
    obtain ⟨b, e3, e4, e5⟩ := K_letter S T l
    rw [e3, e4]
    simp only [obnd_s]
    rcases e5 with rfl | rfl
    · simp only [if_true]; exact Sim.same h _
    · simp only [n10, if_false]
      obtain ⟨su, nx, ho, bt, a1, a2, a3, a4, a5, a6, a7⟩ := sim_hop h g
      rw [a1, a3]
      simp only [obnd_s, zlet_s]
      by_cases hs : su = -1
      · rw [if_pos hs] at a5 ⊢
        rw [a2]
        simp only [obnd_s]
        rcases a6 with e | ⟨k, hk, e⟩
        · rw [e] at a5
          rw [e, if_pos rfl, ← a5]
          unfold fX4_route_36
          simp only [zlet_s, if_true]
          exact Sim.same h _
        · rw [e] at a5
          rw [e, ← a5, if_neg (z_m1 (by omega))]
          refine sim_route36 h hk l su bt g a4 ?_
          rcases a7 with q | ⟨q1, q2⟩
          · exact Or.inl q
          · rcases q2 with q | q
            · exact absurd hs q
            · rw [e] at q; exact absurd q (z_m1 (by omega))
      · rw [if_neg hs] at a5 ⊢
        rcases a6 with e | ⟨k, hk, e⟩
        · rw [e] at a5; exact absurd a5.symm hs
        · have hb : bt = 0 := by
            rcases a7 with q | q
            · exact absurd q.2 hs
            · exact q.1
          rw [e] at a5
          rw [e, if_neg (z_m1 (by omega)), ← a5]
          exact sim_route36 h hk l (nI k) bt g a4 (Or.inr ⟨hb, z_m1 (by omega)⟩)
theorem X_stateOf1 {q c k : Nat} {S T : zS} (h : Rel q c S T) (hk : k < 16) (hp : T.2.1 0 k = 1) : fX0_stateOf S (nI k) = some (T.2.1 1 k, S) := by
  unfold fX0_stateOf
  rw [X_has1 h hk hp]
  simp only [obnd_s, n10, if_false, z_in16 hk, z_cl (show k < 1000 by omega), (h.at hk hp).1]
theorem X_stateOf0 {q c k : Nat} {S T : zS} (h : Rel q c S T) (hk : k < 16) (hp : T.2.1 0 k = 0) : fX0_stateOf S (nI k) = some (-1, S) := by
  unfold fX0_stateOf
  rw [X_has0 h hk hp]
  simp only [obnd_s, if_true]
theorem w0_of {c k : Nat} {S T : zS} (h : Rel 16 c S T) (hk : k < 16) (hp : T.2.1 0 k = 1) (hs : ¬ S.2.1 3 k = 0) : S.2.1 8 k = 0 := by
  have p2 := (h.at hk hp).2
  unfold rSt at p2
  have e : ¬ k = 16 := by omega
  rcases p2 with e1 | e1 | e1 | e1 | e1
  · exact absurd e1.1 hs
  · exact e1.2.resolve_left e
  · exact e1.2.2.resolve_left e
  · exact e1.2.2.resolve_left e
  · exact e1.2.2.resolve_left e
theorem sim_hint {c : Nat} {S T : zS} (h : Rel 16 c S T) (x : Int32) : Sim c (fX4_hint S x) (fX5_hint T x) := by
  unfold fX4_hint fX5_hint
  rcases addr_cases x with hx | ⟨k, hk, rfl⟩
  · obtain ⟨e1, e2⟩ := A_bad S T hx
    rw [e1, e2]
    simp only [obnd_s, if_true]
    exact Sim.same h _
  · obtain ⟨e1, e2⟩ := A_ok S T hk
    rw [e1, e2]
    simp only [obnd_s, n10, if_false, h.1.1]
    unfold fX0_confirm fX0_confirm_14 fX5_hint_38
    rw [X_hasMark h hk]
    simp only [obnd_s, z_in16 hk, z_cl (show k < 1000 by omega)]
    rcases h.there hk with ⟨p0, p1, -⟩ | ⟨p0, p1, p2⟩
    · have hg : gd T k = false := by simp [gd, p0]
      rw [hg]
      simp only [Bool.false_eq_true, if_false, if_true, p0, X_stateOf0 h hk p0, obnd_s]
      exact Sim.same h _
    · by_cases h0 : S.2.1 3 k = 0
      · have hg : gd T k = false := by simp [gd, ← p1, h0]
        rw [hg]
        simp only [Bool.false_eq_true, if_false, if_true, p0, n10, X_stateOf1 h hk p0, obnd_s, ← p1, h0]
        exact Sim.same h _
      · have hg : gd T k = true := by simp [gd, ← p1, h0, p0]
        rw [hg]
        simp only [if_true, n10, if_false, p0, ← p1, if_neg h0, X_fresh_ S hk, M_fresh_ T hk h.1.2, obnv_s]
        have hR : Rel 16 c (xE S k 1 (nI c + 30) 0) (mE T k 1 (nI c + 30) 0) := h.set (fun _ _ _ => Iff.rfl) hk p0 (Or.inr (Or.inl ⟨rfl, Or.inr (w0_of h hk p0 h0)⟩))
        have hp : (mE T k 1 (nI c + 30) 0).2.1 0 k = 1 := p0
        rw [X_stateOf1 hR hk hp]
        exact ⟨_, _, _, rfl, rfl, hR⟩
/-! ===== answered ===== -/
theorem sim_known {c k : Nat} {S T : zS} (h : Rel 16 c S T) (hk : k < 16) (hp : T.2.1 0 k = 1) (mk ak ov : Int32) : ∃ S' T', fX0_takeAnswer S (nI k) mk ak ov (nI c) = some S' ∧ (if T.2.1 1 k = 0 then fX5_answerAsking T (nI k) mk ak else fX5_answerKnown T (nI k) mk ak ov) = some T' ∧ Rel 16 c S' T' ∧ T'.2.1 0 k = 1 := by
  obtain ⟨p1, p2⟩ := h.at hk hp
  rw [← p1]
  unfold fX0_takeAnswer
  simp only [z_in16 hk, z_cl (show k < 1000 by omega)]
  by_cases h0 : S.2.1 3 k = 0
  · rw [if_pos h0]
    have eX : ∀ t, fX0_takeAnswer_15 S (nI k) mk ak ov (nI c) t = fX0_endAsking S (nI k) mk ak (nI c) := fun t => by
      unfold fX0_takeAnswer_15
      simp only [zlet_s, z_in16 hk, z_cl (show k < 1000 by omega), if_pos h0]
      cases fX0_endAsking S (nI k) mk ak (nI c) <;> rfl
    rw [eX, eX]
    have : (if S.2.1 4 k = mk then fX0_endAsking S (nI k) mk ak (nI c) else fX0_endAsking S (nI k) mk ak (nI c)) = fX0_endAsking S (nI k) mk ak (nI c) := by split <;> rfl
    rw [this]
    unfold fX0_endAsking fX0_endAsking_26 fX5_answerAsking fX5_answerAsking_29
    simp only [z_in16 hk, z_cl (show k < 1000 by omega), zlet_s]
    by_cases ha : ak = 0
    · rw [if_pos ha, if_pos ha, X_stale_ _ hk, M_stale_ _ hk]
      simp only [obnv_s]
      obtain ⟨S', T', a1, a2, a3, a4, a5, a6⟩ := sim_endAsk h hk hp mk (st := 2) (en := -1) (Or.inr ⟨rfl, rfl⟩)
      rw [a1, a2]
      exact ⟨S', T', rfl, rfl, a3, a5⟩
    · rw [if_neg ha, if_neg ha, X_fresh_ _ hk, M_fresh_ (zR T 2 k mk) hk h.1.2]
      simp only [obnv_s]
      obtain ⟨S', T', a1, a2, a3, a4, a5, a6⟩ := sim_endAsk h hk hp mk (st := 1) (en := nI c + 30) (Or.inl rfl)
      rw [a1, a2]
      exact ⟨S', T', rfl, rfl, a3, a5⟩
  · rw [if_neg h0]
    have hw := w0_of h hk hp h0
    unfold fX5_answerKnown
    simp only [z_in16 hk, z_cl (show k < 1000 by omega), ← h.2.2.1.1]
    unfold fX0_takeAnswer_15 fX5_answerKnown_15 fX0_takeAnswer_56 fX5_answerKnown_45 fX5_freshen
    simp only [zlet_s, z_in16 hk, z_cl (show k < 1000 by omega), if_neg h0, ← p1, n10, if_false, if_true, X_fresh_ _ hk, M_fresh_ (zR T 2 k mk) hk h.1.2, M_stale_ _ hk, obnv_s]
    have hF : Rel 16 c (xE (zR S 4 k mk) k 1 (nI c + 30) 0) (mE (zR T 2 k mk) k 1 (nI c + 30) 0) := h.setm (fun _ _ _ => Iff.rfl) hk hp (Or.inr (Or.inl ⟨rfl, Or.inr hw⟩))
    have hL : Rel 16 c (xE (zR S 4 k mk) k 2 (-1) 0) (mE (zR T 2 k mk) k 2 (-1) 0) := h.setm (fun _ _ _ => Iff.rfl) hk hp (Or.inr (Or.inr (Or.inl ⟨rfl, rfl, Or.inr hw⟩)))
    have hD : Rel 16 c (xE S k 2 (-1) 0) (mE T k 2 (-1) 0) := h.set (fun _ _ _ => Iff.rfl) hk hp (Or.inr (Or.inr (Or.inl ⟨rfl, rfl, Or.inr hw⟩)))
    by_cases hm : S.2.1 4 k = mk
    · rw [if_pos hm, if_pos hm]
      by_cases ha : ak = 0
      · rw [if_pos ha, if_pos ha]
        exact ⟨S, T, rfl, rfl, h, hp⟩
      · rw [if_neg ha, if_neg ha]
        exact ⟨_, _, rfl, rfl, hF, hp⟩
    · rw [if_neg hm, if_neg hm]
      by_cases ho : ov = 0
      · rw [if_pos ho, if_pos ho]
        unfold fX0_doubt
        simp only [z_in16 hk, z_cl (show k < 1000 by omega), X_stale_ _ hk, obnv_s]
        by_cases h1 : S.2.1 3 k = 1
        · rw [if_pos h1, if_pos h1]
          exact ⟨_, _, rfl, rfl, hD, hp⟩
        · rw [if_neg h1, if_neg h1]
          exact ⟨S, T, rfl, rfl, h, hp⟩
      · rw [if_neg ho, if_neg ho]
        by_cases ha : ak = 0
        · rw [if_pos ha, if_pos ha]
          unfold fX0_correctMark
          simp only [z_in16 hk, z_cl (show k < 1000 by omega), zlet_s, X_stale_ _ hk, obnv_s]
          exact ⟨_, _, rfl, rfl, hL, hp⟩
        · rw [if_neg ha, if_neg ha]
          exact ⟨_, _, rfl, rfl, hF, hp⟩
theorem sim_ans29 {c k : Nat} {S T : zS} (h : Rel 16 c S T) (hk : k < 16) (mk ak ov ro : Int32) : Sim c (fX4_answered_29 S (nI k) mk ak ov ro) (fX5_answered_42 T (nI k) mk ak ov ro) := by
  unfold fX4_answered_29 fX5_answered_42
  simp only [z_in16 hk, z_cl (show k < 1000 by omega)]
  rcases h.there hk with ⟨p0, -⟩ | ⟨p0, -⟩
  · rw [X_has0 h hk p0, if_pos p0]
    simp only [obnd_s, if_true]
    exact Sim.same h _
  · rw [X_has1 h hk p0, p0, if_neg n10]
    simp only [obnd_s, n10, if_false, h.1.1]
    obtain ⟨S1, T1, a1, a2, a3, a4⟩ := sim_known h hk p0 mk ak ov
    rw [a1]
    simp only [obnv_s]
    have eT : (if T.2.1 1 k = 0 then obnv (fX5_answerAsking T (nI k) mk ak) (fun S_2 => fX5_answered_81 S_2 (nI k) ro) else obnv (fX5_answerKnown T (nI k) mk ak ov) (fun S_1 => fX5_answered_81 S_1 (nI k) ro)) = fX5_answered_81 T1 (nI k) ro := by
      by_cases h0 : T.2.1 1 k = 0
      · rw [if_pos h0] at a2 ⊢; rw [a2]; rfl
      · rw [if_neg h0] at a2 ⊢; rw [a2]; rfl
    rw [eT]
    unfold fX5_answered_81 fX5_answered_104 fX5_answered_105 fX4_answered_71
    simp only [z_in16 hk, z_cl (show k < 1000 by omega), zlet_s, z_b0, z_b1]
    obtain ⟨n, ad, hr⟩ := a3.2.2.2.2.2.2.1
    have hz := (hr.2.2.2.2 k hk).1
    have fin : ∀ (S' T' : zS), Rel 16 c S' T' → T'.2.1 0 k = 1 → Sim c (obnd (fX0_stateOf S' (nI k)) (fun y_1 S_1 => some (y_1, S_1))) (some (T'.2.1 1 k, T')) := fun S' T' hR hp => by
      rw [X_stateOf1 hR hk hp]
      exact ⟨_, S', T', rfl, rfl, hR⟩
    by_cases hro : ro = 0
    · rw [if_pos hro]
      have hT : (if T1.2.1 8 k = 0 then some ((zR T1 8 k 0).2.1 1 k, zR T1 8 k 0) else if ro = 0 then some ((zR T1 8 k 0).2.1 1 k, zR T1 8 k 0) else some ((zR T1 8 k 1).2.1 1 k, zR T1 8 k 1)) = some ((zR T1 8 k 0).2.1 1 k, zR T1 8 k 0) := by
        rw [if_pos hro]; split <;> rfl
      rw [hT]
      obtain ⟨S2, b1, b2, b3⟩ := sim_rrem (T' := zR T1 8 k 0) a3.2.2.2.2.2.2.1 hk (fun j hj => by simp [zR_2, upd]) (fun j hj => by simp [zR_2]) (fun j hj => by simp [zR_2])
      rw [b1]
      simp only [obnv_s]
      exact fin S2 _ (a3.rout b2 ⟨fun _ => rfl, fun j x1 x2 x3 => by simp [zR_2, x1]⟩ b3) (by simp [zR_2]; exact a4)
    · rw [if_neg hro]
      have hT : (if T1.2.1 8 k = 0 then some ((zR T1 8 k 0).2.1 1 k, zR T1 8 k 0) else if ro = 0 then some ((zR T1 8 k 0).2.1 1 k, zR T1 8 k 0) else some ((zR T1 8 k 1).2.1 1 k, zR T1 8 k 1)) = some (T1.2.1 1 k, T1) := by
        have idr : ∀ v, T1.2.1 8 k = v → zR T1 8 k v = T1 := fun v e => by
          refine Prod.ext rfl (Prod.ext ?_ rfl)
          funext j
          rw [zR_2]
          by_cases h8 : j = 8
          · subst h8; rw [if_pos rfl]; exact ud_i e
          · rw [if_neg h8]
        rcases hz with e | e
        · rw [if_pos e, idr 0 e]
        · rw [if_neg (by rw [e]; decide), if_neg hro, idr 1 e]
      rw [hT]
      exact fin S1 T1 a3 a4
theorem sim_answered {c : Nat} {S T : zS} (h : Rel 16 c S T) (x mk ak ov ro : Int32) : Sim c (fX4_answered S x mk ak ov ro) (fX5_answered T x mk ak ov ro) := by
  unfold fX4_answered fX5_answered
  rcases addr_cases x with hx | ⟨k, hk, rfl⟩
  · obtain ⟨e1, e2⟩ := A_bad S T hx
    rw [e1, e2]
    simp only [obnd_s, if_true]
    exact Sim.same h _
  · obtain ⟨e1, e2⟩ := A_ok S T hk
    rw [e1, e2]
    simp only [obnd_s, n10, if_false]
    obtain ⟨b, e3, e4, e5⟩ := K_mark S T mk
    rw [e3, e4]
    simp only [obnd_s]
    rcases e5 with rfl | rfl
    · simp only [if_true]; exact Sim.same h _
    · simp only [n10, if_false]
      obtain ⟨v1, v2, v3, v4, v5, v6, -, -, v9⟩ := h.2.1
      rw [← v2]
      by_cases ht : nI k = S.1 2
      · rw [if_pos ht, if_pos ht]
        unfold fX4_trialIsDoubled
        simp only [zlet_s, obnv_s]
        refine sim_ans29 ?_ hk mk ak ov ro
        refine h.sc (fun j hj => by simp [zI_1, show ¬ j = 2 by omega, show ¬ j = 4 by omega]) (fun j hj => by simp [zI_1, show ¬ j = 5 by omega, show ¬ j = 7 by omega]) rfl rfl ⟨v1, rfl, v3, ?_, v5, v6, v9⟩
        simp [zI_1, v4, ht]
      · rw [if_neg ht, if_neg ht]
        exact sim_ans29 h hk mk ak ov ro
