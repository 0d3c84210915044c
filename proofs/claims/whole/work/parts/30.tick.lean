/-! ===== an entry's state ends ===== -/
theorem sim_state {c k : Nat} {S T : zS} (h : Rel 16 c S T) (hk : k < 16) (hp : T.2.1 0 k = 1) (hns : ¬ S.2.1 3 k = 2) : ∃ S' T', fX0_endState S (nI k) (nI c) = some S' ∧ fX5_passEntry T (nI k) = some T' ∧ Rel 16 c S' T' := by
  obtain ⟨a1, a2⟩ := h.at hk hp
  obtain ⟨d1, d2, d3, d4, d5, d6⟩ := h.2.2.1
  have e16 : ¬ k = 16 := by omega
  unfold fX0_endState fX5_passEntry
  simp only [z_in16 hk, z_cl (show k < 1000 by omega), ← a1]
  by_cases h1 : S.2.1 3 k = 1
  · rw [if_pos h1, if_pos h1, X_stale_ S hk, M_stale_ T hk]
    refine ⟨_, _, rfl, rfl, h.set (fun _ _ _ => Iff.rfl) hk hp ?_⟩
    unfold rSt at a2 ⊢
    rcases a2 with e | e | e | e | e
    · rw [h1] at e; exact absurd e.1 (by decide)
    · exact Or.inr (Or.inr (Or.inl ⟨rfl, rfl, e.2⟩))
    · rw [h1] at e; exact absurd e.1 (by decide)
    · rw [h1] at e; exact absurd e.1 (by decide)
    · rw [h1] at e; exact absurd e.1 (by decide)
  · rw [if_neg h1, if_neg h1]
    by_cases h3 : S.2.1 3 k = 3
    · rw [if_pos h3, if_pos h3, X_become S hk, M_become T hk, h.1.2]
      have hw : k = 16 ∨ S.2.1 8 k = 0 := by
        unfold rSt at a2
        rcases a2 with e | e | e | e | e
        · rw [h3] at e; exact absurd e.1 (by decide)
        · exact absurd e.1 h1
        · exact absurd e.1 hns
        · exact e.2.2
        · rw [h3] at e; exact absurd e.1 (by decide)
      have hR : Rel 16 c (xE S k 4 (nI c + 4) 1) (mE T k 4 (nI c + 4) 1) := h.set (fun _ _ _ => Iff.rfl) hk hp (Or.inr (Or.inr (Or.inr (Or.inr ⟨rfl, Or.inl rfl, hw⟩))))
      have hO : rO (xE S k 4 (-1) 0) (mE T k 4 (nI c + 4) 1) := hR.2.2.2.2.2.2.2
      obtain ⟨S2, T3, e1, e2, e3, e4, e5⟩ := sim_out hO 2 (nI k) (S.2.1 4 k) 0 (nI c) h.1.2
      have e1' : fX2_add (xE S k 4 (-1) 0) 2 (nI k) ((xE S k 4 (-1) 0).2.1 4 k) 0 (nI c) = some S2 := e1
      have eM : (if (4 : Int32) = 0 then (-1 : Int32) else nI c + 4) = nI c + 4 := by rw [if_neg (by decide)]
      have eM2 : (if (4 : Int32) = 0 ∨ (4 : Int32) = 4 then (1 : Int32) else 0) = 1 := by rw [if_pos (Or.inr rfl)]
      have e2' : fX5_goOut (mE T k 4 (nI c + 4) 1) 2 (nI k) ((mE T k 4 (nI c + 4) 1).2.1 2 k) 0 = some T3 := by
        have : (mE T k 4 (nI c + 4) 1).2.1 2 k = S.2.1 4 k := by rw [d1]; rfl
        rw [this]; exact e2
      rw [eM, eM2]
      simp only [obnv_s, X_probe hk (nI c) e1', e2']
      refine ⟨_, T3, rfl, rfl, ?_⟩
      have e6 : S2.2.1 6 k + 1 = 1 := by rw [e3.2 6 (by decide)]; simp [zR_2, ud_s]
      rw [e6]
      refine Rel.comm (S := xE S k 4 (-1) 0) ?_ e3 e4 e5
      rw [xE_com]
      exact hR
    · rw [if_neg h3, if_neg h3]
      unfold fX5_tryOn
      simp only [z_in16 hk, z_cl (show k < 1000 by omega), ← a1, ← d3]
      have htr : S.2.1 6 k = 1 ∨ S.2.1 6 k = 2 ∨ S.2.1 6 k = 3 := by
        unfold rSt at a2
        rcases a2 with e | e | e | e | e
        · exact e.2.2
        · exact absurd e.1 h1
        · exact absurd e.1 hns
        · exact absurd e.1 h3
        · exact e.2.1
      by_cases ht : S.2.1 6 k = 3
      · rw [ht, if_neg (by decide), if_pos rfl]
        obtain ⟨S', T', b1, b2, b3, -⟩ := sim_goes h hk hp
        rw [b1, b2]
        exact ⟨S', T', rfl, rfl, b3⟩
      · have htl : S.2.1 6 k < 3 := by
          rcases htr with e | e | e
          · rw [e]; decide
          · rw [e]; decide
          · exact absurd e ht
        have htn : S.2.1 6 k + 1 = 1 ∨ S.2.1 6 k + 1 = 2 ∨ S.2.1 6 k + 1 = 3 := by
          rcases htr with e | e | e
          · rw [e]; exact Or.inr (Or.inl rfl)
          · rw [e]; exact Or.inr (Or.inr rfl)
          · exact absurd e ht
        rw [if_pos htl, if_neg ht]
        by_cases h4 : S.2.1 3 k = 4
        · have h0 : ¬ S.2.1 3 k = 0 := by rw [h4]; decide
          rw [if_pos h4, if_neg h0]
          obtain ⟨S1, T1, b1, b2, b3, b4, b5⟩ := h.go 2 (nI k) (S.2.1 4 k) 0 (nI c) rfl
          unfold fX5_tryOn_30 fX5_tryOn_41 fX5_tryOn_56 fX5_tryOn_89
          simp only [zlet_s, if_true, z_in16 hk, z_cl (show k < 1000 by omega), ← d1, b2, obnv_s, X_probe hk (nI c) b1]
          refine ⟨_, _, rfl, rfl, ?_⟩
          rw [b3.2 6 (by decide), b4.2 4 (by decide), ← d3, zR_1, b5.1.2]
          have hp1 : T1.2.1 0 k = 1 := by rw [b4.2 0 (by decide)]; exact hp
          refine b5.te hk hp1 ?_
          rw [b3.2 3 (by decide), b3.2 4 (by decide), b3.2 8 (by decide)]
          unfold rSt at a2 ⊢
          rcases a2 with e | e | e | e | e
          · exact absurd e.1 h0
          · exact absurd e.1 h1
          · exact absurd e.1 hns
          · exact absurd e.1 h3
          · exact Or.inr (Or.inr (Or.inr (Or.inr ⟨e.1, htn, e.2.2⟩)))
        · have h0 : S.2.1 3 k = 0 := by
            unfold rSt at a2
            rcases a2 with e | e | e | e | e
            · exact e.1
            · exact absurd e.1 h1
            · exact absurd e.1 hns
            · exact absurd e.1 h3
            · exact absurd e.1 h4
          rw [if_neg h4, if_pos h0]
          obtain ⟨S1, T1, b1, b2, b3, b4, b5⟩ := h.go 1 (nI k) 0 0 (nI c) rfl
          unfold fX5_tryOn_30 fX5_tryOn_41 fX5_tryOn_56 fX5_tryOn_89
          simp only [zlet_s, show ¬ (1 : Int32) = 0 by decide, if_false, z_in16 hk, z_cl (show k < 1000 by omega), b2, obnv_s, X_ask hk (nI c) b1]
          refine ⟨_, _, rfl, rfl, ?_⟩
          rw [b3.2 6 (by decide), b4.2 4 (by decide), ← d3, zR_1, b5.1.2]
          have hp1 : T1.2.1 0 k = 1 := by rw [b4.2 0 (by decide)]; exact hp
          refine b5.te hk hp1 ?_
          rw [b3.2 3 (by decide), b3.2 4 (by decide), b3.2 8 (by decide)]
          unfold rSt at a2 ⊢
          rcases a2 with e | e | e | e | e
          · exact Or.inl ⟨e.1, e.2.1, htn⟩
          · exact absurd e.1 h1
          · exact absurd e.1 hns
          · exact absurd e.1 h3
          · exact absurd e.1 h4
theorem sim_end2 {c : Nat} (hc : c < 1000000) : ∀ (d n k : Nat) (S T : zS), Rel 16 c S T → k + d = 16 → d < n → ∃ S' T', fX0_endThoseOf_2 n S (nI c) (nI k) = some S' ∧ fX5_tick_12 n T (nI k) = fX5_tick_53 64 T' 0 ∧ Rel 16 c S' T' := by
  intro d
  induction d with
  | zero =>
    intro n k S T h hk hn
    obtain ⟨n, rfl⟩ := fu hn
    obtain rfl : k = 16 := by omega
    refine ⟨S, T, ?_, ?_, h⟩
    · show bX0_endThoseOf_2 _ S _ _ = _
      unfold bX0_endThoseOf_2
      rw [if_pos z_16e]
    · show bX5_tick_12 _ T _ = _
      unfold bX5_tick_12
      rw [if_pos z_16e]; rfl
  | succ d ih =>
    intro n k S T h hk hn
    obtain ⟨n, rfl⟩ := fu hn
    have h16 : k < 16 := by omega
    have stay := ih n (k + 1) S T h (by omega) (by omega)
    show ∃ S' T', bX0_endThoseOf_2 (fX0_endThoseOf_2 n) S (nI c) (nI k) = some S' ∧ bX5_tick_12 (fX5_tick_12 n) T (nI k) = _ ∧ _
    unfold bX0_endThoseOf_2 bX5_tick_12
    rw [if_neg (z_16 h16), if_neg (z_16 h16)]
    simp only [z_in16 h16, z_cl (show k < 1000 by omega), fX0_endThoseOf_42, fX5_tick_45, zlet_s, z_sc, h.1.2]
    rcases h.there h16 with ⟨p0, -⟩ | ⟨p0, p1, p2⟩
    · rw [X_has0 h h16 p0]
      simp only [obnd_s, if_true, p0]
      exact stay
    · rw [X_has1 h h16 p0]
      simp only [obnd_s, show ¬ (1 : Int32) = 0 by decide, if_false, p0, ← h.2.2.1.2.1]
      by_cases h2 : S.2.1 3 k = 2
      · have he : S.2.1 5 k = -1 := by
          unfold rSt at p2
          rcases p2 with e | e | e | e | e
          · rw [h2] at e; exact absurd e.1 (by decide)
          · rw [h2] at e; exact absurd e.1 (by decide)
          · exact e.2.1
          · rw [h2] at e; exact absurd e.1 (by decide)
          · rw [h2] at e; exact absurd e.1 (by decide)
        rw [if_pos h2, he, if_neg (z_m1' hc)]
        exact stay
      · rw [if_neg h2]
        by_cases he : S.2.1 5 k = nI c
        · rw [if_pos he, if_pos he]
          obtain ⟨S1, T1, b1, b2, b3⟩ := sim_state h h16 p0 h2
          rw [b1, b2]
          exact ih n (k + 1) S1 T1 b3 (by omega) (by omega)
        · rw [if_neg he, if_neg he]
          exact stay
/-! ===== routers end ===== -/
abbrev kT (T : zS) : Option zS := obnv (fX5_passTrial T) (fun S_1 => (if (S_1.1 0) = (4 : Int32) then fX5_tick_119 S_1 else (if (S_1.1 0) = (8 : Int32) then fX5_tick_119 S_1 else some S_1)))
theorem M_tick53 : ∀ (d n k : Nat) (T : zS), k + d = 16 → d < n → ∃ T', fX5_tick_53 n T (nI k) = kT T' ∧ (∀ j, T'.1 j = T.1 j) ∧ (∀ j, j ≠ 8 → T'.2.1 j = T.2.1 j) ∧ (∀ a, a < k → T'.2.1 8 a = T.2.1 8 a) ∧ ∀ a, k ≤ a → a < 16 → T'.2.1 8 a = if T.2.1 8 a = 0 ∨ T.2.1 10 a = T.1 0 then 0 else 1 := by
  intro d
  induction d with
  | zero =>
    intro n k T hk hn
    obtain ⟨n, rfl⟩ := fu hn
    obtain rfl : k = 16 := by omega
    refine ⟨T, ?_, fun _ => rfl, fun _ _ => rfl, fun _ _ => rfl, fun a h1 h2 => absurd h2 (by omega)⟩
    show bX5_tick_53 _ T _ = _
    unfold bX5_tick_53
    rw [if_pos z_16e]
  | succ d ih =>
    intro n k T hk hn
    obtain ⟨n, rfl⟩ := fu hn
    have h16 : k < 16 := by omega
    have key : ∀ v : Int32, v = (if T.2.1 8 k = 0 ∨ T.2.1 10 k = T.1 0 then 0 else 1) → ∃ T', fX5_tick_53 n (zR T 8 k v) (nI (k + 1)) = kT T' ∧ (∀ j, T'.1 j = T.1 j) ∧ (∀ j, j ≠ 8 → T'.2.1 j = T.2.1 j) ∧ (∀ a, a < k → T'.2.1 8 a = T.2.1 8 a) ∧ ∀ a, k ≤ a → a < 16 → T'.2.1 8 a = if T.2.1 8 a = 0 ∨ T.2.1 10 a = T.1 0 then 0 else 1 := by
      intro v hv
      obtain ⟨T', e1, e2, e3, e4, e5⟩ := ih n (k + 1) (zR T 8 k v) (by omega) (by omega)
      refine ⟨T', e1, fun j => by rw [e2]; rfl, fun j hj => by rw [e3 j hj, zR_2, if_neg hj], fun a ha => by rw [e4 a (by omega), zR_2, if_pos rfl, ud_n (by omega)], fun a h1 h2 => ?_⟩
      by_cases hak : a = k
      · subst hak
        rw [e4 a (by omega), zR_2, if_pos rfl, ud_s, hv]
      · rw [e5 a (by omega) h2]
        simp only [zR_2, if_true, show ¬ (10 : Nat) = 8 by decide, if_false, ud_n hak, zR_1]
    show ∃ T', bX5_tick_53 (fX5_tick_53 n) T (nI k) = kT T' ∧ _
    unfold bX5_tick_53
    rw [if_neg (z_16 h16)]
    simp only [z_in16 h16, z_cl (show k < 1000 by omega), fX5_tick_90, fX5_tick_91, zlet_s, z_sc, z_b0, z_b1]
    by_cases h0 : T.2.1 8 k = 0
    · rw [if_pos h0]
      exact key 0 (by rw [if_pos (Or.inl h0)])
    · rw [if_neg h0]
      by_cases h1 : T.2.1 10 k = T.1 0
      · rw [if_pos h1]
        exact key 0 (by rw [if_pos (Or.inr h1)])
      · rw [if_neg h1]
        exact key 1 (by rw [if_neg (fun q => q.elim h0 h1)])
theorem X_rend7 (now : Int32) : ∀ (k f n : Nat) (ad : Nat → Nat) (S Tc : zS) (x2 : Int32), rRn n ad S Tc → k ≤ n → k < f → ((k = 0 ∧ x2 = -1) ∨ ∃ k', k = k' + 1 ∧ x2 = nI k') → (∀ i, k ≤ i → i < n → ¬ S.2.1 12 i = now) → ∃ (S' : zS) (n' : Nat) (ad' : Nat → Nat) (Tc' : zS), fX3_endThoseOf_7 f S now x2 = some S' ∧ fR S S' ∧ rRn n' ad' S' Tc' ∧ (∀ i, i < n' → ¬ S'.2.1 12 i = now) ∧ Tc'.2.1 9 = Tc.2.1 9 ∧ Tc'.2.1 10 = Tc.2.1 10 ∧ ∀ a, a < 16 → Tc'.2.1 8 a = Tc.2.1 8 a ∨ (Tc'.2.1 8 a = 0 ∧ Tc.2.1 10 a = now) := by
  intro k
  induction k with
  | zero =>
    intro f n ad S Tc x2 hr hk hf hx hi
    obtain ⟨f, rfl⟩ := fu hf
    obtain rfl : x2 = -1 := by
      rcases hx with h | ⟨k', h, -⟩
      · exact h.2
      · omega
    refine ⟨S, n, ad, Tc, ?_, ⟨fun _ _ => rfl, fun _ _ _ _ => rfl⟩, hr, fun i h => hi i (by omega) h, rfl, rfl, fun _ _ => Or.inl rfl⟩
    show bX3_endThoseOf_7 _ S _ _ = _
    unfold bX3_endThoseOf_7
    rw [if_pos (by decide)]
  | succ k ih =>
    intro f n ad S Tc x2 hr hk hf hx hi
    obtain ⟨f, rfl⟩ := fu hf
    obtain rfl : x2 = nI k := by
      rcases hx with h | ⟨k', h, e⟩
      · omega
      · obtain rfl : k = k' := by omega
        exact e
    have hx2 : ((k = 0 ∧ nI k + (-1) = -1) ∨ ∃ k', k = k' + 1 ∧ nI k + (-1) = nI k') := by
      cases k with
      | zero => exact Or.inl ⟨rfl, by decide⟩
      | succ k => exact Or.inr ⟨k, rfl, pk_m1 k⟩
    have hn := hr.1
    show ∃ (S' : zS) (n' : Nat) (ad' : Nat → Nat) (Tc' : zS), bX3_endThoseOf_7 (fX3_endThoseOf_7 f) S now (nI k) = some S' ∧ _
    unfold bX3_endThoseOf_7
    rw [if_neg (z_neg (by omega))]
    simp only [z_in4 (show k < 4 by omega), z_cl (show k < 1000 by omega), fX3_endThoseOf_26, zlet_s]
    by_cases he : S.2.1 12 k = now
    · rw [if_pos he]
      obtain ⟨S1, a1, a2, a3, a4, a5, a6⟩ := X_rmR hr.2.1 hr.1 (s := k) (by omega)
      rw [a1]
      simp only [obnv_s]
      have hr1 := hr.rm (s := k) (by omega) a3 a4 a5 a6 (T' := zR Tc 8 (ad k) 0) (fun j hj => by simp [zR_2, upd]) (fun j hj => by simp [zR_2]) (fun j hj => by simp [zR_2])
      obtain ⟨S', n', ad', Tc', b1, b2, b3, b4, b5, b6, b7⟩ := ih f (n - 1) _ S1 _ (nI k + (-1)) hr1 (by omega) (by omega) hx2 (fun i h1 h2 => by
        rw [a6]
        by_cases hik : i = k
        · rw [if_pos hik]; exact hi (n - 1) (by omega) (by omega)
        · rw [if_neg hik]; exact hi i (by omega) (by omega))
      refine ⟨S', n', ad', Tc', b1, ⟨fun j h => by rw [b2.1 j h, a2.1 j h], fun j h1 h2 h3 => by rw [b2.2 j h1 h2 h3, a2.2 j h1 h2 h3]⟩, b3, b4, by rw [b5]; simp [zR_2], by rw [b6]; simp [zR_2], fun a ha => ?_⟩
      have ek : Tc.2.1 10 (ad k) = now := by rw [← (hr.2.2.1 k (by omega)).2.2.2.1]; exact he
      rcases b7 a ha with e | e
      · by_cases hak : a = ad k
        · refine Or.inr ⟨?_, by rw [hak]; exact ek⟩
          rw [e]; simp [zR_2, hak, ud_s]
        · left
          rw [e]; simp [zR_2, ud_n hak]
      · right
        refine ⟨e.1, ?_⟩
        have := e.2
        simp [zR_2] at this
        exact this
    · rw [if_neg he]
      exact ih f n ad S Tc _ hr (by omega) (by omega) hx2 (fun i h1 h2 => by
        by_cases hik : i = k
        · rw [hik]; exact he
        · exact hi i (by omega) h2)
theorem sim_rend {c : Nat} {S T : zS} (h : Rel 16 c S T) : ∃ S' T', fX3_endThoseOf S (nI c) = some S' ∧ fX5_tick_53 64 T 0 = kT T' ∧ Rel 16 c S' T' := by
  obtain ⟨n, ad, hr⟩ := h.2.2.2.2.2.2.1
  have hr : rRn n ad S T := hr
  have hn := hr.1
  obtain ⟨T', t1, t2, t3, -, t5⟩ := M_tick53 16 64 0 T rfl (by decide)
  have hx : ((n = 0 ∧ S.1 15 - 1 = -1) ∨ ∃ k', n = k' + 1 ∧ S.1 15 - 1 = nI k') := by
    rw [hr.2.1]
    cases n with
    | zero => exact Or.inl ⟨rfl, by decide⟩
    | succ k => exact Or.inr ⟨k, rfl, nI_pred k⟩
  obtain ⟨S', n', ad', Tc', b1, b2, b3, b4, b5, b6, b7⟩ := X_rend7 (nI c) n 64 n ad S T (S.1 15 - 1) hr (Nat.le_refl _) (by omega) hx (fun i h1 h2 => absurd h2 (by omega))
  refine ⟨S', T', b1, t1, h.rout b2 ⟨t2, fun j a _ _ => t3 j a⟩ ?_⟩
  have e8 : ∀ a, a < 16 → T'.2.1 8 a = Tc'.2.1 8 a := fun a ha => by
    rw [t5 a (by omega) ha, h.1.2]
    have hz := (hr.2.2.2.2 a ha).1
    by_cases h0 : T.2.1 8 a = 0
    · rw [if_pos (Or.inl h0)]
      rcases b7 a ha with e | e
      · rw [e, h0]
      · rw [e.1]
    · have h1 : T.2.1 8 a = 1 := hz.resolve_left h0
      by_cases hb : T.2.1 10 a = nI c
      · rw [if_pos (Or.inr hb)]
        rcases (b3.2.2.2.2 a ha).1 with e | e
        · rw [e]
        · exfalso
          obtain ⟨i, hi, hia⟩ := (b3.2.2.2.2 a ha).2.mp e
          have := (b3.2.2.1 i hi).2.2.2.1
          rw [hia, b6, hb] at this
          exact b4 i hi this
      · rw [if_neg (fun q => q.elim h0 hb)]
        rcases b7 a ha with e | e
        · rw [e, h1]
        · exact absurd e.2 hb
  obtain ⟨c1, c2, c3, c4, c5⟩ := b3
  refine ⟨n', ad', c1, c2, fun i hi => ?_, c4, fun k hk => by rw [e8 k hk]; exact c5 k hk⟩
  have := c3 i hi
  rw [b5, b6] at this
  rw [t3 9 (by decide), t3 10 (by decide)]
  exact this
/-! ===== scalars alone; the clock ===== -/
theorem Rel.sc {q q' c : Nat} {S T S' T' : zS} (h : Rel q c S T) (s1 : ∀ j, j = 0 ∨ 6 < j → S'.1 j = S.1 j) (t1 : ∀ j, j = 0 ∨ j = 3 ∨ 7 < j → T'.1 j = T.1 j) (s2 : S'.2.1 = S.2.1) (t2 : T'.2.1 = T.2.1) (v : S'.1 1 = T'.1 4 ∧ S'.1 2 = T'.1 5 ∧ S'.1 3 = T'.1 6 ∧ S'.1 4 = T'.1 7 ∧ rTn q' S' T' ∧ S'.1 6 = T'.1 1 ∧ (S'.1 6 = 0 ∨ S'.1 6 = 1)) (hq : ∀ i, i < 16 → (i = q ↔ i = q') := by first | exact fun _ _ => Iff.rfl | exact fun i hi => ⟨fun e => by omega, fun e => by omega⟩) : Rel q' c S' T' := by
  obtain ⟨⟨a1, a2⟩, ⟨-, -, -, -, -, -, b7, b8⟩, ⟨d1, d2, d3, d4, d5, d6⟩, hE, ⟨g1, g2⟩, ⟨n0, k1, k2, k3, k4⟩, ⟨n', ad, r1, r2, r3, r4, r5⟩, ⟨n, p, o1, o2, o3, o4, o5, o6, o7, o8⟩⟩ := h
  obtain ⟨v1, v2, v3, v4, v5, v6, v9⟩ := v
  have e0 : pTh T' = pTh T := by funext k; simp only [pTh, t2]
  refine ⟨⟨?_, ?_⟩, ⟨v1, v2, v3, v4, v5, v6, ?_, ?_, v9⟩, ⟨?_, ?_, ?_, ?_, ?_, ?_⟩, ?_, ⟨?_, ?_⟩, ⟨n0, k1, ?_, ?_, ?_⟩, ⟨n', ad, r1, ?_, ?_, r4, ?_⟩, ⟨n, p, o1, o2, ?_, ?_, ?_, ?_, ?_, ?_⟩⟩
  · rw [s1 0 (by decide)]; exact a1
  · rw [t1 0 (by decide)]; exact a2
  · rw [s1 13 (by decide), t1 9 (by decide)]; exact b7
  · rw [s1 14 (by decide), t1 12 (by decide)]; exact b8.1
  · rw [s2, t2]; exact d1
  · rw [s2, t2]; exact d2
  · rw [s2, t2]; exact d3
  · rw [s2, t2]; exact d4
  · rw [s2, t2]; exact d5
  · rw [s2, t2]; exact d6
  · intro k hk
    have := hE k hk
    unfold rE1 at this ⊢
    rw [s2, t2]
    have e : (k = q) = (k = q') := propext (hq k hk)
    rw [← e]
    exact this
  · rw [s1 12 (by decide), e0]; exact g1
  · rw [e0]; exact g2
  · rw [s1 11 (by decide)]; exact k2
  · rw [t1 3 (by decide)]; exact k3
  · rw [s2, t2]; exact k4
  · rw [s1 15 (by decide)]; exact r2
  · rw [s2, t2]; exact r3
  · rw [t2]; exact r5
  · rw [s1 8 (by decide)]; exact o3
  · rw [t1 8 (by decide)]; exact o4
  · rw [s1 7 (by decide)]; exact o5
  · rw [s1 9 (by decide), t1 11 (by decide)]; exact o6
  · rw [s1 10 (by decide), t1 10 (by decide)]; exact o7
  · rw [s2, t2]; exact o8
theorem Rel.clock {q c c' : Nat} {S T : zS} (h : Rel q c S T) : Rel q c' (zI S 0 (nI c')) (zI T 0 (nI c')) := by
  obtain ⟨-, hV, hA, hE, hC, hK, hR, hO⟩ := h
  exact ⟨⟨rfl, rfl⟩, hV, hA, hE, hC, hK, hR, hO⟩
theorem i_sub {x b k : Int32} : x - b = k ↔ x = b + k := by
  constructor
  · intro e
    rw [← e, Int32.add_comm, Int32.sub_add_cancel]
  · intro e
    rw [e, Int32.add_comm, Int32.add_sub_cancel]
theorem i_510 {b : Int32} : ¬ b + 5 = b + 10 := fun e => by
  have h1 : b + 10 - b = 10 := i_sub.mpr rfl
  have h2 : b + 10 - b = 5 := i_sub.mpr e.symm
  rw [h1] at h2
  revert h2; decide
theorem sim_trial {c : Nat} {S T : zS} (h : Rel 16 c S T) : ∃ S' T', fX4_trialGoesOn S = some S' ∧ fX5_passTrial T = some T' ∧ Rel 16 c S' T' := by
  obtain ⟨v1, v2, v3, v4, v5, v6, -, -, v9⟩ := h.2.1
  unfold fX4_trialGoesOn fX5_passTrial
  rw [← v2]
  by_cases ht : S.1 2 = -1
  · rw [if_pos ht, if_pos ht]
    unfold fX5_passTrial_32
    rw [← v2, if_pos ht]
    exact ⟨S, T, rfl, rfl, h⟩
  · rw [if_neg ht, if_neg ht, h.1.1, h.1.2, ← v3]
    simp only [zlet_s, i_sub]
    by_cases h5 : nI c = S.1 3 + 5
    · rw [if_pos h5, if_pos h5]
      obtain ⟨S1, T1, a1, a2, a3, a4, a5⟩ := h.go 4 (S.1 2) 0 0 (nI c) rfl
      rw [a1, a2]
      simp only [obnv_s]
      unfold fX5_passTrial_32
      rw [a4.1 5 (by decide) (by decide) (by decide), ← v2, if_neg ht, a4.1 0 (by decide) (by decide) (by decide), a4.1 6 (by decide) (by decide) (by decide), ← v3, h.1.2, h5, if_neg i_510]
      exact ⟨S1, T1, rfl, rfl, a5⟩
    · rw [if_neg h5, if_neg h5]
      unfold fX5_passTrial_32
      rw [← v2, if_neg ht, h.1.2, ← v3]
      by_cases h10 : nI c = S.1 3 + 10
      · rw [if_pos h10, if_pos h10]
        simp only [zlet_s]
        refine ⟨_, _, rfl, rfl, h.sc (fun j hj => by simp [zI_1, show ¬ j = 2 by omega, show ¬ j = 1 by omega]) (fun j hj => by simp [zI_1, show ¬ j = 5 by omega, show ¬ j = 4 by omega]) rfl rfl ?_⟩
        exact ⟨rfl, rfl, v3, v4, v5, v6, v9⟩
      · rw [if_neg h10, if_neg h10]
        exact ⟨S, T, rfl, rfl, h⟩
theorem sim_sol {c : Nat} {S T : zS} (h : Rel 16 c S T) : ∃ S' T', fX4_solicitIfDue S = some S' ∧ (if (T.1 0) = (4 : Int32) then fX5_tick_119 T else (if (T.1 0) = (8 : Int32) then fX5_tick_119 T else some T)) = some T' ∧ Rel 16 c S' T' := by
  obtain ⟨v1, v2, v3, v4, v5, v6, -⟩ := h.2.1
  have key : ∃ S' T', fX4_solicitIfDue_22 S 1 = some S' ∧ fX5_tick_119 T = some T' ∧ Rel 16 c S' T' := by
    unfold fX4_solicitIfDue_22 fX5_tick_119
    simp only [zlet_s, show ¬ (1 : Int32) = 0 by decide, if_false, ← v6]
    by_cases h6 : S.1 6 = 0
    · rw [if_pos h6, if_pos h6, h.1.1]
      obtain ⟨S1, T1, a1, a2, a3, a4, a5⟩ := h.go 5 (-1) 0 0 (nI c) rfl
      rw [a1, a2]
      exact ⟨S1, T1, rfl, rfl, a5⟩
    · rw [if_neg h6, if_neg h6]
      exact ⟨S, T, rfl, rfl, h⟩
  unfold fX4_solicitIfDue fX4_solicitIfDue_17
  rw [h.1.1, h.1.2]
  by_cases h4 : nI c = 4
  · rw [if_pos h4, if_pos h4]; exact key
  · rw [if_neg h4, if_neg h4]
    by_cases h8 : nI c = 8
    · rw [if_pos h8, if_pos h8]; exact key
    · rw [if_neg h8, if_neg h8]
      refine ⟨S, T, ?_, rfl, h⟩
      unfold fX4_solicitIfDue_22
      simp only [zlet_s, if_true]
theorem sim_tick {c : Nat} (hc : c < 900000) {S T : zS} (h : Rel 16 c S T) : ∃ S' T', fX4_tickPasses S = some S' ∧ fX5_tick T = some T' ∧ Rel 16 (c + 1) S' T' := by
  have h1 := h.clock (c' := c + 1)
  unfold fX4_tickPasses fX5_tick
  rw [h.1.1, h.1.2]
  simp only [zlet_s, z_sc]
  obtain ⟨S2, T2, a1, a2, a3⟩ := sim_end2 (c := c + 1) (by omega) 16 64 0 _ _ h1 rfl (by decide)
  have a1' : fX0_endThoseOf (zI S 0 (nI (c + 1))) ((zI S 0 (nI (c + 1))).1 0) = some S2 := a1
  have a2' : fX5_tick_12 64 (zI T 0 (nI (c + 1))) 0 = fX5_tick_53 64 T2 0 := a2
  rw [a1', a2']
  simp only [obnv_s]
  obtain ⟨S3, T3, b1, b2, b3⟩ := sim_rend a3
  rw [a3.1.1, b1, b2]
  simp only [obnv_s]
  obtain ⟨S4, T4, c1, c2, c3⟩ := sim_trial b3
  unfold kT
  rw [c1, c2]
  simp only [obnv_s]
  obtain ⟨S5, T5, d1, d2, d3⟩ := sim_sol c3
  rw [d1, d2]
  exact ⟨S5, T5, rfl, rfl, d3⟩
theorem sim_pass16 {N : Nat} (hN : N ≤ 60) : ∀ (d f k c : Nat) (S T : zS), k + d = N → d < f → c + d < 900000 → Rel 16 c S T → ∃ r S' T', fX4_pass_16 f S (nI N) (nI k) = some (r, S') ∧ fX5_pass_15 f T (nI N) (nI k) = some (r, T') ∧ Rel 16 (c + d) S' T' := by
  intro d
  induction d with
  | zero =>
    intro f k c S T hk hf hc h
    obtain ⟨f, rfl⟩ := fu hf
    refine ⟨nI c, S, T, ?_, ?_, h⟩
    · show bX4_pass_16 _ S _ _ = _
      unfold bX4_pass_16
      rw [if_pos ((z_le (by omega) (by omega)).mpr (by omega)), h.1.1]
    · show bX5_pass_15 _ T _ _ = _
      unfold bX5_pass_15
      rw [if_pos ((z_le (by omega) (by omega)).mpr (by omega)), h.1.2]
  | succ d ih =>
    intro f k c S T hk hf hc h
    obtain ⟨f, rfl⟩ := fu hf
    obtain ⟨S1, T1, a1, a2, a3⟩ := sim_tick (by omega) h
    obtain ⟨r, S', T', b1, b2, b3⟩ := ih f (k + 1) (c + 1) S1 T1 (by omega) (by omega) (by omega) a3
    refine ⟨r, S', T', ?_, ?_, by rw [show c + (d + 1) = c + 1 + d by omega]; exact b3⟩
    · show bX4_pass_16 _ S _ _ = _
      unfold bX4_pass_16
      rw [if_neg (fun e => absurd ((z_le (by omega) (by omega)).mp e) (by omega)), a1]
      simp only [obnv_s, zlet_s, z_sc]
      exact b1
    · show bX5_pass_15 _ T _ _ = _
      unfold bX5_pass_15
      rw [if_neg (fun e => absurd ((z_le (by omega) (by omega)).mp e) (by omega)), a2]
      simp only [obnv_s, zlet_s, z_sc]
      exact b2
theorem sim_pass {c : Nat} (hc : c < 800000) {S T : zS} (h : Rel 16 c S T) (x : Int32) : ∃ r S' T' c', fX4_pass S x = some (r, S') ∧ fX5_pass T x = some (r, T') ∧ Rel 16 c' S' T' ∧ c' ≤ c + 60 := by
  unfold fX4_pass fX5_pass fX5_within
  by_cases h1 : x < 1
  · rw [if_pos h1, if_pos h1]
    exact ⟨-102, S, T, c, rfl, rfl, h, by omega⟩
  · rw [if_neg h1, if_neg h1]
    by_cases h2 : x ≤ 60
    · rw [if_pos h2, if_neg (Int32.not_lt.mpr h2)]
      have hx : ∃ N, N ≤ 60 ∧ x = nI N := nI_of2 (M := 60) (by decide) (fun q => h1 (by
        rw [Int32.lt_iff_toInt_lt] at q ⊢
        have e0 : (0 : Int32).toInt = 0 := by decide
        have e1 : (1 : Int32).toInt = 1 := by decide
        omega)) h2
      obtain ⟨N, hN, rfl⟩ := hx
      simp only [obnd_s, show ¬ (1 : Int32) = 0 by decide, if_false, zlet_s]
      obtain ⟨r, S', T', a, b, d⟩ := sim_pass16 hN N 64 0 c S T (by omega) (by omega) (by omega) h
      exact ⟨r, S', T', c + N, a, b, d, by omega⟩
    · rw [if_neg h2, if_pos (Int32.not_le.mp h2)]
      exact ⟨-102, S, T, c, rfl, rfl, h, by omega⟩
