/-! ===== routers ===== -/
def fR (S S' : zS) : Prop := (∀ j, j ≠ 15 → S'.1 j = S.1 j) ∧ ∀ j, j ≠ 10 → j ≠ 11 → j ≠ 12 → S'.2.1 j = S.2.1 j
def fRm (T T' : zS) : Prop := (∀ j, T'.1 j = T.1 j) ∧ ∀ j, j ≠ 8 → j ≠ 9 → j ≠ 10 → T'.2.1 j = T.2.1 j
theorem Rel.rout {q c : Nat} {S T S' T' : zS} (h : Rel q c S T) (hS : fR S S') (hT : fRm T T') (hR : rR S' T') : Rel q c S' T' := by
  obtain ⟨⟨a1, a2⟩, ⟨b1, b2, b3, b4, b5, b6, b7, b8⟩, ⟨d1, d2, d3, d4, d5, d6⟩, hE, ⟨g1, g2⟩, ⟨n0, k1, k2, k3, k4⟩, -, ⟨n, p, o1, o2, o3, o4, o5, o6, o7, o8⟩⟩ := h
  obtain ⟨s1, s2⟩ := hS
  obtain ⟨t1, t2⟩ := hT
  have e0 : pTh T' = pTh T := by funext k; simp only [pTh, t2 0 (by decide) (by decide) (by decide)]
  refine ⟨⟨?_, ?_⟩, ⟨?_, ?_, ?_, ?_, ?_, ?_, ?_, ?_⟩, ⟨?_, ?_, ?_, ?_, ?_, ?_⟩, ?_, ⟨?_, ?_⟩, ⟨n0, k1, ?_, ?_, ?_⟩, hR, ⟨n, p, o1, o2, ?_, ?_, ?_, ?_, ?_, ?_⟩⟩
  · rw [s1 0 (by decide)]; exact a1
  · rw [t1 0]; exact a2
  · rw [s1 1 (by decide), t1 4]; exact b1
  · rw [s1 2 (by decide), t1 5]; exact b2
  · rw [s1 3 (by decide), t1 6]; exact b3
  · rw [s1 4 (by decide), t1 7]; exact b4
  · unfold rTn at b5 ⊢; rw [s1 5 (by decide), t1 2]; exact b5
  · rw [s1 6 (by decide), t1 1]; exact b6
  · rw [s1 13 (by decide), t1 9]; exact b7
  · rw [s1 14 (by decide), t1 12, s1 6 (by decide)]; exact b8
  · rw [s2 4 (by decide) (by decide) (by decide), t2 2 (by decide) (by decide) (by decide)]; exact d1
  · rw [s2 5 (by decide) (by decide) (by decide), t2 3 (by decide) (by decide) (by decide)]; exact d2
  · rw [s2 6 (by decide) (by decide) (by decide), t2 4 (by decide) (by decide) (by decide)]; exact d3
  · rw [s2 7 (by decide) (by decide) (by decide), t2 5 (by decide) (by decide) (by decide)]; exact d4
  · rw [s2 8 (by decide) (by decide) (by decide), t2 6 (by decide) (by decide) (by decide)]; exact d5
  · rw [s2 9 (by decide) (by decide) (by decide), t2 7 (by decide) (by decide) (by decide)]; exact d6
  · intro k hk
    have := hE k hk
    unfold rE1 at this ⊢
    rw [s2 8 (by decide) (by decide) (by decide), s2 3 (by decide) (by decide) (by decide), s2 4 (by decide) (by decide) (by decide), s2 5 (by decide) (by decide) (by decide), s2 6 (by decide) (by decide) (by decide), t2 0 (by decide) (by decide) (by decide), t2 1 (by decide) (by decide) (by decide)]
    exact this
  · rw [s1 12 (by decide), e0]; exact g1
  · rw [e0]; exact g2
  · rw [s1 11 (by decide)]; exact k2
  · rw [t1 3]; exact k3
  · rw [s2 1 (by decide) (by decide) (by decide), s2 2 (by decide) (by decide) (by decide), t2 11 (by decide) (by decide) (by decide), t2 12 (by decide) (by decide) (by decide)]; exact k4
  · rw [s1 8 (by decide)]; exact o3
  · rw [t1 8]; exact o4
  · rw [s1 7 (by decide)]; exact o5
  · rw [s1 9 (by decide), t1 11]; exact o6
  · rw [s1 10 (by decide), t1 10]; exact o7
  · rw [s2 0 (by decide) (by decide) (by decide), t2 13 (by decide) (by decide) (by decide)]; exact o8
def rRn (n : Nat) (ad : Nat → Nat) (S T : zS) : Prop := n ≤ 4 ∧ S.1 15 = nI n ∧ (∀ i, i < n → ad i < 16 ∧ S.2.1 10 i = nI (ad i) ∧ S.2.1 11 i = T.2.1 9 (ad i) ∧ S.2.1 12 i = T.2.1 10 (ad i) ∧ (S.2.1 11 i = -1 ∨ S.2.1 11 i = 0 ∨ S.2.1 11 i = 1)) ∧ (∀ i j, i < n → j < n → ad i = ad j → i = j) ∧ ∀ k, k < 16 → (T.2.1 8 k = 0 ∨ T.2.1 8 k = 1) ∧ (T.2.1 8 k = 1 ↔ ∃ i, i < n ∧ ad i = k)
theorem rRn.r {n : Nat} {ad : Nat → Nat} {S T : zS} (h : rRn n ad S T) : rR S T := ⟨n, ad, h⟩
theorem X_slot2 {n : Nat} {ad : Nat → Nat} {S T : zS} (h : rRn n ad S T) {k : Nat} (hk : k < 16) : ∀ (d f i : Nat), i + d = n → d < f → (∀ j, j < i → ¬ ad j = k) → ∃ v, fX3_slotOf_2 f S (nI k) (nI i) = some (v, S) ∧ ((v = -1 ∧ T.2.1 8 k = 0) ∨ ∃ i, i < n ∧ v = nI i ∧ ad i = k ∧ T.2.1 8 k = 1) := by
  obtain ⟨h1, h2, h3, h4, h5⟩ := h
  intro d
  induction d with
  | zero =>
    intro f i hi hf hj
    obtain ⟨f, rfl⟩ := fu hf
    show ∃ v, bX3_slotOf_2 _ S _ _ = some (v, S) ∧ _
    unfold bX3_slotOf_2
    rw [h2, if_pos ((z_le (by omega) (by omega)).mpr (by omega))]
    refine ⟨-1, rfl, Or.inl ⟨rfl, ?_⟩⟩
    rcases (h5 k hk).1 with e | e
    · exact e
    · obtain ⟨j, a, b⟩ := (h5 k hk).2.mp e
      exact absurd b (hj j (by omega))
  | succ d ih =>
    intro f i hi hf hj
    obtain ⟨f, rfl⟩ := fu hf
    show ∃ v, bX3_slotOf_2 _ S _ _ = some (v, S) ∧ _
    unfold bX3_slotOf_2
    obtain ⟨g1, g2, -⟩ := h3 i (by omega)
    rw [h2, if_neg (fun e => absurd ((z_le (by omega) (by omega)).mp e) (by omega)), z_in4 (by omega), z_cl (by omega), g2]
    by_cases hik : ad i = k
    · rw [if_pos (by rw [hik])]
      exact ⟨nI i, rfl, Or.inr ⟨i, by omega, rfl, hik, (h5 k hk).2.mpr ⟨i, by omega, hik⟩⟩⟩
    · rw [if_neg (fun e => hik ((z_eq (by omega) (by omega)).mp e))]
      simp only [zlet_s, z_sc]
      exact ih f (i + 1) (by omega) (by omega) (fun j hj2 => by
        by_cases hji : j = i
        · rw [hji]; exact hik
        · exact hj j (by omega))
theorem X_slot {n : Nat} {ad : Nat → Nat} {S T : zS} (h : rRn n ad S T) {k : Nat} (hk : k < 16) : ∃ v, fX3_slotOf S (nI k) = some (v, S) ∧ ((v = -1 ∧ T.2.1 8 k = 0) ∨ ∃ i, i < n ∧ v = nI i ∧ ad i = k ∧ T.2.1 8 k = 1) :=
  X_slot2 h hk n 64 0 (by omega) (by have := h.1; omega) (fun j hj => absurd hj (by omega))
theorem X_rmR {n s : Nat} {S : zS} (h2 : S.1 15 = nI n) (h4 : n ≤ 4) (hs : s < n) : ∃ S', fX3_removeSlot S (nI s) = some S' ∧ fR S S' ∧ S'.1 15 = nI (n - 1) ∧ (∀ i, S'.2.1 10 i = if i = s then S.2.1 10 (n - 1) else S.2.1 10 i) ∧ (∀ i, S'.2.1 11 i = if i = s then S.2.1 11 (n - 1) else S.2.1 11 i) ∧ ∀ i, S'.2.1 12 i = if i = s then S.2.1 12 (n - 1) else S.2.1 12 i := by
  unfold fX3_removeSlot
  simp only [zlet_s, zI_1, if_true, zR_1, h2, z_pred (show 1 ≤ n by omega), z_in4 (show n - 1 < 4 by omega), z_in4 (show s < 4 by omega), z_cl (show n - 1 < 1000 by omega), z_cl (show s < 1000 by omega)]
  refine ⟨_, rfl, ⟨fun j hj => by simp [zI_1, zR_1, hj], fun j a b d => by simp [zI_2, zR_2, a, b, d]⟩, by simp [zI_1, zR_1], fun i => ?_, fun i => ?_, fun i => ?_⟩
  all_goals simp [zI_2, zR_2, upd]
theorem rRn.rm {n s : Nat} {ad : Nat → Nat} {S T S' T' : zS} (h : rRn n ad S T) (hs : s < n) (e15 : S'.1 15 = nI (n - 1)) (a10 : ∀ i, S'.2.1 10 i = if i = s then S.2.1 10 (n - 1) else S.2.1 10 i) (a11 : ∀ i, S'.2.1 11 i = if i = s then S.2.1 11 (n - 1) else S.2.1 11 i) (a12 : ∀ i, S'.2.1 12 i = if i = s then S.2.1 12 (n - 1) else S.2.1 12 i) (t8 : ∀ k, k < 16 → T'.2.1 8 k = if k = ad s then 0 else T.2.1 8 k) (t9 : ∀ k, k ≠ ad s → T'.2.1 9 k = T.2.1 9 k) (t10 : ∀ k, k ≠ ad s → T'.2.1 10 k = T.2.1 10 k) : rRn (n - 1) (fun i => if i = s then ad (n - 1) else ad i) S' T' := by
  obtain ⟨h1, h2, h3, h4, h5⟩ := h
  refine ⟨by omega, e15, fun i hi => ?_, fun i j hi hj e => ?_, fun k hk => ?_⟩
  · rw [a10, a11, a12]
    by_cases his : i = s
    · simp only [if_pos his]
      have hne : ad (n - 1) ≠ ad s := fun e => by have := h4 _ _ (by omega) hs e; omega
      rw [t9 _ hne, t10 _ hne]
      exact h3 (n - 1) (by omega)
    · simp only [if_neg his]
      have hne : ad i ≠ ad s := fun e => his (h4 _ _ (by omega) hs e)
      rw [t9 _ hne, t10 _ hne]
      exact h3 i (by omega)
  · by_cases his : i = s
    · by_cases hjs : j = s
      · omega
      · simp only [his, hjs, if_true, if_false] at e
        have := h4 _ _ (by omega) (by omega) e
        omega
    · by_cases hjs : j = s
      · simp only [his, hjs, if_true, if_false] at e
        have := h4 _ _ (by omega) (by omega) e
        omega
      · simp only [his, hjs, if_false] at e
        exact h4 _ _ (by omega) (by omega) e
  · rw [t8 k hk]
    by_cases hks : k = ad s
    · rw [if_pos hks]
      refine ⟨Or.inl rfl, ⟨fun e => absurd e (by decide), fun ⟨i, hi, e⟩ => ?_⟩⟩
      exfalso
      by_cases his : i = s
      · simp only [his, if_true] at e
        have := h4 _ _ (by omega) hs (e.trans hks)
        omega
      · simp only [his, if_false] at e
        exact his (h4 _ _ (by omega) hs (e.trans hks))
    · rw [if_neg hks]
      refine ⟨(h5 k hk).1, (h5 k hk).2.trans ⟨fun ⟨i, hi, e⟩ => ?_, fun ⟨i, hi, e⟩ => ?_⟩⟩
      · by_cases hin : i = n - 1
        · refine ⟨s, ?_, by simp only [if_true]; rw [← hin]; exact e⟩
          by_cases hsn : s = n - 1
          · rw [hin, ← hsn] at e; exact absurd e.symm hks
          · omega
        · refine ⟨i, by omega, ?_⟩
          have his : i ≠ s := fun q => hks (by rw [← e, q])
          simp only [his, if_false]; exact e
      · by_cases his : i = s
        · simp only [his, if_true] at e; exact ⟨n - 1, by omega, e⟩
        · simp only [his, if_false] at e; exact ⟨i, by omega, e⟩
theorem sim_rrem {S T T' : zS} (h : rR S T) {k : Nat} (hk : k < 16) (t8 : ∀ j, j < 16 → T'.2.1 8 j = if j = k then 0 else T.2.1 8 j) (t9 : ∀ j, j ≠ k → T'.2.1 9 j = T.2.1 9 j) (t10 : ∀ j, j ≠ k → T'.2.1 10 j = T.2.1 10 j) : ∃ S', fX3_remove S (nI k) = some S' ∧ fR S S' ∧ rR S' T' := by
  obtain ⟨n, ad, h⟩ := h
  have h : rRn n ad S T := h
  obtain ⟨v, e1, e2⟩ := X_slot h hk
  unfold fX3_remove
  rw [e1]
  simp only [obnd_s, zlet_s]
  rcases e2 with ⟨rfl, e⟩ | ⟨i, hi, rfl, e, e8⟩
  · rw [if_pos rfl]
    obtain ⟨h1, h2, h3, h4, h5⟩ := h
    refine ⟨S, rfl, ⟨fun _ _ => rfl, fun _ _ _ _ => rfl⟩, n, ad, h1, h2, fun i hi => ?_, h4, fun j hj => ?_⟩
    · have hne : ad i ≠ k := fun q => by have := (h5 k hk).2.mpr ⟨i, hi, q⟩; rw [e] at this; exact absurd this (by decide)
      rw [t9 _ hne, t10 _ hne]
      exact h3 i hi
    · rw [t8 j hj]
      by_cases hjk : j = k
      · subst hjk; rw [if_pos rfl]; have := h5 j hj; rw [e] at this; exact this
      · rw [if_neg hjk]; exact h5 j hj
  · rw [if_neg (z_m1 (by have := h.1; omega))]
    obtain ⟨S', a1, a2, a3, a4, a5, a6⟩ := X_rmR h.2.1 h.1 hi
    rw [a1]
    simp only [obnv_s]
    refine ⟨S', rfl, a2, (h.rm hi a3 a4 a5 a6 (T' := T') ?_ ?_ ?_).r⟩
    · rw [e]; exact t8
    · rw [e]; exact t9
    · rw [e]; exact t10
theorem rRn.put {n s : Nat} {ad : Nat → Nat} {S T S' T' : zS} {rk en : Int32} (h : rRn n ad S T) {m k : Nat} (hk : k < 16) (hs : (s < n ∧ ad s = k ∧ m = n) ∨ (s = n ∧ n < 4 ∧ T.2.1 8 k = 0 ∧ m = n + 1)) (hrk : rk = -1 ∨ rk = 0 ∨ rk = 1) (e15 : S'.1 15 = nI m) (a10 : S'.2.1 10 = upd (S.2.1 10) s (nI k)) (a11 : S'.2.1 11 = upd (S.2.1 11) s rk) (a12 : S'.2.1 12 = upd (S.2.1 12) s en) (t8 : T'.2.1 8 = upd (T.2.1 8) k 1) (t9 : T'.2.1 9 = upd (T.2.1 9) k rk) (t10 : T'.2.1 10 = upd (T.2.1 10) k en) : rRn m (fun i => if i = s then k else ad i) S' T' := by
  obtain ⟨h1, h2, h3, h4, h5⟩ := h
  have hm : m ≤ 4 := by omega
  have hmn : ∀ i, i < m → i ≠ s → i < n := fun i a b => by omega
  have hadk : ∀ i, i < n → i ≠ s → ad i ≠ k := fun i hi his e => by
    rcases hs with ⟨a, b, -⟩ | ⟨a, b, d, -⟩
    · exact his (h4 _ _ hi a (e.trans b.symm))
    · have := (h5 k hk).2.mpr ⟨i, hi, e⟩
      rw [d] at this; exact absurd this (by decide)
  refine ⟨hm, e15, fun i hi => ?_, fun i j hi hj e => ?_, fun j hj => ?_⟩
  · rw [a10, a11, a12, t9, t10]
    by_cases his : i = s
    · subst his
      simp only [if_true, ud_s]
      exact ⟨hk, trivial, trivial, trivial, hrk⟩
    · have hne := hadk i (hmn i hi his) his
      simp only [his, if_false, ud_n his, ud_n hne]
      exact h3 i (hmn i hi his)
  · by_cases his : i = s
    · by_cases hjs : j = s
      · omega
      · simp only [his, hjs, if_true, if_false] at e
        exact absurd e.symm (hadk j (hmn j hj hjs) hjs)
    · by_cases hjs : j = s
      · simp only [his, hjs, if_true, if_false] at e
        exact absurd e (hadk i (hmn i hi his) his)
      · simp only [his, hjs, if_false] at e
        exact h4 _ _ (hmn i hi his) (hmn j hj hjs) e
  · rw [t8]
    by_cases hjk : j = k
    · subst hjk
      rw [ud_s]
      exact ⟨Or.inr rfl, ⟨fun _ => ⟨s, by omega, by simp⟩, fun _ => rfl⟩⟩
    · rw [ud_n hjk]
      refine ⟨(h5 j hj).1, (h5 j hj).2.trans ⟨fun ⟨i, hi, e⟩ => ?_, fun ⟨i, hi, e⟩ => ?_⟩⟩
      · have his : i ≠ s := fun q => by
          rcases hs with ⟨a, b, -⟩ | ⟨a, -⟩
          · exact hjk (by rw [← e, q, b])
          · omega
        exact ⟨i, by omega, by simp only [his, if_false]; exact e⟩
      · by_cases his : i = s
        · simp only [his, if_true] at e; exact absurd e.symm hjk
        · simp only [his, if_false] at e; exact ⟨i, hmn i hi his, e⟩
theorem X_put38 (S : zS) {s : Nat} (hs : s < 4) (a rk en : Int32) : fX3_put_38 S a rk en (nI s) = some (zR (zR (zR S 10 s a) 11 s rk) 12 s en) := by
  unfold fX3_put_38
  simp only [zlet_s, z_in4 hs, z_cl (show s < 1000 by omega)]
theorem sim_rput {S T : zS} (h : rR S T) {k : Nat} (hk : k < 16) {rk en : Int32} (hrk : rk = -1 ∨ rk = 0 ∨ rk = 1) (hroom : S.1 15 < 4 ∨ T.2.1 8 k = 1) : ∃ S', fX3_put S (nI k) rk en = some S' ∧ fR S S' ∧ rR S' (zR (zR (zR T 8 k 1) 9 k rk) 10 k en) := by
  obtain ⟨n, ad, h⟩ := h
  have h : rRn n ad S T := h
  obtain ⟨v, e1, e2⟩ := X_slot h hk
  have hn := h.1
  unfold fX3_put
  rw [e1]
  simp only [obnd_s, zlet_s]
  rcases e2 with ⟨rfl, e⟩ | ⟨i, hi, rfl, e, e8⟩
  · rw [if_pos rfl]
    have hlt : S.1 15 < 4 := by
      rcases hroom with q | q
      · exact q
      · rw [e] at q; exact absurd q (by decide)
    have hn4 : n < 4 := by
      rw [h.2.1] at hlt
      exact (z_lt (a := n) (b := 4) (by omega) (by omega)).mp hlt
    rw [if_pos hlt, h.2.1, X_put38 _ hn4]
    refine ⟨_, rfl, ⟨fun j hj => by simp [zI_1, zR_1, hj], fun j a b d => by simp [zI_2, zR_2, a, b, d]⟩, (h.put (s := n) (m := n + 1) (rk := rk) (en := en) hk (Or.inr ⟨rfl, hn4, e, rfl⟩) hrk (by simp [zI_1, zR_1, z_sc]) (by simp [zI_2, zR_2]) (by simp [zI_2, zR_2]) (by simp [zI_2, zR_2]) (by simp [zR_2]) (by simp [zR_2]) (by simp [zR_2])).r⟩
  · rw [if_neg (z_m1 (by omega)), X_put38 _ (by omega)]
    refine ⟨_, rfl, ⟨fun j hj => by simp [zR_1], fun j a b d => by simp [zR_2, a, b, d]⟩, (h.put (s := i) (m := n) (rk := rk) (en := en) hk (Or.inl ⟨hi, e, rfl⟩) hrk (by simp [zR_1, h.2.1]) (by simp [zR_2]) (by simp [zR_2]) (by simp [zR_2]) (by simp [zR_2]) (by simp [zR_2]) (by simp [zR_2])).r⟩
/-! how many -/
abbrev pRo (T : zS) : Nat → Bool := fun k => decide (¬ T.2.1 8 k = 0)
theorem inj_cnt (ad : Nat → Nat) : ∀ n, (∀ i, i < n → ad i < 16) → (∀ i j, i < n → j < n → ad i = ad j → i = j) → ∃ q : Nat → Bool, (∀ k, q k = true ↔ ∃ i, i < n ∧ ad i = k) ∧ zcn q 16 = n := by
  intro n
  induction n with
  | zero => intro _ _; exact ⟨fun _ => false, fun k => ⟨fun e => absurd e Bool.false_ne_true, fun ⟨i, hi, _⟩ => absurd hi (by omega)⟩, by decide⟩
  | succ n ih =>
    intro h1 h2
    obtain ⟨q, e1, e2⟩ := ih (fun i hi => h1 i (by omega)) (fun i j hi hj e => h2 i j (by omega) (by omega) e)
    have hq : q (ad n) = false := by
      cases hh : q (ad n) with
      | false => rfl
      | true =>
        obtain ⟨i, hi, e⟩ := (e1 _).mp hh
        have := h2 i n (by omega) (by omega) e
        omega
    refine ⟨fun k => if k = ad n then true else q k, fun k => ?_, ?_⟩
    · by_cases hk : k = ad n
      · simp only [hk, if_true, true_iff]
        exact ⟨n, by omega, rfl⟩
      · simp only [hk, if_false]
        rw [e1]
        exact ⟨fun ⟨i, hi, e⟩ => ⟨i, by omega, e⟩, fun ⟨i, hi, e⟩ => ⟨i, by
          have : i ≠ n := fun q => hk (by rw [← e, q])
          omega, e⟩⟩
    · have := zcn_on (p := q) (q := fun k => if k = ad n then true else q k) (k := ad n) hq (by simp) (fun j hj => by simp [hj]) 16
      rw [this, if_pos (h1 n (by omega)), e2]
theorem rRn.cnt {n : Nat} {ad : Nat → Nat} {S T : zS} (h : rRn n ad S T) : zcn (pRo T) 16 = n := by
  obtain ⟨h1, h2, h3, h4, h5⟩ := h
  obtain ⟨q, e1, e2⟩ := inj_cnt ad n (fun i hi => (h3 i hi).1) h4
  rw [← e2]
  refine zcn_congr (fun k hk => ?_)
  have hz := h5 k hk
  cases hq : q k with
  | true =>
    have := hz.2.mpr ((e1 k).mp hq)
    simp [pRo, this]
  | false =>
    rcases hz.1 with e | e
    · simp [pRo, e]
    · have := (e1 k).mpr (hz.2.mp e)
      rw [hq] at this; exact absurd this (by decide)
theorem M_routers_4 (T : zS) : ∀ (d n k : Nat), k + d = 16 → d < n → fX5_routers_4 n T (nI (zcn (pRo T) k)) (nI k) = some (nI (zcn (pRo T) 16), T) := by
  intro d
  induction d with
  | zero =>
    intro n k hk hn
    obtain ⟨n, rfl⟩ := fu hn
    obtain rfl : k = 16 := by omega
    show bX5_routers_4 _ T _ _ = _
    unfold bX5_routers_4
    rw [if_pos z_16e]
  | succ d ih =>
    intro n k hk hn
    obtain ⟨n, rfl⟩ := fu hn
    have h16 : k < 16 := by omega
    show bX5_routers_4 _ T _ _ = _
    unfold bX5_routers_4
    rw [if_neg (z_16 h16), z_in16 h16, z_cl (by omega)]
    have hi := ih n (k + 1) (by omega) (by omega)
    by_cases h0 : T.2.1 8 k = 0
    · rw [if_pos h0]
      simp only [fX5_routers_25, zlet, z_sc]
      rw [← hi]
      simp [zcn, h0]
    · rw [if_neg h0]
      simp only [fX5_routers_25, zlet, z_sc]
      rw [← hi]
      simp [zcn, h0]
theorem M_routers (T : zS) : fX5_routers T = some (nI (zcn (pRo T) 16), T) := M_routers_4 T 16 64 0 rfl (by decide)
