/-! ===== kept hops ===== -/
def fK (S S' : zS) : Prop := (∀ j, j ≠ 11 → S'.1 j = S.1 j) ∧ ∀ j, j ≠ 1 → j ≠ 2 → S'.2.1 j = S.2.1 j
def fKm (T T' : zS) : Prop := (∀ j, j ≠ 3 → T'.1 j = T.1 j) ∧ ∀ j, j ≠ 11 → j ≠ 12 → T'.2.1 j = T.2.1 j
theorem zcn_sur {p : Nat → Bool} : ∀ {n j : Nat}, j < zcn p n → ∃ i, i < n ∧ p i = true ∧ zcn p i = j := by
  intro n
  induction n with
  | zero => intro j h; exact absurd h (by simp [zcn])
  | succ n ih =>
    intro j h
    have e : zcn p (n + 1) = zcn p n + (if p n then 1 else 0) := rfl
    by_cases hj : j < zcn p n
    · obtain ⟨i, a, b, d⟩ := ih hj
      exact ⟨i, by omega, b, d⟩
    · cases hp : p n with
      | false => rw [e, hp] at h; simp at h; omega
      | true => rw [e, hp] at h; simp at h; exact ⟨n, by omega, hp, by omega⟩
theorem z_pred {m : Nat} (h : 1 ≤ m) : nI m - (1 : Int32) = nI (m - 1) := by
  obtain ⟨k, rfl⟩ : ∃ k, m = k + 1 := ⟨m - 1, by omega⟩
  exact nI_pred k
theorem X_rmK2 : ∀ (d n s m : Nat) (S : zS), S.1 11 = nI m → 1 ≤ m → m ≤ 4 → s + d + 1 = m → d < n → ∃ S', fX1_removeSlot_2 n S (nI s) = some S' ∧ fK S S' ∧ S'.1 11 = nI (m - 1) ∧ (∀ i, S'.2.1 1 i = if s ≤ i ∧ i + 1 < m then S.2.1 1 (i + 1) else S.2.1 1 i) ∧ ∀ i, S'.2.1 2 i = if s ≤ i ∧ i + 1 < m then S.2.1 2 (i + 1) else S.2.1 2 i := by
  intro d
  induction d with
  | zero =>
    intro n s m S hS h1 h4 hs hn
    obtain ⟨n, rfl⟩ := fu hn
    show ∃ S', bX1_removeSlot_2 _ S (nI s) = some S' ∧ _
    unfold bX1_removeSlot_2
    rw [hS, z_pred h1, if_pos ((z_le (by omega) (by omega)).mpr (by omega))]
    refine ⟨_, rfl, ⟨fun j h => by simp [zI_1, h], fun j _ _ => rfl⟩, by simp [zI_1], fun i => ?_, fun i => ?_⟩
    · rw [if_neg (by omega)]; rfl
    · rw [if_neg (by omega)]; rfl
  | succ d ih =>
    intro n s m S hS h1 h4 hs hn
    obtain ⟨n, rfl⟩ := fu hn
    show ∃ S', bX1_removeSlot_2 _ S (nI s) = some S' ∧ _
    unfold bX1_removeSlot_2
    rw [hS, z_pred h1, if_neg (fun h => absurd ((z_le (by omega) (by omega)).mp h) (by omega))]
    simp only [zlet_s, z_sc, z_in4 (show s < 4 by omega), z_in4 (show s + 1 < 4 by omega), z_cl (show s < 1000 by omega), z_cl (show s + 1 < 1000 by omega)]
    obtain ⟨S', e1, ⟨f1, f2⟩, e2, e3, e4⟩ := ih n (s + 1) m (zR (zR S 1 s (S.2.1 1 (s + 1))) 2 s ((zR S 1 s (S.2.1 1 (s + 1))).2.1 2 (s + 1))) hS h1 h4 (by omega) (by omega)
    refine ⟨S', e1, ⟨fun j h => by rw [f1 j h]; rfl, fun j a b => by rw [f2 j a b]; simp [zR_2, a, b]⟩, e2, fun i => ?_, fun i => ?_⟩
    · rw [e3 i]
      simp only [zR_2, show ¬ (1 : Nat) = 2 by decide, if_false, if_true]
      by_cases hi : i = s
      · subst hi
        rw [if_neg (by omega), if_pos (by omega), ud_s]
      · by_cases hc : s ≤ i ∧ i + 1 < m
        · rw [if_pos (by omega), if_pos hc, ud_n (by omega)]
        · rw [if_neg (by omega), if_neg hc, ud_n hi]
    · rw [e4 i]
      simp only [zR_2, show ¬ (2 : Nat) = 1 by decide, if_false, if_true]
      by_cases hi : i = s
      · subst hi
        rw [if_neg (by omega), if_pos (by omega), ud_s]
      · by_cases hc : s ≤ i ∧ i + 1 < m
        · rw [if_pos (by omega), if_pos hc, ud_n (by omega)]
        · rw [if_neg (by omega), if_neg hc, ud_n hi]
theorem X_rmK {s m : Nat} {S : zS} (hS : S.1 11 = nI m) (h4 : m ≤ 4) (hs : s < m) : ∃ S', fX1_removeSlot S (nI s) = some S' ∧ fK S S' ∧ S'.1 11 = nI (m - 1) ∧ (∀ i, S'.2.1 1 i = if s ≤ i ∧ i + 1 < m then S.2.1 1 (i + 1) else S.2.1 1 i) ∧ ∀ i, S'.2.1 2 i = if s ≤ i ∧ i + 1 < m then S.2.1 2 (i + 1) else S.2.1 2 i :=
  X_rmK2 (m - 1 - s) 64 s m S hS (by omega) h4 (by omega) (by omega)
abbrev pK (S : zS) (v : Int32) : Nat → Bool := fun i => decide (¬ S.2.1 2 i = v)
theorem X_forget7 (S0 : zS) (v : Int32) {N : Nat} (hN : N ≤ 4) : ∀ (k n : Nat) (S : zS) (x2 : Int32), k ≤ N → k < n → ((k = 0 ∧ x2 = -1) ∨ ∃ k', k = k' + 1 ∧ x2 = nI k') → S.1 11 = nI (k + (zcn (pK S0 v) N - zcn (pK S0 v) k)) → (∀ i, i < k → S.2.1 1 i = S0.2.1 1 i ∧ S.2.1 2 i = S0.2.1 2 i) → (∀ i, k ≤ i → i < N → pK S0 v i = true → S.2.1 1 (k + (zcn (pK S0 v) i - zcn (pK S0 v) k)) = S0.2.1 1 i ∧ S.2.1 2 (k + (zcn (pK S0 v) i - zcn (pK S0 v) k)) = S0.2.1 2 i) → ∃ S', fX1_forget_7 n S v x2 = some S' ∧ fK S S' ∧ S'.1 11 = nI (zcn (pK S0 v) N) ∧ ∀ i, i < N → pK S0 v i = true → S'.2.1 1 (zcn (pK S0 v) i) = S0.2.1 1 i ∧ S'.2.1 2 (zcn (pK S0 v) i) = S0.2.1 2 i := by
  intro k
  induction k with
  | zero =>
    intro n S x2 hk hn h6 hs h1 h2
    obtain ⟨n, rfl⟩ := fu hn
    obtain rfl : x2 = -1 := by
      rcases h6 with h | ⟨k', h, -⟩
      · exact h.2
      · omega
    show ∃ S', bX1_forget_7 _ S v (-1) = some S' ∧ _
    unfold bX1_forget_7
    rw [if_pos (by decide)]
    have z0 : zcn (pK S0 v) 0 = 0 := rfl
    refine ⟨S, rfl, ⟨fun _ _ => rfl, fun _ _ _ => rfl⟩, by rw [hs, z0]; congr 1; omega, fun i hi hp => ?_⟩
    have := h2 i (by omega) hi hp
    rw [z0, Nat.sub_zero, Nat.zero_add] at this
    exact this
  | succ k ih =>
    intro n S x2 hk hn h6 hs h1 h2
    obtain ⟨n, rfl⟩ := fu hn
    obtain rfl : x2 = nI k := by
      rcases h6 with h | ⟨k', h, e⟩
      · omega
      · obtain rfl : k = k' := by omega
        exact e
    show ∃ S', bX1_forget_7 _ S v (nI k) = some S' ∧ _
    unfold bX1_forget_7
    rw [if_neg (z_neg (by omega)), z_in4 (by omega), z_cl (by omega)]
    have hm : nI k + (-1) = nI k + (-1) := rfl
    have hx : ((k = 0 ∧ nI k + (-1) = -1) ∨ ∃ k', k = k' + 1 ∧ nI k + (-1) = nI k') := by
      cases k with
      | zero => exact Or.inl ⟨rfl, by decide⟩
      | succ k => exact Or.inr ⟨k, rfl, pk_m1 k⟩
    have hmono : zcn (pK S0 v) (k + 1) ≤ zcn (pK S0 v) N := zcn_mono hk
    have hmk : zcn (pK S0 v) k ≤ zcn (pK S0 v) (k + 1) := zcn_mono (by omega)
    have hub : zcn (pK S0 v) N ≤ N := zcn_le _ _
    have e : zcn (pK S0 v) (k + 1) = zcn (pK S0 v) k + (if pK S0 v k then 1 else 0) := rfl
    have h1k := (h1 k (by omega)).2
    have hgap : zcn (pK S0 v) N + (k + 1) ≤ N + zcn (pK S0 v) (k + 1) := by
      have gap : ∀ (p : Nat → Bool) (a b : Nat), a ≤ b → zcn p b + a ≤ b + zcn p a := by
        intro p a b hab
        induction b with
        | zero => have : a = 0 := by omega
                  subst this; exact Nat.le_of_eq (by omega)
        | succ b ihb =>
          by_cases hb : a = b + 1
          · subst hb; omega
          · have := ihb (by omega)
            have e3 : zcn p (b + 1) = zcn p b + (if p b then 1 else 0) := rfl
            split at e3 <;> omega
      exact gap _ _ _ hk
    by_cases hv : S.2.1 2 k = v
    · rw [if_pos hv]
      have hp : pK S0 v k = false := by simp only [pK, ← h1k, hv]; simp
      rw [hp] at e
      simp at e
      obtain ⟨S1, a1, ⟨f1, f2⟩, a2, a3, a4⟩ := X_rmK (s := k) (m := k + 1 + (zcn (pK S0 v) N - zcn (pK S0 v) (k + 1))) (S := S) hs (by omega) (by omega)
      rw [a1]
      simp only [obnv_s, fX1_forget_26, zlet_s]
      obtain ⟨S', b1, ⟨g1, g2⟩, b2, b3⟩ := ih n S1 (nI k + (-1)) (by omega) (by omega) hx (by rw [a2]; congr 1; omega) (fun i hi => by
        rw [a3, a4, if_neg (by omega), if_neg (by omega)]
        exact h1 i (by omega)) (fun i hi hiN hpi => by
        have hne : i ≠ k := fun q => by rw [q, hp] at hpi; cases hpi
        have hmi : zcn (pK S0 v) (k + 1) ≤ zcn (pK S0 v) i := zcn_mono (by omega)
        have hmi2 : zcn (pK S0 v) (i + 1) ≤ zcn (pK S0 v) N := zcn_mono (by omega)
        have hmi3 : zcn (pK S0 v) (i + 1) = zcn (pK S0 v) i + (if pK S0 v i then 1 else 0) := rfl
        rw [hpi] at hmi3
        simp at hmi3
        have := h2 i (by omega) hiN hpi
        rw [a3, a4, if_pos (by omega), if_pos (by omega), show k + (zcn (pK S0 v) i - zcn (pK S0 v) k) + 1 = k + 1 + (zcn (pK S0 v) i - zcn (pK S0 v) (k + 1)) by omega]
        exact this)
      exact ⟨S', b1, ⟨fun j h => by rw [g1 j h, f1 j h], fun j h h' => by rw [g2 j h h', f2 j h h']⟩, b2, b3⟩
    · rw [if_neg hv]
      have hp : pK S0 v k = true := by simp only [pK, ← h1k, hv]; simp
      rw [hp] at e
      simp at e
      simp only [fX1_forget_26, zlet_s]
      obtain ⟨S', b1, g, b2, b3⟩ := ih n S (nI k + (-1)) (by omega) (by omega) hx (by rw [hs]; congr 1; omega) (fun i hi => h1 i (by omega)) (fun i hi hiN hpi => by
        by_cases hne : i = k
        · subst hne
          rw [Nat.sub_self, Nat.add_zero]
          exact h1 i (by omega)
        · have hmi : zcn (pK S0 v) (k + 1) ≤ zcn (pK S0 v) i := zcn_mono (by omega)
          have := h2 i (by omega) hiN hpi
          rw [show k + (zcn (pK S0 v) i - zcn (pK S0 v) k) = k + 1 + (zcn (pK S0 v) i - zcn (pK S0 v) (k + 1)) by omega]
          exact this)
      exact ⟨S', b1, g, b2, b3⟩
theorem X_forget {S : zS} {N : Nat} (hN : N ≤ 4) (hS : S.1 11 = nI N) (v : Int32) : ∃ S', fX1_forget S v = some S' ∧ fK S S' ∧ S'.1 11 = nI (zcn (pK S v) N) ∧ ∀ i, i < N → pK S v i = true → S'.2.1 1 (zcn (pK S v) i) = S.2.1 1 i ∧ S'.2.1 2 (zcn (pK S v) i) = S.2.1 2 i := by
  unfold fX1_forget
  simp only [zlet_s]
  refine X_forget7 S v hN N 64 S (S.1 11 - 1) (Nat.le_refl _) (by omega) ?_ (by rw [hS]; congr 1; omega) (fun i _ => ⟨rfl, rfl⟩) (fun i h1 h2 => absurd h1 (by omega))
  rw [hS]
  cases N with
  | zero => exact Or.inl ⟨rfl, by decide⟩
  | succ N => exact Or.inr ⟨N, rfl, nI_pred N⟩
abbrev pKm (T : zS) (v : Int32) : Nat → Bool := fun i => decide (¬ T.2.1 12 i = v)
theorem M_drop4 (T0 : zS) (v : Int32) {N : Nat} (hN : N ≤ 4) : ∀ (d n k : Nat) (T : zS), k + d = N → d < n → T.1 3 = nI N → (∀ i, zcn (pKm T0 v) k ≤ i → T.2.1 11 i = T0.2.1 11 i ∧ T.2.1 12 i = T0.2.1 12 i) → (∀ i, i < k → pKm T0 v i = true → T.2.1 11 (zcn (pKm T0 v) i) = T0.2.1 11 i ∧ T.2.1 12 (zcn (pKm T0 v) i) = T0.2.1 12 i) → ∃ T', fX5_dropHops_4 n T v (nI (zcn (pKm T0 v) k)) (nI k) = some T' ∧ fKm T T' ∧ T'.1 3 = nI (zcn (pKm T0 v) N) ∧ ∀ i, i < N → pKm T0 v i = true → T'.2.1 11 (zcn (pKm T0 v) i) = T0.2.1 11 i ∧ T'.2.1 12 (zcn (pKm T0 v) i) = T0.2.1 12 i := by
  intro d
  induction d with
  | zero =>
    intro n k T hk hn hT h1 h2
    obtain ⟨n, rfl⟩ := fu hn
    obtain rfl : k = N := by omega
    show ∃ T', bX5_dropHops_4 _ T v _ _ = some T' ∧ _
    unfold bX5_dropHops_4
    rw [hT, if_pos ((z_le (by omega) (by omega)).mpr (by omega))]
    exact ⟨_, rfl, ⟨fun j h => by simp [zI_1, h], fun j _ _ => rfl⟩, by simp [zI_1], fun i hi hp => h2 i hi hp⟩
  | succ d ih =>
    intro n k T hk hn hT h1 h2
    obtain ⟨n, rfl⟩ := fu hn
    have hle : zcn (pKm T0 v) k ≤ k := zcn_le _ _
    show ∃ T', bX5_dropHops_4 _ T v _ _ = some T' ∧ _
    unfold bX5_dropHops_4
    rw [hT, if_neg (fun h => absurd ((z_le (by omega) (by omega)).mp h) (by omega)), z_in4 (by omega), z_cl (by omega)]
    have e : zcn (pKm T0 v) (k + 1) = zcn (pKm T0 v) k + (if pKm T0 v k then 1 else 0) := rfl
    have h1k := (h1 k hle).2
    by_cases hv : T.2.1 12 k = v
    · rw [if_pos hv]
      have hp : pKm T0 v k = false := by simp only [pKm, ← h1k, hv]; simp
      rw [hp] at e
      simp at e
      simp only [fX5_dropHops_49, zlet_s, z_sc]
      have := ih n (k + 1) T (by omega) (by omega) hT (by rw [e]; exact h1) (fun i hi hpi => h2 i (by
        have : i ≠ k := fun q => by rw [q, hp] at hpi; cases hpi
        omega) hpi)
      rw [e] at this
      exact this
    · rw [if_neg hv]
      have hp : pKm T0 v k = true := by simp only [pKm, ← h1k, hv]; simp
      rw [hp] at e
      simp at e
      simp only [fX5_dropHops_49, zlet_s, z_sc, z_in4 (show k < 4 by omega), z_in4 (show zcn (pKm T0 v) k < 4 by omega), z_cl (show zcn (pKm T0 v) k < 1000 by omega)]
      have := ih n (k + 1) (zR (zR T 11 (zcn (pKm T0 v) k) (T.2.1 11 k)) 12 (zcn (pKm T0 v) k) ((zR T 11 (zcn (pKm T0 v) k) (T.2.1 11 k)).2.1 12 k)) (by omega) (by omega) hT (fun i hi => by
        rw [e] at hi
        simp only [zR_2, show ¬ (11 : Nat) = 12 by decide, show ¬ (12 : Nat) = 11 by decide, if_false, if_true]
        rw [ud_n (by omega), ud_n (by omega)]
        exact h1 i (by omega)) (fun i hi hpi => by
        simp only [zR_2, show ¬ (11 : Nat) = 12 by decide, show ¬ (12 : Nat) = 11 by decide, if_false, if_true]
        by_cases hik : i = k
        · subst hik
          rw [ud_s, ud_s]
          exact h1 i hle
        · have hmi : zcn (pKm T0 v) (i + 1) ≤ zcn (pKm T0 v) k := zcn_mono (by omega)
          have hmi3 : zcn (pKm T0 v) (i + 1) = zcn (pKm T0 v) i + (if pKm T0 v i then 1 else 0) := rfl
          rw [hpi] at hmi3
          simp at hmi3
          rw [ud_n (by omega), ud_n (by omega)]
          exact h2 i (by omega) hpi)
      rw [e] at this
      obtain ⟨T', b1, ⟨g1, g2⟩, b2, b3⟩ := this
      exact ⟨T', b1, ⟨fun j h => by rw [g1 j h]; rfl, fun j h h' => by rw [g2 j h h']; simp [zR_2, h, h']⟩, b2, b3⟩
theorem M_drop {T : zS} {N : Nat} (hN : N ≤ 4) (hT : T.1 3 = nI N) (v : Int32) : ∃ T', fX5_dropHops T v = some T' ∧ fKm T T' ∧ T'.1 3 = nI (zcn (pKm T v) N) ∧ ∀ i, i < N → pKm T v i = true → T'.2.1 11 (zcn (pKm T v) i) = T.2.1 11 i ∧ T'.2.1 12 (zcn (pKm T v) i) = T.2.1 12 i := by
  unfold fX5_dropHops
  simp only [zlet_s]
  exact M_drop4 T v hN N 64 0 T (by omega) (by omega) hT (fun i _ => ⟨rfl, rfl⟩) (fun i h => absurd h (by omega))
theorem sim_drop {S T : zS} (h : rK S T) (v : Int32) : ∃ S' T', fX1_forget S v = some S' ∧ fX5_dropHops T v = some T' ∧ fK S S' ∧ fKm T T' ∧ rK S' T' := by
  obtain ⟨N, hN, h1, h2, h3⟩ := h
  obtain ⟨S', a1, a2, a3, a4⟩ := X_forget hN h1 v
  obtain ⟨T', b1, b2, b3, b4⟩ := M_drop hN h2 v
  have e : ∀ m, m ≤ N → zcn (pKm T v) m = zcn (pK S v) m := fun m hm => zcn_congr (fun k hk => by simp only [pKm, pK, (h3 k (by omega)).2.1])
  refine ⟨S', T', a1, b1, a2, b2, zcn (pK S v) N, Nat.le_trans (zcn_le _ _) hN, a3, by rw [b3, e N (Nat.le_refl _)], fun j hj => ?_⟩
  obtain ⟨i, hi, hp, rfl⟩ := zcn_sur hj
  have x1 := a4 i hi hp
  have x2 := b4 i hi (by have := hp; simp only [pK, pKm, (h3 i hi).2.1] at this ⊢; exact this)
  rw [e i (by omega)] at x2
  rw [x1.1, x1.2, x2.1, x2.2]
  exact h3 i hi
