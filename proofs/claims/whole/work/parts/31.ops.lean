/-! ===== what numbers may be ===== -/
theorem addr_cases (x : Int32) : (x < 0 ∨ (16 : Int32) ≤ x) ∨ ∃ k : Nat, k < 16 ∧ x = nI k := by
  rcases pk_ix x (n := 16) (by decide) with h | h | h
  · exact Or.inl (Or.inl h)
  · exact Or.inl (Or.inr h)
  · exact Or.inr h
theorem ge_gt {x : Int32} (h : (16 : Int32) ≤ x) : (15 : Int32) < x := by
  rw [Int32.le_iff_toInt_le] at h
  rw [Int32.lt_iff_toInt_lt]
  have e1 : (16 : Int32).toInt = 16 := by decide
  have e2 : (15 : Int32).toInt = 15 := by decide
  omega
theorem A_bad (S T : zS) {x : Int32} (h : x < 0 ∨ (16 : Int32) ≤ x) : fX4_isAddress S x = some (0, S) ∧ fX5_isAddress T x = some (0, T) := by
  unfold fX4_isAddress fX5_isAddress fX5_within
  rcases h with h | h
  · rw [if_pos h, if_pos h]; simp [obnd_s, zbl]
  · by_cases h0 : x < 0
    · rw [if_pos h0, if_pos h0]; simp [obnd_s, zbl]
    · rw [if_neg h0, if_neg h0, if_pos h, if_pos (ge_gt h)]; simp [obnd_s, zbl]
theorem A_ok (S T : zS) {k : Nat} (h : k < 16) : fX4_isAddress S (nI k) = some (1, S) ∧ fX5_isAddress T (nI k) = some (1, T) := by
  unfold fX4_isAddress fX5_isAddress fX5_within
  rw [if_neg (z_neg (by omega)), if_neg (z_16 h), if_neg (z_neg (by omega)), if_neg (z_15 h)]
  simp [obnd_s, zbl]
theorem W_in (T : zS) (x lo hi : Int32) : ∃ b, fX5_within T x lo hi = some (b, T) ∧ (b = 0 ∨ b = 1) ∧ (b = if x < lo then 0 else if hi < x then 0 else 1) := by
  unfold fX5_within
  by_cases h1 : x < lo
  · exact ⟨0, by rw [if_pos h1], Or.inl rfl, by rw [if_pos h1]⟩
  · by_cases h2 : hi < x
    · exact ⟨0, by rw [if_neg h1, if_pos h2], Or.inl rfl, by rw [if_neg h1, if_pos h2]⟩
    · exact ⟨1, by rw [if_neg h1, if_neg h2], Or.inr rfl, by rw [if_neg h1, if_neg h2]⟩
theorem zbl_b {β : Type} {b : Int32} (h : b = 0 ∨ b = 1) (E : Option β) : zbl b E = E := by unfold zbl; rw [if_pos h]
theorem K_mark (S T : zS) (x : Int32) : ∃ b, fX4_isMark S x = some (b, S) ∧ fX5_isMark T x = some (b, T) ∧ (b = 0 ∨ b = 1) := by
  unfold fX4_isMark fX5_isMark
  obtain ⟨b, e1, e2, e3⟩ := W_in T x 1 99
  refine ⟨b, ?_, by rw [e1]; simp only [obnd_s, zbl_b e2], e2⟩
  rw [e3]; split
  · rfl
  · split <;> rfl
theorem K_letter (S T : zS) (x : Int32) : ∃ b, fX4_isLetter S x = some (b, S) ∧ fX5_isLetter T x = some (b, T) ∧ (b = 0 ∨ b = 1) := by
  unfold fX4_isLetter fX5_isLetter
  obtain ⟨b, e1, e2, e3⟩ := W_in T x 1 999
  refine ⟨b, ?_, by rw [e1]; simp only [obnd_s, zbl_b e2], e2⟩
  rw [e3]; split
  · rfl
  · split <;> rfl
theorem K_goal (S T : zS) (x : Int32) : ∃ b, fX4_isGoal S x = some (b, S) ∧ fX5_isGoal T x = some (b, T) ∧ (b = 0 ∨ b = 1) := by
  unfold fX4_isGoal fX5_isGoal
  obtain ⟨b, e1, e2, e3⟩ := W_in T x 16 47
  refine ⟨b, ?_, by rw [e1]; simp only [obnd_s, zbl_b e2], e2⟩
  rw [e3]; split
  · rfl
  · split <;> rfl
theorem sim_ours {q c k : Nat} {S T : zS} (h : Rel q c S T) (hk : k < 16) : ∃ b, fX4_isOwnOrTrial S (nI k) = some (b, S) ∧ fX5_isOurs T (nI k) = some (b, T) ∧ (b = 0 ∨ b = 1) := by
  obtain ⟨v1, v2, -⟩ := h.2.1
  unfold fX4_isOwnOrTrial fX5_isOurs fX4_isOwnOrTrial_16 fX5_isOurs_21
  rw [if_neg (z_m1 (by omega)), ← v1, ← v2]
  by_cases h1 : nI k = S.1 1
  · exact ⟨1, by rw [if_pos h1], by rw [if_pos h1], Or.inr rfl⟩
  · by_cases h2 : nI k = S.1 2
    · exact ⟨1, by rw [if_neg h1, if_pos h2], by rw [if_neg h1, if_pos h2], Or.inr rfl⟩
    · exact ⟨0, by rw [if_neg h1, if_neg h2], by rw [if_neg h1, if_neg h2], Or.inl rfl⟩
/-! ===== send, route, hint ===== -/
abbrev Sim (c : Nat) (a b : Option (Int32 × zS)) : Prop := ∃ r S' T', a = some (r, S') ∧ b = some (r, T') ∧ Rel 16 c S' T'
theorem Sim.same {c : Nat} {S T : zS} (h : Rel 16 c S T) (r : Int32) : Sim c (some (r, S)) (some (r, T)) := ⟨r, S, T, rfl, rfl, h⟩
theorem n10 : ¬ (1 : Int32) = 0 := by decide
theorem sim_send {c : Nat} {S T : zS} (h : Rel 16 c S T) (x l : Int32) : Sim c (fX4_send S x l) (fX5_send T x l) := by
  unfold fX4_send fX5_send
  rcases addr_cases x with hx | ⟨k, hk, rfl⟩
  · obtain ⟨e1, e2⟩ := A_bad S T hx
    rw [e1, e2]
    simp only [obnd_s, if_true]
    exact Sim.same h _
  · obtain ⟨e1, e2⟩ := A_ok S T hk
    rw [e1, e2]
    simp only [obnd_s, n10, if_false]
    obtain ⟨b, e3, e4, e5⟩ := K_letter S T l
    rw [e3, e4]
    simp only [obnd_s]
    rcases e5 with rfl | rfl
    · simp only [if_true]; exact Sim.same h _
    · simp only [n10, if_false]
      obtain ⟨b, e6, e7, e8⟩ := sim_ours h hk
      rw [e6, e7]
      simp only [obnd_s]
      rcases e8 with rfl | rfl
      · simp only [if_true, z_in16 hk, z_cl (show k < 1000 by omega), h.1.1]
        rcases sim_take (Nat.le_refl 16) h hk l with ⟨r, S', T', a1, a2, a3, a4, -⟩ | ⟨a1, a2, a3⟩
        · rw [a1]
          have e44 : fX5_send_44 T (nI k) l = some (r, T') := by unfold fX5_send_44; rw [a3]; rfl
          by_cases h0 : T.2.1 0 k = 0
          · rw [if_pos h0]
            obtain ⟨b, b1, b2⟩ := a2 h0
            rw [b1]
            simp only [obnd_s, b2, if_false]
            exact ⟨r, S', T', rfl, e44, a4⟩
          · rw [if_neg h0]
            exact ⟨r, S', T', rfl, e44, a4⟩
        · rw [a1, if_pos a2, a3]
          simp only [obnd_s, if_true]
          exact Sim.same h _
      · simp only [n10, if_false]
        exact Sim.same h _
