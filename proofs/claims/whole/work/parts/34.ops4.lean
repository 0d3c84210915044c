/-! ===== better ===== -/
theorem M_shift (T : zS) (g hp : Int32) (h3 : T.1 3 = nI 4) : ∃ T', fX5_keep_14 64 T g hp (nI 4) 1 = fX5_keep_71 T' g hp (nI 3) ∧ fKm T T' ∧ T'.1 3 = nI 3 ∧ (∀ i, i < 3 → T'.2.1 11 i = T.2.1 11 (i + 1) ∧ T'.2.1 12 i = T.2.1 12 (i + 1)) := by
  have s1 : (1 : Int32) - 1 = nI 0 := by decide
  have s2 : (1 : Int32) = nI 1 := rfl
  have step : ∀ (f : Nat) (T : zS) (e : Nat), 1 ≤ e → e < 4 → fX5_keep_14 (f + 1) T g hp (nI 4) (nI e) = fX5_keep_14 f (zR (zR T 11 (e - 1) (T.2.1 11 e)) 12 (e - 1) ((zR T 11 (e - 1) (T.2.1 11 e)).2.1 12 e)) g hp (nI 4) (nI (e + 1)) := by
    intro f T e h1 h4
    show bX5_keep_14 _ T _ _ _ _ = _
    unfold bX5_keep_14
    rw [if_neg (show ¬ (4 : Int32) ≤ nI e from nI_ge (b := 4) h4 (by decide))]
    simp only [z_pred h1, z_in4 (show e < 4 by omega), z_in4 (show e - 1 < 4 by omega), z_cl (show e < 1000 by omega), z_cl (show e - 1 < 1000 by omega), zlet_s, z_sc]
  rw [s2, step 63 T 1 (by omega) (by omega), step 62 _ 2 (by omega) (by omega), step 61 _ 3 (by omega) (by omega)]
  show ∃ T', bX5_keep_14 _ _ _ _ _ _ = _ ∧ _
  unfold bX5_keep_14
  rw [if_pos (by decide)]
  simp only [zlet_s, show nI 4 + (-1) = nI 3 by decide]
  refine ⟨_, rfl, ⟨fun j hj => by simp [zI_1, zR_1, hj], fun j a b => by simp [zI_2, zR_2, a, b]⟩, ?_, fun i hi => ?_⟩
  · simp only [zI_1, if_true, zR_1, h3]; decide
  · have : i = 0 ∨ i = 1 ∨ i = 2 := by omega
    rcases this with rfl | rfl | rfl <;> simp [zI_2, zR_2, upd]
theorem keepA {S1 T1 : zS} (g : Int32) {j n : Nat} (hj : j < 16) (hn : n < 4) (e1 : S1.1 11 = nI n) (e2 : T1.1 3 = nI n) (e3 : ∀ i, i < n → S1.2.1 1 i = T1.2.1 11 i ∧ S1.2.1 2 i = T1.2.1 12 i ∧ ∃ l : Nat, l < 16 ∧ S1.2.1 2 i = nI l) : ∃ S' T', fX1_keep_32 S1 g (nI j) = some S' ∧ fX5_keep_71 T1 g (nI j) (nI n) = some T' ∧ fK S1 S' ∧ fKm T1 T' ∧ rK S' T' := by
  unfold fX1_keep_32 fX5_keep_71 fX5_keep_93
  rw [e1, e2]
  simp only [zlet_s, if_true, zR_1, zI_1, e1, z_in4 hn, z_cl (show n < 1000 by omega), z_sc]
  refine ⟨_, _, rfl, rfl, ⟨fun j hj => by simp [zI_1, zR_1, hj], fun j a b => by simp [zI_2, zR_2, a, b]⟩, ⟨fun j hj => by simp [zI_1, zR_1, hj], fun j a b => by simp [zI_2, zR_2, a, b]⟩, n + 1, by omega, by simp [zI_1], by simp [zI_1, zR_1], fun i hi => ?_⟩
  by_cases hin : i = n
  · subst hin
    simp [zI_2, zR_2, ud_s]
    exact ⟨j, hj, rfl⟩
  · simp [zI_2, zR_2, ud_n hin]
    exact e3 i (by omega)
theorem keepF {S T : zS} (g : Int32) {j n i : Nat} (hj : j < 16) (hn : n ≤ 4) (hi : i < n) (e1 : S.1 11 = nI n) (m3 : T.1 3 = nI n) (m4 : ∀ i, i < n → S.2.1 1 i = T.2.1 11 i ∧ S.2.1 2 i = T.2.1 12 i ∧ ∃ l : Nat, l < 16 ∧ S.2.1 2 i = nI l) (hg : S.2.1 1 i = g) : ∃ T', fX5_keep_71 T g (nI j) (nI i) = some T' ∧ fK S (zR S 2 i (nI j)) ∧ fKm T T' ∧ rK (zR S 2 i (nI j)) T' := by
  unfold fX5_keep_71 fX5_keep_93
  rw [m3, if_neg (fun e => absurd ((z_eq (by omega) (by omega)).mp e) (by omega))]
  simp only [z_in4 (show i < 4 by omega), z_cl (show i < 1000 by omega), zlet_s]
  refine ⟨_, rfl, ⟨fun j hj => rfl, fun j a b => by simp [zR_2, b]⟩, ⟨fun j hj => by simp [zI_1, zR_1, hj], fun j a b => by simp [zI_2, zR_2, a, b]⟩, n, hn, e1, by simp [zI_1, zR_1], fun l hl => ?_⟩
  by_cases hli : l = i
  · subst hli
    simp [zI_2, zR_2, ud_s, hg]
    exact ⟨j, hj, rfl⟩
  · simp [zI_2, zR_2, ud_n hli]
    exact m4 l hl
theorem X_keep_eq {S : zS} {g v : Int32} (k4 : fX1_slotOf S g = some (v, S)) (hp : Int32) : fX1_keep S g hp = if v = -1 then (if S.1 11 < 4 then fX1_keep_32 S g hp else obnv (fX1_removeSlot S 0) (fun S_2 => fX1_keep_32 S_2 g hp)) else zin v 4 (some (zR S 2 v.toNatClampNeg hp)) := by
  unfold fX1_keep
  rw [k4, obnd_s]
  unfold zlet
  rfl
theorem zlet_e {α β : Type} (x : α) (k : α → Option β) : zlet x k = k x := by
  have h : ∀ y, y = x → zlet y k = k y := fun y _ => rfl
  exact h x rfl
theorem M_keep_eq {T : zS} {g w : Int32} (k5 : fX5_keptFor T g = some (w, T)) (hp : Int32) : fX5_keep T g hp = if w = 4 then fX5_keep_14 64 T g hp w 1 else fX5_keep_71 T g hp w := by
  unfold fX5_keep
  rw [k5, obnd_s, zlet_e, zlet_e]
theorem sim_keep {S T : zS} (h : rK S T) (g : Int32) {j : Nat} (hj : j < 16) : ∃ S' T', fX1_keep S g (nI j) = some S' ∧ fX5_keep T g (nI j) = some T' ∧ fK S S' ∧ fKm T T' ∧ rK S' T' := by
  obtain ⟨n, v, w, k1, k2, k3, k4, k5, k6⟩ := sim_kept h g
  obtain ⟨n', m1, m2, m3, m4⟩ := h
  have hnn : n' = n := (z_eq (by omega) (by omega)).mp (m2.symm.trans k2)
  subst hnn
  rw [X_keep_eq k4, M_keep_eq k5]
  rcases k6 with ⟨rfl, rfl, -⟩ | ⟨i, hi, rfl, rfl, hg, -⟩
  · rw [if_pos rfl]
    by_cases h4 : n' < 4
    · rw [m2, if_pos (show nI n' < 4 from nI_lt (b := 4) h4 (by decide)), if_neg (show ¬ nI n' = (4 : Int32) from fun e => absurd ((z_eq (a := n') (b := 4) (by omega) (by omega)).mp e) (by omega))]
      exact keepA g hj h4 m2 m3 m4
    · have e4 : n' = 4 := by omega
      rw [e4] at m2 m3 m4 ⊢
      have c1 : ¬ S.1 11 < 4 := by rw [m2]; decide
      have c2 : nI 4 = (4 : Int32) := rfl
      rw [if_neg c1, if_pos c2]
      obtain ⟨S1, a1, a2, a3, a4, a5⟩ := X_rmK (s := 0) (m := 4) m2 (by omega) (by omega)
      obtain ⟨T1, b1, b2, b3, b4⟩ := M_shift T g (nI j) m3
      have z0 : (0 : Int32) = nI 0 := rfl
      rw [z0, a1, obnv_s, b1]
      obtain ⟨S', T', c1, c2, c3, c4, c5⟩ := keepA g hj (show 3 < 4 by omega) a3 b3 (fun i hi => by
        rw [a4, a5, if_pos (by omega), if_pos (by omega), (b4 i hi).1, (b4 i hi).2]
        exact m4 (i + 1) (by omega))
      exact ⟨S', T', c1, c2, ⟨fun j h => by rw [c3.1 j h, a2.1 j h], fun j x y => by rw [c3.2 j x y, a2.2 j x y]⟩, ⟨fun j h => by rw [c4.1 j h, b2.1 j h], fun j x y => by rw [c4.2 j x y, b2.2 j x y]⟩, c5⟩
  · rw [if_neg (z_m1 (by omega)), if_neg (show ¬ nI i = (4 : Int32) from fun e => absurd ((z_eq (a := i) (b := 4) (by omega) (by omega)).mp e) (by omega)), z_in4 (by omega), z_cl (by omega)]
    obtain ⟨T', a1, a2, a3, a4⟩ := keepF g hj m1 hi m2 m3 m4 hg
    exact ⟨_, T', rfl, a1, a2, a3, a4⟩
theorem X_hop {c : Nat} {S T : zS} (h : Rel 16 c S T) (g : Int32) : ∃ ho, fX4_hop S g = some (ho, S) ∧ fX5_hop T g = some (ho, T) ∧ (∀ b, fX5_isGoal T g = some (b, T) → ¬ b = 0 → fX5_hopNow T g = some (ho, T)) := by
  unfold fX4_hop fX5_hop
  obtain ⟨b, e1, e2, e3⟩ := K_goal S T g
  rw [e1, e2]
  simp only [obnd_s]
  obtain ⟨su, nx, ho, bt, a1, a2, a3, a4, a5, a6, a7⟩ := sim_hop h g
  rcases e3 with rfl | rfl
  · simp only [if_true]
    exact ⟨-102, rfl, rfl, fun b hb hn => by
      have : (0 : Int32) = b := (Prod.mk.inj (Option.some.inj hb)).1
      exact absurd this.symm hn⟩
  · simp only [n10, if_false]
    rw [a1, a3]
    simp only [obnd_s, zlet_s]
    refine ⟨ho, ?_, rfl, fun _ _ _ => rfl⟩
    by_cases hs : su = -1
    · rw [if_pos hs, a2, a5, if_pos hs]; rfl
    · rw [if_neg hs, a5, if_neg hs]
theorem sim_hopP {c : Nat} {S T : zS} (h : Rel 16 c S T) (g : Int32) : Sim c (fX4_hop S g) (fX5_hop T g) := by
  obtain ⟨ho, e1, e2, -⟩ := X_hop h g
  exact ⟨ho, S, T, e1, e2, h⟩
theorem sim_better {c : Nat} {S T : zS} (h : Rel 16 c S T) (x g y : Int32) : Sim c (fX4_better S x g y) (fX5_better T x g y) := by
  unfold fX4_better fX5_better
  rcases addr_cases x with hx | ⟨k, hk, rfl⟩
  · obtain ⟨e1, e2⟩ := A_bad S T hx
    rw [e1, e2]
    simp only [obnd_s, if_true]
    exact Sim.same h _
  · obtain ⟨e1, e2⟩ := A_ok S T hk
    rw [e1, e2]
    simp only [obnd_s, n10, if_false]
    obtain ⟨b, e3, e4, e5⟩ := K_goal S T g
    rw [e3, e4]
    simp only [obnd_s]
    rcases e5 with rfl | rfl
    · simp only [if_true]; exact Sim.same h _
    · simp only [n10, if_false]
      rcases addr_cases y with hy | ⟨j, hj, rfl⟩
      · obtain ⟨e1, e2⟩ := A_bad S T hy
        rw [e1, e2]
        simp only [obnd_s, if_true]
        exact Sim.same h _
      · obtain ⟨e1, e2⟩ := A_ok S T hj
        rw [e1, e2]
        simp only [obnd_s, n10, if_false]
        obtain ⟨b, e6, e7, e8⟩ := sim_ours h hj
        rw [e6, e7]
        simp only [obnd_s]
        rcases e8 with rfl | rfl
        · simp only [if_true]
          obtain ⟨ho, a1, -, a3⟩ := X_hop h g
          rw [a1, a3 1 e4 n10]
          simp only [obnd_s]
          by_cases he : ho = nI k
          · rw [if_pos he, if_pos he]
            obtain ⟨S', T', b1, b2, b3, b4, b5⟩ := sim_keep h.2.2.2.2.2.1 g hj
            rw [b1, b2]
            exact ⟨1, S', T', rfl, rfl, h.kept b3 b4 b5⟩
          · rw [if_neg he, if_neg he]
            exact Sim.same h _
        · simp only [n10, if_false]
          exact Sim.same h _
/-! ===== claim, give ===== -/
theorem X_lead2 {n : Nat} {S : zS} (hn : n ≤ 4) (h1 : S.1 11 = nI n) (v : Int32) : ∀ (d f i : Nat), i + d = n → d < f → (∀ j, j < i → ¬ S.2.1 2 j = v) → ∃ b, fX1_leadTo_2 f S v (nI i) = some (b, S) ∧ ((b = 1 ∧ ∃ j, j < n ∧ S.2.1 2 j = v) ∨ (b = 0 ∧ ∀ j, j < n → ¬ S.2.1 2 j = v)) := by
  intro d
  induction d with
  | zero =>
    intro f i hi hf hj
    obtain ⟨f, rfl⟩ := fu hf
    obtain rfl : i = n := by omega
    show ∃ b, bX1_leadTo_2 _ S _ _ = some (b, S) ∧ _
    unfold bX1_leadTo_2
    rw [h1, if_pos ((z_le (by omega) (by omega)).mpr (by omega))]
    exact ⟨0, rfl, Or.inr ⟨rfl, hj⟩⟩
  | succ d ih =>
    intro f i hi hf hj
    obtain ⟨f, rfl⟩ := fu hf
    show ∃ b, bX1_leadTo_2 _ S _ _ = some (b, S) ∧ _
    unfold bX1_leadTo_2
    rw [h1, if_neg (fun e => absurd ((z_le (by omega) (by omega)).mp e) (by omega))]
    simp only [z_in4 (show i < 4 by omega), z_cl (show i < 1000 by omega), zlet_s, z_sc]
    by_cases hg : S.2.1 2 i = v
    · rw [if_pos hg]
      exact ⟨1, rfl, Or.inl ⟨rfl, i, by omega, hg⟩⟩
    · rw [if_neg hg]
      exact ih f (i + 1) (by omega) (by omega) (fun j hj2 => by
        by_cases hji : j = i
        · rw [hji]; exact hg
        · exact hj j (by omega))
theorem M_isHop4 {n : Nat} {T : zS} (hn : n ≤ 4) (h1 : T.1 3 = nI n) (v : Int32) : ∀ (d f i : Nat) (x : Int32), i + d = n → d < f → ((x = 1 ∧ ∃ j, j < n ∧ T.2.1 12 j = v) ∨ (x = 0 ∧ ∀ j, j < i → ¬ T.2.1 12 j = v)) → ∃ b, fX5_isHop_4 f T v x (nI i) = some (b, T) ∧ ((b = 1 ∧ ∃ j, j < n ∧ T.2.1 12 j = v) ∨ (b = 0 ∧ ∀ j, j < n → ¬ T.2.1 12 j = v)) := by
  intro d
  induction d with
  | zero =>
    intro f i x hi hf hx
    obtain ⟨f, rfl⟩ := fu hf
    obtain rfl : i = n := by omega
    show ∃ b, bX5_isHop_4 _ T _ _ _ = some (b, T) ∧ _
    unfold bX5_isHop_4
    rw [h1, if_pos ((z_le (by omega) (by omega)).mpr (by omega))]
    refine ⟨x, ?_, hx⟩
    rcases hx with ⟨e, -⟩ | ⟨e, -⟩
    · rw [e, zbl_1]
    · rw [e, zbl_0]
  | succ d ih =>
    intro f i x hi hf hx
    obtain ⟨f, rfl⟩ := fu hf
    show ∃ b, bX5_isHop_4 _ T _ _ _ = some (b, T) ∧ _
    unfold bX5_isHop_4
    rw [h1, if_neg (fun e => absurd ((z_le (by omega) (by omega)).mp e) (by omega))]
    simp only [z_in4 (show i < 4 by omega), z_cl (show i < 1000 by omega), fX5_isHop_26, fX5_isHop_31, zlet_s, z_sc]
    rcases hx with ⟨rfl, q⟩ | ⟨rfl, q⟩
    · rw [if_neg n10]
      exact ih f (i + 1) 1 (by omega) (by omega) (Or.inl ⟨rfl, q⟩)
    · rw [if_pos rfl]
      by_cases hg : T.2.1 12 i = v
      · rw [if_pos hg]
        exact ih f (i + 1) 1 (by omega) (by omega) (Or.inl ⟨rfl, i, by omega, hg⟩)
      · rw [if_neg hg]
        exact ih f (i + 1) 0 (by omega) (by omega) (Or.inr ⟨rfl, fun j hj => by
          by_cases hji : j = i
          · rw [hji]; exact hg
          · exact q j (by omega)⟩)
theorem sim_lead {S T : zS} (h : rK S T) (v : Int32) : ∃ b, fX1_leadTo S v = some (b, S) ∧ fX5_isHop T v = some (b, T) ∧ (b = 0 ∨ b = 1) := by
  obtain ⟨n, h1, h2, h3, h4⟩ := h
  obtain ⟨b, e1, e2⟩ := X_lead2 h1 h2 v n 64 0 (by omega) (by omega) (fun j hj => absurd hj (by omega))
  obtain ⟨b', e3, e4⟩ := M_isHop4 h1 h3 v n 64 0 0 (by omega) (by omega) (Or.inr ⟨rfl, fun j hj => absurd hj (by omega)⟩)
  have : b' = b := by
    rcases e2 with ⟨q1, j, q2, q3⟩ | ⟨q1, q2⟩
    · rcases e4 with ⟨p1, -⟩ | ⟨p1, p2⟩
      · rw [q1, p1]
      · exact absurd ((h4 j q2).2.1.symm.trans q3) (p2 j q2)
    · rcases e4 with ⟨p1, j, p2, p3⟩ | ⟨p1, p2⟩
      · exact absurd ((h4 j p2).2.1.trans p3) (q2 j p2)
      · rw [q1, p1]
  subst this
  refine ⟨b', e1, e3, ?_⟩
  rcases e2 with ⟨q1, -⟩ | ⟨q1, -⟩
  · exact Or.inr q1
  · exact Or.inl q1
theorem sim_taken {c k : Nat} {S T : zS} (h : Rel 16 c S T) (hk : k < 16) : ∃ b, fX4_isTaken S (nI k) = some (b, S) ∧ (zin (nI k) 16 ((if (T.2.1 0 (nI k).toNatClampNeg) = 0 then zin (nI k) 16 ((if (T.2.1 8 (nI k).toNatClampNeg) = 0 then obnd (fX5_isHop T (nI k)) (fun y_2 S_2 => (if y_2 = 0 then (if (((S_2.1 7) >>> (nI k &&& 31)) &&& (1 : Int32)) = (1 : Int32) then fX5_claim_48 S_2 (nI k) else fX5_claim_53 S_2 (nI k) (0 : Int32)) else fX5_claim_48 S_2 (nI k))) else fX5_claim_48 T (nI k))) else fX5_claim_48 T (nI k)))) = fX5_claim_53 T (nI k) b ∧ (b = 0 ∨ b = 1) := by
  obtain ⟨v1, v2, v3, v4, v5, v6, -⟩ := h.2.1
  obtain ⟨n, ad, hr⟩ := h.2.2.2.2.2.2.1
  have hz := (hr.2.2.2.2 k hk).1
  obtain ⟨b, e1, e2, e3⟩ := sim_lead h.2.2.2.2.2.1 (nI k)
  unfold fX4_isTaken fX4_isTaken_16 fX4_isTaken_54 fX5_claim_48
  simp only [z_in16 hk, z_cl (show k < 1000 by omega), zlet_s, e2, obnd_s, n10, if_false, if_true, ← v4, bitL _ hk, bitR _ hk]
  by_cases hb : bt (S.1 4) k = false
  · have hb' : ¬ bt (S.1 4) k = true := by rw [hb]; exact Bool.false_ne_true
    rw [if_pos hb, if_neg hb']
    rcases h.there hk with ⟨p0, -⟩ | ⟨p0, -⟩
    · rw [X_has0 h hk p0, if_pos p0]
      simp only [obnd_s, if_true, X_rhas h hk]
      rcases hz with e | e
      · simp only [e, if_true, e1, obnd_s]
        rcases e3 with rfl | rfl
        · simp only [if_true]; exact ⟨0, rfl, rfl, Or.inl rfl⟩
        · simp only [n10, if_false]; exact ⟨1, rfl, rfl, Or.inr rfl⟩
      · have ne : ¬ T.2.1 8 k = 0 := by rw [e]; decide
        simp only [if_neg ne]
        exact ⟨1, rfl, rfl, Or.inr rfl⟩
    · rw [X_has1 h hk p0, p0, if_neg n10]
      simp only [obnd_s, n10, if_false]
      exact ⟨1, rfl, rfl, Or.inr rfl⟩
  · have hb' : bt (S.1 4) k = true := by
      cases hh : bt (S.1 4) k
      · exact absurd hh hb
      · rfl
    rw [if_neg hb, if_pos hb']
    refine ⟨1, rfl, ?_, Or.inr rfl⟩
    split
    · split
      · split <;> rfl
      · rfl
    · rfl
theorem sim_claim {c : Nat} {S T : zS} (h : Rel 16 c S T) (x : Int32) : Sim c (fX4_claim S x) (fX5_claim T x) := by
  unfold fX4_claim fX5_claim
  rcases addr_cases x with hx | ⟨k, hk, rfl⟩
  · obtain ⟨e1, e2⟩ := A_bad S T hx
    rw [e1, e2]
    simp only [obnd_s, if_true]
    exact Sim.same h _
  · obtain ⟨e1, e2⟩ := A_ok S T hk
    rw [e1, e2]
    simp only [obnd_s, n10, if_false]
    obtain ⟨b, a1, a2, a3⟩ := sim_taken h hk
    rw [a1, a2]
    unfold fX5_claim_53
    obtain ⟨v1, v2, v3, v4, v5, v6, -, -, v9⟩ := h.2.1
    simp only [zlet_s, obnd_s]
    rw [← v1, ← v2]
    by_cases h1 : S.1 1 = -1
    · rw [if_pos h1, if_pos h1]
      by_cases h2 : S.1 2 = -1
      · rw [if_pos h2, if_pos h2]
        rcases a3 with rfl | rfl
        · simp only [if_true]
          have hR : Rel 16 c (zI (zI S 2 (nI k)) 3 ((zI S 2 (nI k)).1 0)) (zI (zI T 5 (nI k)) 6 ((zI T 5 (nI k)).1 0)) := by
            have e0 : (zI S 2 (nI k)).1 0 = nI c := h.1.1
            have e0' : (zI T 5 (nI k)).1 0 = nI c := h.1.2
            rw [e0, e0']
            exact h.sc (fun j hj => by simp [zI_1, show ¬ j = 2 by omega, show ¬ j = 3 by omega]) (fun j hj => by simp [zI_1, show ¬ j = 5 by omega, show ¬ j = 6 by omega]) rfl rfl ⟨v1, rfl, rfl, v4, v5, v6, v9⟩
          obtain ⟨S1, T1, b1, b2, b3, b4, b5⟩ := hR.go 4 (nI k) 0 0 (nI c) rfl
          have b1' : fX2_add (zI (zI S 2 (nI k)) 3 ((zI S 2 (nI k)).1 0)) 4 (nI k) 0 0 ((zI (zI S 2 (nI k)) 3 ((zI S 2 (nI k)).1 0)).1 0) = some S1 := by rw [hR.1.1]; exact b1
          rw [b1', b2]
          simp only [obnv_s]
          rw [b5.1.1, b5.1.2]
          exact ⟨_, S1, T1, rfl, rfl, b5⟩
        · simp only [n10, if_false]
          exact Sim.same h _
      · rw [if_neg h2, if_neg h2]
        exact Sim.same h _
    · rw [if_neg h1, if_neg h1]
      exact Sim.same h _
theorem sim_give {c : Nat} {S T : zS} (h : Rel 16 c S T) : Sim c (fX4_give S) (fX5_give T) := by
  obtain ⟨v1, v2, v3, v4, v5, v6, -, -, v9⟩ := h.2.1
  have hR : Rel 16 c (zI (zI S 1 (-1)) 2 (-1)) (zI (zI T 4 (-1)) 5 (-1)) := h.sc (fun j hj => by simp [zI_1, show ¬ j = 1 by omega, show ¬ j = 2 by omega]) (fun j hj => by simp [zI_1, show ¬ j = 4 by omega, show ¬ j = 5 by omega]) rfl rfl ⟨rfl, rfl, v3, v4, v5, v6, v9⟩
  unfold fX4_give fX5_give fX4_give_19 fX5_give_19 fX5_give_38
  rw [← v1, ← v2]
  simp only [zlet_s]
  by_cases h1 : S.1 1 = -1
  · rw [if_pos h1, if_pos h1]
    by_cases h2 : S.1 2 = -1
    · rw [if_pos h2, if_pos h2]; exact Sim.same h _
    · rw [if_neg h2, if_neg h2, if_pos h1]; exact ⟨_, _, _, rfl, rfl, hR⟩
  · simp only [if_neg h1]; exact ⟨_, _, _, rfl, rfl, hR⟩
