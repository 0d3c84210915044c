/-! ===== digest ===== -/
theorem Rel.zL {q c : Nat} {S T : zS} (h : Rel q c S T) (v : Int64) : Rel q c S (zL T v) := h
theorem zL_zL (T : zS) (a b : Int64) : zL (zL T a) b = zL T b := rfl
theorem M_mix (T : zS) (h v : Int64) : fX5_mix (zL T h) v = some (zL T (31 * h + v)) := rfl
theorem X_mix (S : zS) (h : Int64) (x : Int32) : fX4_mix S h x = some (31 * h + x.toInt64, S) := rfl
def eX1 (S : zS) (h : Int64) : Option (Int64 × zS) := obnd (fX4_mixEntries S h) (fun y_1 S_1 => zlet y_1 (fun y_2 => obnd (fX4_mixRouters S_1 y_2) (fun y_3 S_2 => zlet y_3 (fun y_4 => zlet (0 : Int32) (fun y_5 => fX4_digest_42 64 S_2 y_4 y_5)))))
theorem D_about {c : Nat} {S T : zS} (hR : Rel 16 c S T) : ∀ (d f k : Nat) (h : Int64), k + d = 6 → d < f → ∃ h', fX4_digest_6 f S h (nI k) = eX1 S h' ∧ fX5_digest_9 f (zL T h) (nI k) = fX5_digest_33 64 (zL T h') 0 := by
  intro d
  induction d with
  | zero =>
    intro f k h hk hf
    obtain ⟨f, rfl⟩ := fu hf
    obtain rfl : k = 6 := by omega
    refine ⟨h, ?_, ?_⟩
    · show bX4_digest_6 _ S _ _ = _
      unfold bX4_digest_6
      rw [if_pos (by decide)]; rfl
    · show bX5_digest_9 _ _ _ = _
      unfold bX5_digest_9
      rw [if_pos (by decide), zlet_e]
  | succ d ih =>
    intro f k h hk hf
    obtain ⟨f, rfl⟩ := fu hf
    obtain ⟨r, e1, e2⟩ := Q_about (hR.zL h) (w := k) (by omega)
    obtain ⟨h', a1, a2⟩ := ih f (k + 1) (31 * h + r.toInt64) (by omega) (by omega)
    refine ⟨h', ?_, ?_⟩
    · show bX4_digest_6 _ S _ _ = _
      unfold bX4_digest_6
      rw [if_neg (show ¬ (6 : Int32) ≤ nI k from nI_ge (b := 6) (by omega) (by decide)), e1, obnd_s, X_mix, obnd_s, zlet_e, zlet_e, z_sc]
      exact a1
    · show bX5_digest_9 _ _ _ = _
      unfold bX5_digest_9
      rw [if_neg (show ¬ (6 : Int32) ≤ nI k from nI_ge (b := 6) (by omega) (by decide)), e2, obnd_s, M_mix, obnv_s, zlet_e, z_sc]
      exact a2
theorem D_held {c k w : Nat} {S T : zS} (hR : Rel 16 c S T) (hk : k < 16) (hp : T.2.1 0 k = 1) (hw : S.2.1 8 k = nI w) (hw3 : w ≤ 3) : ∀ (d f i : Nat) (h : Int64), i + d = w → d < f → ∃ h', fX4_mixEntry_46 f S (nI k) h (nI w) (nI i) = some (h', S) ∧ fX5_mixEntry_44 f (zL T h) (nI k) (nI i) = some (zL T h') := by
  have hT : T.2.1 6 k = nI w := by rw [← hR.2.2.1.2.2.2.2.1]; exact hw
  have hT9 : T.2.1 7 = S.2.1 9 := hR.2.2.1.2.2.2.2.2.symm
  intro d
  induction d with
  | zero =>
    intro f i h hi hf
    obtain ⟨f, rfl⟩ := fu hf
    refine ⟨h, ?_, ?_⟩
    · show bX4_mixEntry_46 _ S _ _ _ _ = _
      unfold bX4_mixEntry_46
      rw [if_pos ((z_le (by omega) (by omega)).mpr (by omega))]
    · show bX5_mixEntry_44 _ _ _ _ = _
      unfold bX5_mixEntry_44
      rw [z_in16 hk, z_cl (by omega), show (zL T h).2.1 6 k = nI w from hT, if_pos ((z_le (by omega) (by omega)).mpr (by omega))]
  | succ d ih =>
    intro f i h hi hf
    obtain ⟨f, rfl⟩ := fu hf
    obtain ⟨h', a1, a2⟩ := ih f (i + 1) (31 * h + (S.2.1 9 (3 * k + i)).toInt64) (by omega) (by omega)
    refine ⟨h', ?_, ?_⟩
    · show bX4_mixEntry_46 _ S _ _ _ _ = _
      unfold bX4_mixEntry_46
      rw [if_neg (fun e => absurd ((z_le (by omega) (by omega)).mp e) (by omega)), Q_held hR hk hp hw hw3 (by omega), obnd_s, X_mix, obnd_s, zlet_e, zlet_e, z_sc]
      exact a1
    · show bX5_mixEntry_44 _ _ _ _ = _
      unfold bX5_mixEntry_44
      rw [z_in16 hk, z_cl (by omega), show (zL T h).2.1 6 k = nI w from hT, if_neg (fun e => absurd ((z_le (by omega) (by omega)).mp e) (by omega)), z_m3', z_p, z_in48 (by omega), z_cl (by omega), show (zL T h).2.1 7 = S.2.1 9 from hT9, M_mix, obnv_s, zlet_e, z_sc]
      exact a2
theorem D_ent6 {c k : Nat} {S T : zS} (hR : Rel 16 c S T) (hk : k < 16) (hp : T.2.1 0 k = 1) : ∀ (d f w : Nat) (h : Int64), w + d = 8 → d < f → ∃ h', fX4_mixEntry_6 f S (nI k) h (nI w) = some (h', S) ∧ fX5_mixEntry_19 f (zL T h) (nI k) (nI w) = some (zL T h') := by
  intro d
  induction d with
  | zero =>
    intro f w h hw hf
    obtain ⟨f, rfl⟩ := fu hf
    obtain rfl : w = 8 := by omega
    obtain ⟨n, hn, e⟩ := w_nI (hR.w03 hk)
    obtain ⟨h', a1, a2⟩ := D_held hR hk hp e hn n 64 0 h (by omega) (by omega)
    refine ⟨h', ?_, ?_⟩
    · show bX4_mixEntry_6 _ S _ _ _ = _
      unfold bX4_mixEntry_6
      rw [if_pos (by decide), X_wait1 hR hk hp, obnd_s, zlet_e, zlet_e, e]
      exact a1
    · show bX5_mixEntry_19 _ _ _ _ = _
      unfold bX5_mixEntry_19
      rw [if_pos (by decide), zlet_e]
      exact a2
  | succ d ih =>
    intro f w h hw hf
    obtain ⟨f, rfl⟩ := fu hf
    obtain ⟨r, e1, e2⟩ := Q_entry (hR.zL h) hk hp (w := w) (by omega)
    obtain ⟨h', a1, a2⟩ := ih f (w + 1) (31 * h + r.toInt64) (by omega) (by omega)
    refine ⟨h', ?_, ?_⟩
    · show bX4_mixEntry_6 _ S _ _ _ = _
      unfold bX4_mixEntry_6
      rw [if_neg (show ¬ (8 : Int32) ≤ nI w from nI_ge (b := 8) (by omega) (by decide)), e1, obnd_s, X_mix, obnd_s, zlet_e, zlet_e, z_sc]
      exact a1
    · show bX5_mixEntry_19 _ _ _ _ = _
      unfold bX5_mixEntry_19
      rw [if_neg (show ¬ (8 : Int32) ≤ nI w from nI_ge (b := 8) (by omega) (by decide)), e2, obnd_s, M_mix, obnv_s, zlet_e, z_sc]
      exact a2
theorem D_ents {c : Nat} {S T : zS} (hR : Rel 16 c S T) : ∀ (d f k : Nat) (h : Int64), k + d = 16 → d < f → ∃ h', fX4_mixEntries_5 f S h (nI k) = some (h', S) ∧ fX5_digest_33 f (zL T h) (nI k) = obnv (fX5_mixRouters (zL T h')) (fun S_1 => zlet (16 : Int32) (fun y_1 => fX5_digest_57 64 S_1 y_1)) := by
  intro d
  induction d with
  | zero =>
    intro f k h hk hf
    obtain ⟨f, rfl⟩ := fu hf
    obtain rfl : k = 16 := by omega
    refine ⟨h, ?_, ?_⟩
    · show bX4_mixEntries_5 _ S _ _ = _
      unfold bX4_mixEntries_5
      rw [if_pos z_16e]
    · show bX5_digest_33 _ _ _ = _
      unfold bX5_digest_33
      rw [if_pos z_16e]
  | succ d ih =>
    intro f k h hk hf
    obtain ⟨f, rfl⟩ := fu hf
    have h16 : k < 16 := by omega
    rcases hR.there h16 with ⟨p0, -⟩ | ⟨p0, -⟩
    · obtain ⟨h', a1, a2⟩ := ih f (k + 1) (31 * h + (-1)) (by omega) (by omega)
      refine ⟨h', ?_, ?_⟩
      · show bX4_mixEntries_5 _ S _ _ = _
        unfold bX4_mixEntries_5 fX4_mixEntries_39
        rw [if_neg (z_16 h16), X_has0 hR h16 p0, obnd_s, if_pos rfl, X_mix, obnd_s, zlet_e, zlet_e, z_sc, show ((-1 : Int32)).toInt64 = -1 by decide]
        exact a1
      · show bX5_digest_33 _ _ _ = _
        unfold bX5_digest_33 fX5_mixEntry
        rw [if_neg (z_16 h16), z_in16 h16, z_cl (by omega), show (zL T h).2.1 0 k = 0 from p0, if_pos rfl, M_mix, obnv_s, obnv_s, zlet_e, z_sc]
        exact a2
    · obtain ⟨h1, b1, b2⟩ := D_ent6 hR h16 p0 8 64 0 h (by omega) (by omega)
      obtain ⟨h', a1, a2⟩ := ih f (k + 1) h1 (by omega) (by omega)
      have b1' : fX4_mixEntry S h (nI k) = some (h1, S) := by
        unfold fX4_mixEntry
        rw [zlet_e, zlet_e]; exact b1
      have b2' : fX5_mixEntry (zL T h) (nI k) = some (zL T h1) := by
        unfold fX5_mixEntry
        rw [z_in16 h16, z_cl (by omega), show (zL T h).2.1 0 k = 1 from p0, if_neg n10, zlet_e]; exact b2
      refine ⟨h', ?_, ?_⟩
      · show bX4_mixEntries_5 _ S _ _ = _
        unfold bX4_mixEntries_5 fX4_mixEntries_39
        rw [if_neg (z_16 h16), X_has1 hR h16 p0, obnd_s, if_neg n10, b1', obnd_s, zlet_e, zlet_e, z_sc]
        exact a1
      · show bX5_digest_33 _ _ _ = _
        unfold bX5_digest_33
        rw [if_neg (z_16 h16), b2', obnv_s, zlet_e, z_sc]
        exact a2
theorem znz4 {β : Type} (E : Option β) : znz (4 : Int32) E = E := by unfold znz; rw [if_neg (by decide)]
theorem M_rstep {c n p w : Nat} {ad : Nat → Nat} {S T : zS} (hR : Rel 16 c S T) (hr : rRn n ad S T) (hp : p < n) (hw : w < 4) (f : Nat) (h : Int64) : ∃ r, fX4_router S (nI p) (nI w) = some (r, S) ∧ fX5_mixRouters_7 (f + 1) (zL T h) (nI n) (nI (4 * p + w)) = fX5_mixRouters_7 f (zL T (31 * h + r.toInt64)) (nI n) (nI (4 * p + w + 1)) := by
  have hn := hr.1
  obtain ⟨a, r, e1, e2, e3⟩ := Q_router (hR.zL h) (show rRn n ad S (zL T h) from hr) hp hw
  refine ⟨r, e1, ?_⟩
  show bX5_mixRouters_7 _ _ _ _ = _
  unfold bX5_mixRouters_7
  have d1 : nI (4 * p + w) / (4 : Int32) = nI p := by
    have := pk_div (a := 4 * p + w) (d := 4) (by omega) (by omega) (by omega)
    rw [show (4 : Int32) = nI 4 from rfl, this]; congr 1; omega
  have d2 : nI (4 * p + w) - nI (4 * p + w) / (4 : Int32) * 4 = nI w := by
    have := pk_rem (a := 4 * p + w) (d := 4) (by omega) (by omega) (by omega)
    rw [show (4 : Int32) = nI 4 from rfl, this]; congr 1; omega
  have d3 : (4 : Int32) * nI n = nI (4 * n) := pk_mul 4 n
  rw [d3, if_neg (fun e => absurd ((z_le (by omega) (by omega)).mp e) (by omega)), znz4, d2, d1, e2, obnd_s, znz4, e3, obnd_s, M_mix, obnv_s, zlet_e, z_sc]
theorem D_r24 {c n p : Nat} {ad : Nat → Nat} {S T : zS} (hR : Rel 16 c S T) (hr : rRn n ad S T) (hp : p < n) (F : zS → Int64 → Int32 → Int32 → Option (Int64 × zS)) : ∀ (d f w : Nat) (h : Int64), w + d = 4 → d < f → ∃ h', fX4_mixRouters_24 F f S h (nI n) (nI p) (nI w) = F S h' (nI n) (nI (p + 1)) ∧ ∀ g, fX5_mixRouters_7 (g + d) (zL T h) (nI n) (nI (4 * p + w)) = fX5_mixRouters_7 g (zL T h') (nI n) (nI (4 * (p + 1))) := by
  have hn := hr.1
  intro d
  induction d with
  | zero =>
    intro f w h hw hf
    obtain ⟨f, rfl⟩ := fu hf
    obtain rfl : w = 4 := by omega
    refine ⟨h, ?_, fun g => rfl⟩
    show bX4_mixRouters_24 _ _ S _ _ _ _ = _
    unfold bX4_mixRouters_24
    rw [if_pos (by decide), zlet_e, z_sc]
  | succ d ih =>
    intro f w h hw hf
    obtain ⟨f, rfl⟩ := fu hf
    obtain ⟨r, e1, -⟩ := M_rstep hR hr hp (w := w) (by omega) 0 h
    obtain ⟨h', a1, a2⟩ := ih f (w + 1) (31 * h + r.toInt64) (by omega) (by omega)
    refine ⟨h', ?_, fun g => ?_⟩
    · show bX4_mixRouters_24 _ _ S _ _ _ _ = _
      unfold bX4_mixRouters_24
      rw [if_neg (show ¬ (4 : Int32) ≤ nI w from nI_ge (b := 4) (by omega) (by decide)), e1, obnd_s, X_mix, obnd_s, zlet_e, zlet_e, z_sc]
      exact a1
    · obtain ⟨r', e1', e2⟩ := M_rstep hR hr hp (w := w) (by omega) (g + d) h
      have : r' = r := by rw [e1] at e1'; exact (Prod.mk.inj (Option.some.inj e1')).1.symm
      rw [this] at e2
      show fX5_mixRouters_7 (g + d + 1) _ _ _ = _
      rw [e2]
      exact a2 g
theorem D_r14 {c n : Nat} {ad : Nat → Nat} {S T : zS} (hR : Rel 16 c S T) (hr : rRn n ad S T) : ∀ (d f p : Nat) (h : Int64), p + d = n → d < f → ∃ h', fX4_mixRouters_14 f S h (nI n) (nI p) = some (h', S) ∧ ∀ g, fX5_mixRouters_7 (g + 1 + 4 * d) (zL T h) (nI n) (nI (4 * p)) = some (zL T h') := by
  have hn := hr.1
  intro d
  induction d with
  | zero =>
    intro f p h hp hf
    obtain ⟨f, rfl⟩ := fu hf
    obtain rfl : p = n := by omega
    refine ⟨h, ?_, fun g => ?_⟩
    · show bX4_mixRouters_14 _ S _ _ _ = _
      unfold bX4_mixRouters_14
      rw [if_pos ((z_le (by omega) (by omega)).mpr (by omega))]
    · show bX5_mixRouters_7 _ _ _ _ = _
      unfold bX5_mixRouters_7
      have d3 : (4 : Int32) * nI p = nI (4 * p) := pk_mul 4 p
      rw [d3, if_pos ((z_le (by omega) (by omega)).mpr (by omega))]
  | succ d ih =>
    intro f p h hp hf
    obtain ⟨f, rfl⟩ := fu hf
    obtain ⟨h1, b1, b2⟩ := D_r24 hR hr (p := p) (by omega) (fX4_mixRouters_14 f) 4 64 0 h (by omega) (by omega)
    obtain ⟨h', a1, a2⟩ := ih f (p + 1) h1 (by omega) (by omega)
    refine ⟨h', ?_, fun g => ?_⟩
    · show bX4_mixRouters_14 _ S _ _ _ = _
      unfold bX4_mixRouters_14
      rw [if_neg (fun e => absurd ((z_le (by omega) (by omega)).mp e) (by omega)), zlet_e]
      exact b1.trans a1
    · have := b2 (g + 1 + 4 * d)
      rw [Nat.add_zero (4 * p)] at this
      rw [show g + 1 + 4 * (d + 1) = g + 1 + 4 * d + 4 by omega, this]
      exact a2 g
theorem D_routers {c : Nat} {S T : zS} (hR : Rel 16 c S T) (h : Int64) : ∃ h', fX4_mixRouters S h = some (h', S) ∧ fX5_mixRouters (zL T h) = some (zL T h') := by
  obtain ⟨n, ad, hr⟩ := hR.2.2.2.2.2.2.1
  have hr : rRn n ad S T := hr
  have hn := hr.1
  obtain ⟨h', a1, a2⟩ := D_r14 hR hr n 64 0 h (by omega) (by omega)
  refine ⟨h', ?_, ?_⟩
  · unfold fX4_mixRouters fX3_howMany
    rw [zlet_e, obnd_s, zlet_e, zlet_e, hr.2.1]
    exact a1
  · unfold fX5_mixRouters
    have e : fX5_routers (zL T h) = some (nI n, zL T h) := by
      rw [M_routers, show zcn (pRo (zL T h)) 16 = n from hr.cnt]
    rw [e, obnd_s, zlet_e, zlet_e]
    have := a2 (63 - 4 * n)
    rw [show 63 - 4 * n + 1 + 4 * n = 64 by omega] at this
    exact this
def eX2 (S : zS) (h : Int64) : Option (Int64 × zS) := obnd (fX4_mixOutbox S h) (fun y_1 S_1 => zlet y_1 (fun y_2 => zlet (0 : Int32) (fun y_3 => fX4_digest_74 64 S_1 y_2 y_3)))
theorem g_ok (T : zS) {i : Nat} (hi : i < 4) : fX5_isGoal T (nI (16 + i)) = some (1, T) := by
  have : i = 0 ∨ i = 1 ∨ i = 2 ∨ i = 3 := by omega
  rcases this with rfl | rfl | rfl | rfl <;> rfl
theorem D_hops {c : Nat} {S T : zS} (hR : Rel 16 c S T) : ∀ (d f i : Nat) (h : Int64), i + d = 4 → d < f → ∃ h', fX4_digest_42 f S h (nI i) = eX2 S h' ∧ fX5_digest_57 f (zL T h) (nI (16 + i)) = fX5_digest_81 64 (zL T h') 0 := by
  intro d
  induction d with
  | zero =>
    intro f i h hi hf
    obtain ⟨f, rfl⟩ := fu hf
    obtain rfl : i = 4 := by omega
    refine ⟨h, ?_, ?_⟩
    · show bX4_digest_42 _ S _ _ = _
      unfold bX4_digest_42
      rw [if_pos (by decide)]; rfl
    · show bX5_digest_57 _ _ _ = _
      unfold bX5_digest_57
      rw [if_pos (by decide), zlet_e]
  | succ d ih =>
    intro f i h hi hf
    obtain ⟨f, rfl⟩ := fu hf
    obtain ⟨ho, e1, -, e3⟩ := X_hop (hR.zL h) (nI (16 + i))
    have e2 := e3 1 (g_ok (zL T h) (by omega)) n10
    obtain ⟨h', a1, a2⟩ := ih f (i + 1) (31 * h + ho.toInt64) (by omega) (by omega)
    have eg : (16 : Int32) + nI i = nI (16 + i) := nI_add 16 i
    refine ⟨h', ?_, ?_⟩
    · show bX4_digest_42 _ S _ _ = _
      unfold bX4_digest_42
      rw [if_neg (show ¬ (4 : Int32) ≤ nI i from nI_ge (b := 4) (by omega) (by decide)), eg, e1, obnd_s, X_mix, obnd_s, zlet_e, zlet_e, z_sc]
      exact a1
    · show bX5_digest_57 _ _ _ = _
      unfold bX5_digest_57
      rw [if_neg (show ¬ (20 : Int32) ≤ nI (16 + i) from nI_ge (b := 20) (by omega) (by decide)), e2, obnd_s, M_mix, obnv_s, zlet_e, z_sc]
      exact a2
theorem M_ostep {n i w : Nat} {T : zS} (hn : n ≤ 10) (h2 : T.1 8 = nI n) (hi : i < n) (hw : w < 5) (f : Nat) (h : Int64) : fX5_digest_81 (f + 1) (zL T h) (nI (5 * i + w)) = fX5_digest_81 f (zL T (31 * h + (T.2.1 13 (5 * i + w)).toInt64)) (nI (5 * i + w + 1)) := by
  show bX5_digest_81 _ _ _ = _
  unfold bX5_digest_81
  have d3 : (5 : Int32) * (zL T h).1 8 = nI (5 * n) := by rw [show (zL T h).1 8 = nI n from h2]; exact pk_mul 5 n
  rw [d3, if_neg (fun e => absurd ((z_le (by omega) (by omega)).mp e) (by omega)), z_in50 (by omega), z_cl (by omega), M_mix, obnv_s, zlet_e, z_sc]
  rfl
theorem D_o24 {n q i : Nat} {S T : zS} (hn : n ≤ 10) (hq : q < 10) (h1 : S.1 8 = nI n) (h2 : T.1 8 = nI n) (h3 : S.1 7 = nI q) (h6 : ∀ i, i < n → ∀ w, w < 5 → S.2.1 0 ((q + 10 - i) % 10 * 5 + w) = T.2.1 13 (5 * i + w)) (hi : i < n) (F : zS → Int64 → Int32 → Int32 → Option (Int64 × zS)) : ∀ (d f w : Nat) (h : Int64), w + d = 5 → d < f → ∃ h', fX4_mixOutbox_24 F f S h (nI n) (nI i) (nI w) = F S h' (nI n) (nI (i + 1)) ∧ ∀ g, fX5_digest_81 (g + d) (zL T h) (nI (5 * i + w)) = fX5_digest_81 g (zL T h') (nI (5 * (i + 1))) := by
  intro d
  induction d with
  | zero =>
    intro f w h hw hf
    obtain ⟨f, rfl⟩ := fu hf
    obtain rfl : w = 5 := by omega
    refine ⟨h, ?_, fun g => rfl⟩
    show bX4_mixOutbox_24 _ _ S _ _ _ _ = _
    unfold bX4_mixOutbox_24
    rw [if_pos (by decide), zlet_e, z_sc]
  | succ d ih =>
    intro f w h hw hf
    obtain ⟨f, rfl⟩ := fu hf
    obtain ⟨h', a1, a2⟩ := ih f (w + 1) (31 * h + (T.2.1 13 (5 * i + w)).toInt64) (by omega) (by omega)
    refine ⟨h', ?_, fun g => ?_⟩
    · show bX4_mixOutbox_24 _ _ S _ _ _ _ = _
      unfold bX4_mixOutbox_24
      rw [if_neg (show ¬ (5 : Int32) ≤ nI w from nI_ge (b := 5) (by omega) (by decide)), Q_out hn hq h1 h3 h6 hi (by omega), obnd_s, X_mix, obnd_s, zlet_e, zlet_e, z_sc]
      exact a1
    · show fX5_digest_81 (g + d + 1) _ _ = _
      rw [M_ostep hn h2 hi (by omega)]
      exact a2 g
theorem D_o14 {n q : Nat} {S T : zS} (hn : n ≤ 10) (hq : q < 10) (h1 : S.1 8 = nI n) (h2 : T.1 8 = nI n) (h3 : S.1 7 = nI q) (h6 : ∀ i, i < n → ∀ w, w < 5 → S.2.1 0 ((q + 10 - i) % 10 * 5 + w) = T.2.1 13 (5 * i + w)) : ∀ (d f i : Nat) (h : Int64), i + d = n → d < f → ∃ h', fX4_mixOutbox_14 f S h (nI n) (nI i) = some (h', S) ∧ ∀ g, fX5_digest_81 (g + 1 + 5 * d) (zL T h) (nI (5 * i)) = fX5_digest_110 64 (zL T h') 0 := by
  intro d
  induction d with
  | zero =>
    intro f i h hi hf
    obtain ⟨f, rfl⟩ := fu hf
    obtain rfl : i = n := by omega
    refine ⟨h, ?_, fun g => ?_⟩
    · show bX4_mixOutbox_14 _ S _ _ _ = _
      unfold bX4_mixOutbox_14
      rw [if_pos ((z_le (by omega) (by omega)).mpr (by omega))]
    · show bX5_digest_81 _ _ _ = _
      unfold bX5_digest_81
      have d3 : (5 : Int32) * (zL T h).1 8 = nI (5 * i) := by rw [show (zL T h).1 8 = nI i from h2]; exact pk_mul 5 i
      rw [d3, if_pos ((z_le (by omega) (by omega)).mpr (by omega)), zlet_e]
  | succ d ih =>
    intro f i h hi hf
    obtain ⟨f, rfl⟩ := fu hf
    obtain ⟨g1, b1, b2⟩ := D_o24 hn hq h1 h2 h3 h6 (i := i) (by omega) (fX4_mixOutbox_14 f) 5 64 0 h (by omega) (by omega)
    obtain ⟨h', a1, a2⟩ := ih f (i + 1) g1 (by omega) (by omega)
    refine ⟨h', ?_, fun g => ?_⟩
    · show bX4_mixOutbox_14 _ S _ _ _ = _
      unfold bX4_mixOutbox_14
      rw [if_neg (fun e => absurd ((z_le (by omega) (by omega)).mp e) (by omega)), zlet_e]
      exact b1.trans a1
    · have := b2 (g + 1 + 5 * d)
      rw [Nat.add_zero (5 * i)] at this
      rw [show g + 1 + 5 * (d + 1) = g + 1 + 5 * d + 5 by omega, this]
      exact a2 g
theorem D_outs {c : Nat} {S T : zS} (hR : Rel 16 c S T) (h : Int64) : ∃ h', fX4_mixOutbox S h = some (h', S) ∧ fX5_digest_81 64 (zL T h) 0 = fX5_digest_110 64 (zL T h') 0 := by
  obtain ⟨n, q, hn, hq, h1, h2, h3, h4, h5, h6⟩ := hR.2.2.2.2.2.2.2
  obtain ⟨h', a1, a2⟩ := D_o14 hn hq h1 h2 h3 h6 n 64 0 h (by omega) (by omega)
  refine ⟨h', ?_, ?_⟩
  · unfold fX4_mixOutbox fX2_howMany
    rw [zlet_e, obnd_s, zlet_e, zlet_e, h1]
    exact a1
  · have := a2 (63 - 5 * n)
    rw [show 63 - 5 * n + 1 + 5 * n = 64 by omega] at this
    exact this
theorem D_cnt {c : Nat} {S T : zS} (hR : Rel 16 c S T) : ∀ (d f k : Nat) (h : Int64), k + d = 9 → d < f → ∃ h', fX4_digest_74 f S h (nI k) = some (h', S) ∧ fX5_digest_110 f (zL T h) (nI k) = some (h', zL T h') := by
  intro d
  induction d with
  | zero =>
    intro f k h hk hf
    obtain ⟨f, rfl⟩ := fu hf
    obtain rfl : k = 9 := by omega
    refine ⟨h, ?_, ?_⟩
    · show bX4_digest_74 _ S _ _ = _
      unfold bX4_digest_74
      rw [if_pos (by decide)]
    · show bX5_digest_110 _ _ _ = _
      unfold bX5_digest_110
      rw [if_pos (by decide)]; rfl
  | succ d ih =>
    intro f k h hk hf
    obtain ⟨f, rfl⟩ := fu hf
    obtain ⟨r, e1, e2⟩ := sim_many (hR.zL h) (nI k)
    obtain ⟨h', a1, a2⟩ := ih f (k + 1) (31 * h + r.toInt64) (by omega) (by omega)
    refine ⟨h', ?_, ?_⟩
    · show bX4_digest_74 _ S _ _ = _
      unfold bX4_digest_74
      rw [if_neg (show ¬ (9 : Int32) ≤ nI k from nI_ge (b := 9) (by omega) (by decide)), e1, obnd_s, X_mix, obnd_s, zlet_e, zlet_e, z_sc]
      exact a1
    · show bX5_digest_110 _ _ _ = _
      unfold bX5_digest_110
      rw [if_neg (show ¬ (9 : Int32) ≤ nI k from nI_ge (b := 9) (by omega) (by decide)), e2, obnd_s, M_mix, obnv_s, zlet_e, z_sc]
      exact a2
theorem sim_digest {c : Nat} {S T : zS} (hR : Rel 16 c S T) : ∃ r S' T', fX4_digest S = some (r, S') ∧ fX5_digest T = some (r, T') ∧ Rel 16 c S' T' := by
  obtain ⟨h1, a1, a2⟩ := D_about hR 6 64 0 1523 (by omega) (by omega)
  obtain ⟨h2, b1, b2⟩ := D_ents hR 16 64 0 h1 (by omega) (by omega)
  obtain ⟨h3, c1, c2⟩ := D_routers hR h2
  obtain ⟨h4, d1, d2⟩ := D_hops hR 4 64 0 h3 (by omega) (by omega)
  obtain ⟨h5, e1, e2⟩ := D_outs hR h4
  obtain ⟨h6, f1, f2⟩ := D_cnt hR 9 64 0 h5 (by omega) (by omega)
  have z0 : nI 0 = (0 : Int32) := rfl
  have z16 : nI (16 + 0) = (16 : Int32) := rfl
  rw [z0] at a1 a2 b1 b2 d1 f1 f2
  rw [z16] at d2
  refine ⟨h6, S, zL T h6, ?_, ?_, hR⟩
  · unfold fX4_digest
    rw [zlet_e, zlet_e, a1]
    unfold eX1 fX4_mixEntries
    rw [zlet_e, zlet_e, b1, obnd_s, zlet_e, c1, obnd_s, zlet_e, zlet_e, d1]
    unfold eX2
    rw [e1, obnd_s, zlet_e, zlet_e, f1]
  · unfold fX5_digest
    rw [zlet_e, zlet_e, a2, b2, c2, obnv_s, zlet_e, d2, e2, f2]
