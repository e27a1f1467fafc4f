/-! the queries on both sides, and what is owed of them -/
theorem lc_near (v : Int32) (M : Nat) (hM : M < 2 ^ 31) : ∃ m, m ≤ M ∧ (∀ post : Int32 → Prop, post (nI m) → wpX_nearest post v (nI M)) ∧ (∀ post : Int32 → Prop, post (nI m) → wpY_within post v (nI M)) := by
  by_cases z : 0 ≤ v
  · obtain ⟨j, hj, rfl⟩ := nI_of (Int32.not_lt.mpr z)
    by_cases y : j ≤ M
    · have y' : nI j ≤ nI M := nI_le y hM
      exact ⟨j, y, fun _ h => br_t z (br_t y' h), fun _ h => br_t z (br_t y' h)⟩
    · have y' : ¬ nI j ≤ nI M := nI_ge (by omega) hj
      exact ⟨M, Nat.le_refl _, fun _ h => br_t z (br_f y' h), fun _ h => br_t z (br_f y' h)⟩
  · exact ⟨0, Nat.zero_le _, fun _ h => br_f z h, fun _ h => br_f z h⟩
theorem lc_setE {c a be bw bl : Nat → Int32} {T p : Nat} (hM : ∀ w, w < 2 ^ lc_ec c T → lc_bx be bw bl w = lc_pf c a w T p) (b : lc_Bx) : lc_Set c a T p b ↔ lc_sq (fun i => lc_bx be bw bl i) (2 ^ lc_ec c T) b :=
  ⟨fun ⟨w, hw, e⟩ => ⟨w, hw, (hM w hw).trans e⟩, fun ⟨w, hw, e⟩ => ⟨w, hw, (hM w hw).symm.trans e⟩⟩
theorem lc_xlines {post : Int32 → Prop} {v1 v2 : Int32} {T : Nat} {L W X C c a : Nat → Int32} (hT : T ≤ 48) (V : lc_VT c a T) (R : lc_R c a T L W X C) (no : (∀ k, k < lc_ht c T → ¬ v1 = nI k) → post (-1)) (yes : ∀ k, k < lc_ht c T → v1 = nI k → ∀ r, lc_IsM (lc_Set c a T (lc_ht c T - 1 - k)) (fun b => ¬ v2 < b.2.1) (fun b => b.1) r → post r) : wpX_lines post (nI (lc_ht c T), nI T, nI (lc_ec c T), L, W, X, C) v1 v2 := by
  have lh := (lc_lim V T (Nat.le_refl _)).1
  unfold wpX_lines
  dsimp only
  refine lc_isDoc lh (fun z => br_t rfl (no z)) (fun k hk e => br_f (by decide) ?_)
  subst e
  obtain ⟨n, hn⟩ := R (lc_ht c T - 1 - k) (by omega)
  have ck : (nI (lc_ht c T - 1 - k)).toNatClampNeg = lc_ht c T - 1 - k := nI_clamp (by omega)
  have e2 : nI (lc_ht c T - 1 - k) * 64 = nI ((lc_ht c T - 1 - k) * 64) := pk_mul _ 64
  unfold wpX_firstCell wpX_endCell
  dsimp only
  rw [lc_pk hk]
  intro x2 ex2
  rw [ex2, ck, hn.2.1, e2, nI_add]
  exact ⟨vp_in_nI (by omega) (by omega), n + 1, lc_xlines_l (by omega) hn.1 (fun i hi => lc_gb1 (lc_gb V hT (by omega) ((hn.2.2.2 _).mpr ⟨i, hi, rfl⟩))) (fun r hr => yes k hk rfl r (lc_IsM_i hr hn.2.2.2)) n 0 (by omega) (-1) lc_IsM_0⟩
theorem lc_ylines {post : Int32 → SY → Prop} {v1 v2 d : Int32} {T : Nat} {c a en wi la be bw bl : Nat → Int32} (hT : T ≤ 48) (V : lc_VT c a T) (no : (∀ k, k < lc_ht c T → ¬ v1 = nI k) → post (-1) (nI T, nI (lc_ht c T), nI (lc_ec c T), d, c, a, en, wi, la, be, bw, bl)) (yes : ∀ k, k < lc_ht c T → v1 = nI k → ∀ r d en wi la be bw bl, lc_IsM (lc_Set c a T (lc_ht c T - 1 - k)) (fun b => ¬ v2 < b.2.1) (fun b => b.1) r → post r (nI T, nI (lc_ht c T), nI (lc_ec c T), d, c, a, en, wi, la, be, bw, bl)) : wpY_lines post (nI T, nI (lc_ht c T), nI (lc_ec c T), d, c, a, en, wi, la, be, bw, bl) v1 v2 := by
  obtain ⟨lh, le⟩ := lc_lim V T (Nat.le_refl _)
  unfold wpY_lines
  dsimp only
  refine lc_missing lh (fun z => br_f (by decide) (no z)) (fun k hk e => br_t rfl ?_)
  subst e
  refine lc_makeAll V hT hk (fun d en wi la be bw bl hM => ⟨2 ^ lc_ec c T + 1, ?_⟩)
  exact lc_ylines_l (lc_p6 le) (fun i hi => lc_gb1 (lc_gb V hT (p := lc_ht c T - 1 - k) (by omega) ((lc_setE hM _).mpr ⟨i, hi, rfl⟩))) (fun r hr => yes k hk rfl r _ _ _ _ _ _ _ (lc_IsM_i hr (lc_setE hM))) (2 ^ lc_ec c T) 0 (by omega) (-1) lc_IsM_0
theorem i_vc_lines {k : Nat} {u : SX} {v : SY} (I : i_Rel k u v) (hk : k + 4 ≤ 2048) (v1 : Int32) (v2 : Int32) : wpX_lines (fun r => wpY_lines (fun r' v' => r' = r ∧ i_Rel (k + 4) u v') v v1 v2) u v1 v2 := by
  obtain ⟨T, L, W, X, C, d, c, a, en, wi, la, be, bw, bl, hT, V, R, rfl, rfl⟩ := I
  have lh := (lc_lim V T (Nat.le_refl _)).1
  refine lc_xlines hT V R (fun z => lc_ylines hT V (fun _ => ⟨rfl, T, L, W, X, C, d, c, a, en, wi, la, be, bw, bl, hT, V, R, rfl, rfl⟩) (fun k hk e => absurd e (z k hk))) (fun k hk e s hs => lc_ylines hT V (fun z => absurd e (z k hk)) (fun k' hk' e' s' d' en' wi' la' be' bw' bl' hs' => ⟨?_, T, L, W, X, C, d', c, a, en', wi', la', be', bw', bl', hT, V, R, rfl, rfl⟩))
  obtain rfl : k = k' := (nI_eq (by omega) (by omega)).mp (e.symm.trans e')
  exact lc_IsM_u hs' hs
theorem lc_xwidth {post : Int32 → Prop} {v1 v2 : Int32} {T : Nat} {L W X C c a : Nat → Int32} (hT : T ≤ 48) (V : lc_VT c a T) (R : lc_R c a T L W X C) (no : (∀ k, k < lc_ht c T → ¬ v1 = nI k) → post (-1)) (yes : ∀ k, k < lc_ht c T → v1 = nI k → ∀ r, lc_IsM (lc_Set c a T (lc_ht c T - 1 - k)) (fun b => ¬ v2 < b.1) (fun b => b.2.1) r → post r) : wpX_width post (nI (lc_ht c T), nI T, nI (lc_ec c T), L, W, X, C) v1 v2 := by
  have lh := (lc_lim V T (Nat.le_refl _)).1
  unfold wpX_width
  dsimp only
  refine lc_isDoc lh (fun z => br_t rfl (no z)) (fun k hk e => br_f (by decide) ?_)
  subst e
  obtain ⟨n, hn⟩ := R (lc_ht c T - 1 - k) (by omega)
  have ck : (nI (lc_ht c T - 1 - k)).toNatClampNeg = lc_ht c T - 1 - k := nI_clamp (by omega)
  have e2 : nI (lc_ht c T - 1 - k) * 64 = nI ((lc_ht c T - 1 - k) * 64) := pk_mul _ 64
  unfold wpX_firstCell wpX_endCell
  dsimp only
  rw [lc_pk hk]
  intro x2 ex2
  rw [ex2, ck, hn.2.1, e2, nI_add]
  exact ⟨vp_in_nI (by omega) (by omega), n + 1, lc_xwidth_l (by omega) hn.1 (fun i hi => lc_gb2 (lc_gb V hT (by omega) ((hn.2.2.2 _).mpr ⟨i, hi, rfl⟩))) (fun r hr => yes k hk rfl r (lc_IsM_i hr hn.2.2.2)) n 0 (by omega) (-1) lc_IsM_0⟩
theorem lc_ywidth {post : Int32 → SY → Prop} {v1 v2 d : Int32} {T : Nat} {c a en wi la be bw bl : Nat → Int32} (hT : T ≤ 48) (V : lc_VT c a T) (no : (∀ k, k < lc_ht c T → ¬ v1 = nI k) → post (-1) (nI T, nI (lc_ht c T), nI (lc_ec c T), d, c, a, en, wi, la, be, bw, bl)) (yes : ∀ k, k < lc_ht c T → v1 = nI k → ∀ r d en wi la be bw bl, lc_IsM (lc_Set c a T (lc_ht c T - 1 - k)) (fun b => ¬ v2 < b.1) (fun b => b.2.1) r → post r (nI T, nI (lc_ht c T), nI (lc_ec c T), d, c, a, en, wi, la, be, bw, bl)) : wpY_width post (nI T, nI (lc_ht c T), nI (lc_ec c T), d, c, a, en, wi, la, be, bw, bl) v1 v2 := by
  obtain ⟨lh, le⟩ := lc_lim V T (Nat.le_refl _)
  unfold wpY_width
  dsimp only
  refine lc_missing lh (fun z => br_f (by decide) (no z)) (fun k hk e => br_t rfl ?_)
  subst e
  refine lc_makeAll V hT hk (fun d en wi la be bw bl hM => ⟨2 ^ lc_ec c T + 1, ?_⟩)
  exact lc_ywidth_l (lc_p6 le) (fun i hi => lc_gb2 (lc_gb V hT (p := lc_ht c T - 1 - k) (by omega) ((lc_setE hM _).mpr ⟨i, hi, rfl⟩))) (fun r hr => yes k hk rfl r _ _ _ _ _ _ _ (lc_IsM_i hr (lc_setE hM))) (2 ^ lc_ec c T) 0 (by omega) (-1) lc_IsM_0
theorem i_vc_width {k : Nat} {u : SX} {v : SY} (I : i_Rel k u v) (hk : k + 4 ≤ 2048) (v1 : Int32) (v2 : Int32) : wpX_width (fun r => wpY_width (fun r' v' => r' = r ∧ i_Rel (k + 4) u v') v v1 v2) u v1 v2 := by
  obtain ⟨T, L, W, X, C, d, c, a, en, wi, la, be, bw, bl, hT, V, R, rfl, rfl⟩ := I
  have lh := (lc_lim V T (Nat.le_refl _)).1
  refine lc_xwidth hT V R (fun z => lc_ywidth hT V (fun _ => ⟨rfl, T, L, W, X, C, d, c, a, en, wi, la, be, bw, bl, hT, V, R, rfl, rfl⟩) (fun k hk e => absurd e (z k hk))) (fun k hk e s hs => lc_ywidth hT V (fun z => absurd e (z k hk)) (fun k' hk' e' s' d' en' wi' la' be' bw' bl' hs' => ⟨?_, T, L, W, X, C, d', c, a, en', wi', la', be', bw', bl', hT, V, R, rfl, rfl⟩))
  obtain rfl : k = k' := (nI_eq (by omega) (by omega)).mp (e.symm.trans e')
  exact lc_IsM_u hs' hs
theorem lc_xlast {post : Int32 → Prop} {v1 v2 v3 : Int32} {T : Nat} {L W X C c a : Nat → Int32} (hT : T ≤ 48) (V : lc_VT c a T) (R : lc_R c a T L W X C) (no : (∀ k, k < lc_ht c T → ¬ v1 = nI k) → post (-1)) (yes : ∀ k, k < lc_ht c T → v1 = nI k → ∀ r, lc_IsM (lc_Set c a T (lc_ht c T - 1 - k)) (fun b => ¬ v2 < b.1 ∧ ¬ v3 < b.2.1) (fun b => b.2.2) r → post r) : wpX_last post (nI (lc_ht c T), nI T, nI (lc_ec c T), L, W, X, C) v1 v2 v3 := by
  have lh := (lc_lim V T (Nat.le_refl _)).1
  unfold wpX_last
  dsimp only
  refine lc_isDoc lh (fun z => br_t rfl (no z)) (fun k hk e => br_f (by decide) ?_)
  subst e
  obtain ⟨n, hn⟩ := R (lc_ht c T - 1 - k) (by omega)
  have ck : (nI (lc_ht c T - 1 - k)).toNatClampNeg = lc_ht c T - 1 - k := nI_clamp (by omega)
  have e2 : nI (lc_ht c T - 1 - k) * 64 = nI ((lc_ht c T - 1 - k) * 64) := pk_mul _ 64
  unfold wpX_firstCell wpX_endCell
  dsimp only
  rw [lc_pk hk]
  intro x2 ex2
  rw [ex2, ck, hn.2.1, e2, nI_add]
  exact ⟨vp_in_nI (by omega) (by omega), n + 1, lc_xlast_l (by omega) hn.1 (fun i hi => lc_gb3 (lc_gb V hT (by omega) ((hn.2.2.2 _).mpr ⟨i, hi, rfl⟩))) (fun r hr => yes k hk rfl r (lc_IsM_i hr hn.2.2.2)) n 0 (by omega) (-1) lc_IsM_0⟩
theorem lc_ylast {post : Int32 → SY → Prop} {v1 v2 v3 d : Int32} {T : Nat} {c a en wi la be bw bl : Nat → Int32} (hT : T ≤ 48) (V : lc_VT c a T) (no : (∀ k, k < lc_ht c T → ¬ v1 = nI k) → post (-1) (nI T, nI (lc_ht c T), nI (lc_ec c T), d, c, a, en, wi, la, be, bw, bl)) (yes : ∀ k, k < lc_ht c T → v1 = nI k → ∀ r d en wi la be bw bl, lc_IsM (lc_Set c a T (lc_ht c T - 1 - k)) (fun b => ¬ v2 < b.1 ∧ ¬ v3 < b.2.1) (fun b => b.2.2) r → post r (nI T, nI (lc_ht c T), nI (lc_ec c T), d, c, a, en, wi, la, be, bw, bl)) : wpY_last post (nI T, nI (lc_ht c T), nI (lc_ec c T), d, c, a, en, wi, la, be, bw, bl) v1 v2 v3 := by
  obtain ⟨lh, le⟩ := lc_lim V T (Nat.le_refl _)
  unfold wpY_last
  dsimp only
  refine lc_missing lh (fun z => br_f (by decide) (no z)) (fun k hk e => br_t rfl ?_)
  subst e
  refine lc_makeAll V hT hk (fun d en wi la be bw bl hM => ⟨2 ^ lc_ec c T + 1, ?_⟩)
  exact lc_ylast_l (lc_p6 le) (fun i hi => lc_gb3 (lc_gb V hT (p := lc_ht c T - 1 - k) (by omega) ((lc_setE hM _).mpr ⟨i, hi, rfl⟩))) (fun r hr => yes k hk rfl r _ _ _ _ _ _ _ (lc_IsM_i hr (lc_setE hM))) (2 ^ lc_ec c T) 0 (by omega) (-1) lc_IsM_0
theorem i_vc_last {k : Nat} {u : SX} {v : SY} (I : i_Rel k u v) (hk : k + 4 ≤ 2048) (v1 : Int32) (v2 : Int32) (v3 : Int32) : wpX_last (fun r => wpY_last (fun r' v' => r' = r ∧ i_Rel (k + 4) u v') v v1 v2 v3) u v1 v2 v3 := by
  obtain ⟨T, L, W, X, C, d, c, a, en, wi, la, be, bw, bl, hT, V, R, rfl, rfl⟩ := I
  have lh := (lc_lim V T (Nat.le_refl _)).1
  refine lc_xlast hT V R (fun z => lc_ylast hT V (fun _ => ⟨rfl, T, L, W, X, C, d, c, a, en, wi, la, be, bw, bl, hT, V, R, rfl, rfl⟩) (fun k hk e => absurd e (z k hk))) (fun k hk e s hs => lc_ylast hT V (fun z => absurd e (z k hk)) (fun k' hk' e' s' d' en' wi' la' be' bw' bl' hs' => ⟨?_, T, L, W, X, C, d', c, a, en', wi', la', be', bw', bl', hT, V, R, rfl, rfl⟩))
  obtain rfl : k = k' := (nI_eq (by omega) (by omega)).mp (e.symm.trans e')
  exact lc_IsM_u hs' hs
theorem lc_xcost {post : Int32 → Prop} {v1 v2 v3 : Int32} {T : Nat} {L W X C c a : Nat → Int32} {p ro : Nat} (hp : p ≤ 100) (ho : ro ≤ 200) (np : ∀ post : Int32 → Prop, post (nI p) → wpX_nearest post v2 (nI 100)) (nr : ∀ post : Int32 → Prop, post (nI ro) → wpX_nearest post v3 (nI 200)) (hT : T ≤ 48) (V : lc_VT c a T) (R : lc_R c a T L W X C) (no : (∀ k, k < lc_ht c T → ¬ v1 = nI k) → post (-1)) (yes : ∀ k, k < lc_ht c T → v1 = nI k → ∀ r, lc_IsM (lc_Set c a T (lc_ht c T - 1 - k)) (fun _ => True) (lc_co (nI p) (nI ro)) r → post r) : wpX_cost post (nI (lc_ht c T), nI T, nI (lc_ec c T), L, W, X, C) v1 v2 v3 := by
  have lh := (lc_lim V T (Nat.le_refl _)).1
  unfold wpX_cost
  dsimp only
  refine lc_isDoc lh (fun z => br_t rfl (no z)) (fun k hk e => br_f (by decide) ?_)
  subst e
  obtain ⟨n, hn⟩ := R (lc_ht c T - 1 - k) (by omega)
  have ck : (nI (lc_ht c T - 1 - k)).toNatClampNeg = lc_ht c T - 1 - k := nI_clamp (by omega)
  have e2 : nI (lc_ht c T - 1 - k) * 64 = nI ((lc_ht c T - 1 - k) * 64) := pk_mul _ 64
  refine np _ (nr _ ?_)
  unfold wpX_firstCell wpX_endCell
  dsimp only
  rw [lc_pk hk]
  intro x2 ex2
  rw [ex2, ck, hn.2.1, e2, nI_add]
  exact ⟨vp_in_nI (by omega) (by omega), n + 1, lc_xcost_l (by omega) hn.1 (fun i hi => lc_gbc (lc_gb V hT (by omega) ((hn.2.2.2 _).mpr ⟨i, hi, rfl⟩)) hp ho) (fun r hr => yes k hk rfl r (lc_IsM_i hr hn.2.2.2)) n 0 (by omega) (-1) lc_IsM_0⟩
theorem lc_ycost {post : Int32 → SY → Prop} {v1 v2 v3 d : Int32} {T : Nat} {c a en wi la be bw bl : Nat → Int32} {p ro : Nat} (hp : p ≤ 100) (ho : ro ≤ 200) (np : ∀ post : Int32 → Prop, post (nI p) → wpY_within post v2 (nI 100)) (nr : ∀ post : Int32 → Prop, post (nI ro) → wpY_within post v3 (nI 200)) (hT : T ≤ 48) (V : lc_VT c a T) (no : (∀ k, k < lc_ht c T → ¬ v1 = nI k) → post (-1) (nI T, nI (lc_ht c T), nI (lc_ec c T), d, c, a, en, wi, la, be, bw, bl)) (yes : ∀ k, k < lc_ht c T → v1 = nI k → ∀ r d en wi la be bw bl, lc_IsM (lc_Set c a T (lc_ht c T - 1 - k)) (fun _ => True) (lc_co (nI p) (nI ro)) r → post r (nI T, nI (lc_ht c T), nI (lc_ec c T), d, c, a, en, wi, la, be, bw, bl)) : wpY_cost post (nI T, nI (lc_ht c T), nI (lc_ec c T), d, c, a, en, wi, la, be, bw, bl) v1 v2 v3 := by
  obtain ⟨lh, le⟩ := lc_lim V T (Nat.le_refl _)
  unfold wpY_cost
  dsimp only
  refine lc_missing lh (fun z => br_f (by decide) (no z)) (fun k hk e => br_t rfl ?_)
  subst e
  refine np _ (nr _ ?_)
  refine lc_makeAll V hT hk (fun d en wi la be bw bl hM => ⟨2 ^ lc_ec c T + 1, ?_⟩)
  exact lc_ycost_l (lc_p6 le) (fun i hi => lc_gbc (lc_gb V hT (p := lc_ht c T - 1 - k) (by omega) ((lc_setE hM _).mpr ⟨i, hi, rfl⟩)) hp ho) (fun r hr => yes k hk rfl r _ _ _ _ _ _ _ (lc_IsM_i hr (lc_setE hM))) (2 ^ lc_ec c T) 0 (by omega) (-1) lc_IsM_0
theorem i_vc_cost {k : Nat} {u : SX} {v : SY} (I : i_Rel k u v) (hk : k + 4 ≤ 2048) (v1 : Int32) (v2 : Int32) (v3 : Int32) : wpX_cost (fun r => wpY_cost (fun r' v' => r' = r ∧ i_Rel (k + 4) u v') v v1 v2 v3) u v1 v2 v3 := by
  obtain ⟨T, L, W, X, C, d, c, a, en, wi, la, be, bw, bl, hT, V, R, rfl, rfl⟩ := I
  have lh := (lc_lim V T (Nat.le_refl _)).1
  obtain ⟨p, hp, px, py⟩ := lc_near v2 100 (by decide)
  obtain ⟨r, hr, rx, ry⟩ := lc_near v3 200 (by decide)
  refine lc_xcost hp hr px rx hT V R (fun z => lc_ycost hp hr py ry hT V (fun _ => ⟨rfl, T, L, W, X, C, d, c, a, en, wi, la, be, bw, bl, hT, V, R, rfl, rfl⟩) (fun k hk e => absurd e (z k hk))) (fun k hk e s hs => lc_ycost hp hr py ry hT V (fun z => absurd e (z k hk)) (fun k' hk' e' s' d' en' wi' la' be' bw' bl' hs' => ⟨?_, T, L, W, X, C, d', c, a, en', wi', la', be', bw', bl', hT, V, R, rfl, rfl⟩))
  obtain rfl : k = k' := (nI_eq (by omega) (by omega)).mp (e.symm.trans e')
  exact lc_IsM_u hs' hs
