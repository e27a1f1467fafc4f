/-! best on both sides -/
theorem lc_xbest {post : Int32 → Prop} {v1 : Int32} {T : Nat} {L W X C c a : Nat → Int32} (V : lc_VT c a T) (R : lc_R c a T L W X C) (no : (∀ k, k < lc_ht c T → ¬ v1 = nI k) → post (-1)) (yes : ∀ k, k < lc_ht c T → v1 = nI k → ∀ (n : Nat) (G : Nat → lc_Bx), (∀ i j, i < n → j < n → G i = G j → i = j) → (∀ b, lc_Set c a T (lc_ht c T - 1 - k) b ↔ ∃ i, i < n ∧ G i = b) → post (nI (lc_cn (lc_BX G n) n))) : wpX_best post (nI (lc_ht c T), nI T, nI (lc_ec c T), L, W, X, C) v1 := by
  have lh := (lc_lim V T (Nat.le_refl _)).1
  unfold wpX_best
  dsimp only
  refine lc_isDoc lh (fun z => br_t rfl (no z)) (fun k hk e => br_f (by decide) ?_)
  subst e
  obtain ⟨n, hn⟩ := R (lc_ht c T - 1 - k) (by omega)
  have ck : (nI (lc_ht c T - 1 - k)).toNatClampNeg = lc_ht c T - 1 - k := nI_clamp (by omega)
  have e2 : nI (lc_ht c T - 1 - k) * 64 = nI ((lc_ht c T - 1 - k) * 64) := pk_mul _ 64
  unfold wpX_firstCell wpX_endCell
  dsimp only
  rw [lc_pk hk]
  intro x2 ex2
  rw [ex2, ck, hn.2.1, e2, nI_add]
  exact ⟨vp_in_nI (by omega) (by omega), n + 1, lc_xbest_l (by omega) hn.1 (yes k hk rfl n _ hn.2.2.1 hn.2.2.2) n 0 (by omega)⟩
theorem lc_ybest {post : Int32 → SY → Prop} {v1 d : Int32} {T : Nat} {c a en wi la be bw bl : Nat → Int32} (hT : T ≤ 48) (V : lc_VT c a T) (no : (∀ k, k < lc_ht c T → ¬ v1 = nI k) → post (-1) (nI T, nI (lc_ht c T), nI (lc_ec c T), d, c, a, en, wi, la, be, bw, bl)) (yes : ∀ k, k < lc_ht c T → v1 = nI k → ∀ (N : Nat) (F : Nat → lc_Bx) d en wi la be bw bl, (∀ b, lc_Set c a T (lc_ht c T - 1 - k) b ↔ ∃ w, w < N ∧ F w = b) → post (nI (lc_cn (lc_BY F N) N)) (nI T, nI (lc_ht c T), nI (lc_ec c T), d, c, a, en, wi, la, be, bw, bl)) : wpY_best post (nI T, nI (lc_ht c T), nI (lc_ec c T), d, c, a, en, wi, la, be, bw, bl) v1 := by
  obtain ⟨lh, le⟩ := lc_lim V T (Nat.le_refl _)
  unfold wpY_best
  dsimp only
  refine lc_missing lh (fun z => br_f (by decide) (no z)) (fun k hk e => br_t rfl ?_)
  subst e
  refine lc_makeAll V hT hk (fun d en wi la be bw bl hM => ⟨2 ^ lc_ec c T + 1, ?_⟩)
  exact lc_ybest_l (lc_p6 le) (yes k hk rfl _ _ _ _ _ _ _ _ _ (lc_setE hM)) (2 ^ lc_ec c T) 0 (by omega)
theorem i_vc_best {k : Nat} {u : SX} {v : SY} (I : i_Rel k u v) (hk : k + 4 ≤ 2048) (v1 : Int32) : wpX_best (fun r => wpY_best (fun r' v' => r' = r ∧ i_Rel (k + 4) u v') v v1) u v1 := by
  obtain ⟨T, L, W, X, C, d, c, a, en, wi, la, be, bw, bl, hT, V, R, rfl, rfl⟩ := I
  have lh := (lc_lim V T (Nat.le_refl _)).1
  refine lc_xbest V R (fun z => lc_ybest hT V (fun _ => ⟨rfl, T, L, W, X, C, d, c, a, en, wi, la, be, bw, bl, hT, V, R, rfl, rfl⟩) (fun k hk e => absurd e (z k hk))) (fun k hk e n G hd hG => lc_ybest hT V (fun z => absurd e (z k hk)) (fun k' hk' e' N F d' en' wi' la' be' bw' bl' hF => ⟨?_, T, L, W, X, C, d', c, a, en', wi', la', be', bw', bl', hT, V, R, rfl, rfl⟩))
  obtain rfl : k = k' := (nI_eq (by omega) (by omega)).mp (e.symm.trans e')
  rw [lc_count hd (fun b => (hF b).symm.trans (hG b))]
