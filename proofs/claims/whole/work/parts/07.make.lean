/-! the reference makes one way, then all ways -/
theorem lc_bit : ∀ w, w < 64 → ∀ e, e < 7 → (((nI w >>> (nI e &&& 31)) &&& 1 = 1) ↔ w.testBit e = true) := by decide +kernel
theorem lc_shl : ∀ e, e < 7 → (1 : Int32) <<< (nI e &&& 31) = nI (2 ^ e) := by decide +kernel
theorem lc_join {post : SY → Prop} {T H E x z : Int32} {c a en wi la be bw bl : Nat → Int32} {k : Nat} (up : Bool) (hk : k + 1 < 11) (hx : x = 1 ∨ x = 2 ∨ x = 4) (hz : z = 0 ↔ ¬ up = true) (h : ∀ en' wi' la', lc_bx en' wi' la' k = lc_jn x up (lc_bx en wi la k) (lc_bx en wi la (k + 1)) → (∀ p, p ≠ k → lc_bx en' wi' la' p = lc_bx en wi la p) → post (T, H, E, nI (k + 1), c, a, en', wi', la', be, bw, bl)) : wpY_join post (T, H, E, nI (k + 2), c, a, en, wi, la, be, bw, bl) x z := by
  have c0 : (nI k).toNatClampNeg = k := nI_clamp (by omega)
  have c1 : (nI (k + 1)).toNatClampNeg = k + 1 := nI_clamp (by omega)
  have v0 : vp_in (nI k) 11 := vp_in_nI (by omega) (by omega)
  have v1 : vp_in (nI (k + 1)) 11 := vp_in_nI (by omega) (by omega)
  unfold wpY_join wpY_most
  dsimp only
  intro y1 ey1 y2 ey2
  have e1 : y1 = nI (k + 1) := ey1.trans (nI_pred _)
  have e2 : y2 = nI k := by rw [ey2, e1]; exact nI_pred _
  rw [e1, e2, c0, c1]
  rcases hx with rfl | rfl | rfl
  · refine br_t rfl ⟨v0, v1, v0, nm_e ⟨v0, v0, v1, br_c (fun y => ⟨v0, nm_e ⟨v0, v1, v0, nm_e ?_⟩⟩) (fun y => ⟨v0, nm_e ⟨v0, v1, v0, nm_e ?_⟩⟩)⟩⟩
    · refine h _ _ _ ?_ (fun p hp => by unfold lc_bx; rw [pk_un hp, pk_un hp, pk_un hp])
      rw [lc_jn, if_pos rfl]
      show (upd _ _ _ _, upd _ _ _ _, upd _ _ _ _) = (en k + en (k + 1), (if wi k ≤ la k + wi (k + 1) then la k + wi (k + 1) else wi k), la k + la (k + 1))
      rw [pk_us, pk_us, pk_us, if_pos y]
    · refine h _ _ _ ?_ (fun p hp => by unfold lc_bx; rw [pk_un hp, pk_un hp, pk_un hp])
      rw [lc_jn, if_pos rfl]
      show (upd _ _ _ _, upd _ _ _ _, upd _ _ _ _) = (en k + en (k + 1), (if wi k ≤ la k + wi (k + 1) then la k + wi (k + 1) else wi k), la k + la (k + 1))
      rw [pk_us, pk_us, pk_us, if_neg y]
  · refine br_f (by decide) (br_t rfl ⟨v0, v1, v0, nm_e ⟨v0, v1, br_c (fun y => ⟨v0, nm_e ⟨v1, v0, nm_e ?_⟩⟩) (fun y => ⟨v0, nm_e ⟨v1, v0, nm_e ?_⟩⟩)⟩⟩)
    · refine h _ _ _ ?_ (fun p hp => by unfold lc_bx; rw [pk_un hp, pk_un hp, pk_un hp])
      rw [lc_jn, if_neg lc_n21, if_pos rfl]
      show (upd _ _ _ _, upd _ _ _ _, upd _ _ _ _) = (en k + (en (k + 1) + 1), (if wi k ≤ wi (k + 1) then wi (k + 1) else wi k), la (k + 1))
      rw [pk_us, pk_us, pk_us, if_pos y]
    · refine h _ _ _ ?_ (fun p hp => by unfold lc_bx; rw [pk_un hp, pk_un hp, pk_un hp])
      rw [lc_jn, if_neg lc_n21, if_pos rfl]
      show (upd _ _ _ _, upd _ _ _ _, upd _ _ _ _) = (en k + (en (k + 1) + 1), (if wi k ≤ wi (k + 1) then wi (k + 1) else wi k), la (k + 1))
      rw [pk_us, pk_us, pk_us, if_neg y]
  · refine br_f (by decide) (br_f (by decide) (br_c (fun y => ?_) (fun y => ⟨v1, v0, nm_e ⟨v1, v0, nm_e ⟨v1, v0, nm_e ?_⟩⟩⟩)))
    · refine h _ _ _ ?_ (fun p hp => rfl)
      rw [lc_jn4, if_neg (hz.mp y)]
    · refine h _ _ _ ?_ (fun p hp => by unfold lc_bx; rw [pk_un hp, pk_un hp, pk_un hp])
      rw [lc_jn4, if_pos (Classical.byContradiction (fun q => y (hz.mpr q)))]
      unfold lc_bx
      rw [pk_us, pk_us, pk_us]
theorem lc_make_l {post : SY → Prop} {H E : Int32} {c a be bw bl : Nat → Int32} {T w : Nat} (V : lc_VT c a T) (hT : T ≤ 48) (hw : w < 64) (h : ∀ en wi la, (∀ p, p < lc_ht c T → lc_bx en wi la p = lc_pf c a w T p) → post (nI T, H, E, nI (lc_ht c T), c, a, en, wi, la, be, bw, bl)) : ∀ d i, i + d = T → ∀ en wi la, (∀ p, p < lc_ht c i → lc_bx en wi la p = lc_pf c a w i p) → wY_make_9 post (nI w) (d + 1) (nI (lc_ec c i)) (nI i) (nI T) H E (nI (lc_ht c i)) c a en wi la be bw bl := by
  intro d
  induction d with
  | zero =>
    intro i hi en wi la hI
    obtain rfl : i = T := by omega
    rw [wY_make_9]
    exact br_t (nI_le (Nat.le_refl _) (by omega)) (h _ _ _ hI)
  | succ d ih =>
    intro i hi en wi la hI
    have ci : (nI i).toNatClampNeg = i := nI_clamp (by omega)
    have vi : vp_in (nI i) 48 := vp_in_nI (by omega) (by omega)
    obtain ⟨lh, le⟩ := lc_lim V i (by omega)
    rw [wY_make_9]; dsimp only; rw [ci]
    refine br_f (nI_ge (by omega) (by omega)) ⟨vi, nm_e ?_⟩
    have Vi := V i (by omega)
    have IH := ih (i + 1) (by omega)
    rw [lc_hts, lc_ecs] at IH
    simp only [lc_pfs] at IH
    have jn : ∀ x, c i = x → (x = 1 ∨ x = 2 ∨ x = 4) → 2 ≤ lc_ht c i → lc_hs x (lc_ht c i) = lc_ht c i - 1 → (∀ up n f p, lc_st x n up (lc_ht c i) f p = if p + 2 = lc_ht c i then lc_jn x up (f p) (f (p + 1)) else f p) → ∀ z, (z = 0 ↔ ¬ w.testBit (lc_ec c i) = true) → wY_make_149 post (wY_make_9 post (nI w) (d + 1)) (nI w) (nI (lc_ec c i)) (nI i) x z x (nI T) H E (nI (lc_ht c i)) c a en wi la be bw bl := by
      intro x ex hx h2 hhs hst z hz
      obtain ⟨k, hk⟩ : ∃ k, lc_ht c i = k + 2 := ⟨lc_ht c i - 2, by omega⟩
      rw [ex, hhs, hk] at IH
      unfold wY_make_149
      rw [hk]
      refine lc_join (w.testBit (lc_ec c i)) (by omega) hx hz (fun en' wi' la' he hne => ?_)
      have go := IH en' wi' la' (fun p hp => by
        rw [← hk, hst]
        by_cases y : p = k
        · subst y
          rw [if_pos hk.symm, he, hI p (by omega), hI (p + 1) (by omega)]
        · rw [if_neg (by omega), hne p y, hI p (by omega)])
      refine br_c (fun y => nm_r (nI_1 _) (nm_r (nI_1 _) ?_)) (fun y => nm_r (nI_1 _) ?_)
      · rw [if_pos y] at go; exact go
      · rw [if_neg y] at go; exact go
    have jn2 : ∀ x, c i = x → ¬ x = 0 → ¬ x = 3 → (x = 1 ∨ x = 2 ∨ x = 4) → 2 ≤ lc_ht c i → lc_hs x (lc_ht c i) = lc_ht c i - 1 → (∀ up n f p, lc_st x n up (lc_ht c i) f p = if p + 2 = lc_ht c i then lc_jn x up (f p) (f (p + 1)) else f p) → (((nI w >>> (nI (lc_ec c i) &&& 31)) &&& 1 = 1 → wY_make_149 post (wY_make_9 post (nI w) (d + 1)) (nI w) (nI (lc_ec c i)) (nI i) x 1 x (nI T) H E (nI (lc_ht c i)) c a en wi la be bw bl) ∧ (¬ (nI w >>> (nI (lc_ec c i) &&& 31)) &&& 1 = 1 → wY_make_149 post (wY_make_9 post (nI w) (d + 1)) (nI w) (nI (lc_ec c i)) (nI i) x 0 x (nI T) H E (nI (lc_ht c i)) c a en wi la be bw bl)) := by
      intro x ex _ _ hx h2 hhs hst
      rw [lc_bit w hw _ (by omega)]
      exact br_c (fun y => jn x ex hx h2 hhs hst 1 ⟨fun q => absurd q (by decide), fun q => absurd y q⟩) (fun y => jn x ex hx h2 hhs hst 0 ⟨fun _ => y, fun _ => rfl⟩)
    rcases Vi with ⟨e, _, h1⟩ | ⟨e, _, h1⟩ | ⟨e, h2⟩ | ⟨e, h2⟩ | ⟨e, h2, _⟩
    · have ch : (nI (lc_ht c i)).toNatClampNeg = lc_ht c i := nI_clamp (by omega)
      have vh : vp_in (nI (lc_ht c i)) 11 := vp_in_nI (by omega) (by omega)
      rw [e, ch]
      rw [e, lc_hs0, if_neg lc_n04] at IH
      refine br_t rfl ⟨vh, nm_e ⟨vi, vh, nm_e ⟨vi, vh, nm_e (nm_r (nI_1 _) (nm_r (nI_1 _) (IH _ _ _ (fun p hp => ?_))))⟩⟩⟩
      rw [lc_st0]
      by_cases y : p = lc_ht c i
      · subst y; unfold lc_bx; rw [pk_us, pk_us, pk_us, if_pos rfl]
      · rw [if_neg y, ← hI p (by omega)]; unfold lc_bx; rw [pk_un y, pk_un y, pk_un y]
    · obtain ⟨k, hk⟩ : ∃ k, lc_ht c i = k + 1 := ⟨lc_ht c i - 1, by omega⟩
      have ch : (nI k).toNatClampNeg = k := nI_clamp (by omega)
      have vh : vp_in (nI k) 11 := vp_in_nI (by omega) (by omega)
      rw [e, lc_hs3, if_neg lc_n34, hk] at IH
      rw [e, hk, nI_pred, ch]
      refine br_f (by decide) (br_t rfl ⟨vh, vi, vh, nm_e ⟨vh, vi, vh, nm_e (nm_r (nI_1 _) (IH _ _ _ (fun p hp => ?_)))⟩⟩)
      rw [lc_st3]
      by_cases y : p = k
      · subst y; rw [if_pos rfl, ← hI p (by omega)]; unfold lc_bx; rw [pk_us, pk_us]; rfl
      · rw [if_neg (by omega), ← hI p (by omega)]; unfold lc_bx; rw [pk_un y, pk_un y]
    · rw [e]
      exact br_f (by decide) (br_f (by decide) (jn2 1 e (by decide) (by decide) (Or.inl rfl) h2 lc_hs1 (fun up n f p => (if_neg lc_n10).trans (if_neg lc_n13))))
    · rw [e]
      exact br_f (by decide) (br_f (by decide) (jn2 2 e (by decide) (by decide) (Or.inr (Or.inl rfl)) h2 lc_hs2 (fun up n f p => (if_neg lc_n20).trans (if_neg lc_n23))))
    · rw [e]
      exact br_f (by decide) (br_f (by decide) (jn2 4 e (by decide) (by decide) (Or.inr (Or.inr rfl)) h2 lc_hs4 (fun up n f p => (if_neg lc_n40).trans (if_neg lc_n43))))
theorem lc_make {post : SY → Prop} {H E d : Int32} {c a en wi la be bw bl : Nat → Int32} {T w : Nat} (V : lc_VT c a T) (hT : T ≤ 48) (hw : w < 64) (h : ∀ en wi la, (∀ p, p < lc_ht c T → lc_bx en wi la p = lc_pf c a w T p) → post (nI T, H, E, nI (lc_ht c T), c, a, en, wi, la, be, bw, bl)) : wpY_make post (nI T, H, E, d, c, a, en, wi, la, be, bw, bl) (nI w) :=
  ⟨T + 1, lc_make_l V hT hw h T 0 (by omega) en wi la (fun p hp => absurd hp (Nat.not_lt_zero p))⟩
theorem lc_makeAll_l {post : Int32 → SY → Prop} {c a : Nat → Int32} {T k N : Nat} (V : lc_VT c a T) (hT : T ≤ 48) (hk : k < lc_ht c T) (hN : N ≤ 64) (h : ∀ d en wi la be bw bl, (∀ w, w < N → lc_bx be bw bl w = lc_pf c a w T (lc_ht c T - 1 - k)) → post (nI N) (nI T, nI (lc_ht c T), nI (lc_ec c T), d, c, a, en, wi, la, be, bw, bl)) : ∀ d i, i + d = N → ∀ dd en wi la be bw bl, (∀ w, w < i → lc_bx be bw bl w = lc_pf c a w T (lc_ht c T - 1 - k)) → wY_makeAll_9 post (nI k) (nI N) (d + 1) (nI i) (nI T) (nI (lc_ht c T)) (nI (lc_ec c T)) dd c a en wi la be bw bl := by
  have lh := (lc_lim V T (Nat.le_refl _)).1
  have ek : nI (lc_ht c T) - 1 - nI k = nI (lc_ht c T - 1 - k) := by
    obtain ⟨m, hm⟩ : ∃ m, lc_ht c T = m + 1 := ⟨lc_ht c T - 1, by omega⟩
    rw [hm, nI_pred, pk_sub (by omega)]; rfl
  have ck : (nI (lc_ht c T - 1 - k)).toNatClampNeg = lc_ht c T - 1 - k := nI_clamp (by omega)
  have vk : vp_in (nI (lc_ht c T - 1 - k)) 11 := vp_in_nI (by omega) (by omega)
  intro d
  induction d with
  | zero =>
    intro i hi dd en wi la be bw bl hI
    obtain rfl : i = N := by omega
    rw [wY_makeAll_9]
    exact br_t (nI_le (Nat.le_refl _) (by omega)) (h _ _ _ _ _ _ _ hI)
  | succ d ih =>
    intro i hi dd en wi la be bw bl hI
    have ci : (nI i).toNatClampNeg = i := nI_clamp (by omega)
    have vi : vp_in (nI i) 64 := vp_in_nI (by omega) (by omega)
    rw [wY_makeAll_9]
    refine br_f (nI_ge (by omega) (by omega)) (lc_make V hT (by omega) (fun en' wi' la' hM => ?_))
    dsimp only
    rw [ek, ck, ci]
    refine ⟨vk, vi, nm_e ⟨vk, vi, nm_e ⟨vk, vi, nm_e (nm_r (nI_1 _) (ih (i + 1) (by omega) _ _ _ _ _ _ _ (fun w hw => ?_)))⟩⟩⟩
    by_cases y : w = i
    · subst y
      rw [← hM _ (by omega)]
      unfold lc_bx
      rw [pk_us, pk_us, pk_us]
    · rw [← hI w (by omega)]
      unfold lc_bx
      rw [pk_un y, pk_un y, pk_un y]
theorem lc_makeAll {post : Int32 → SY → Prop} {d : Int32} {c a en wi la be bw bl : Nat → Int32} {T k : Nat} (V : lc_VT c a T) (hT : T ≤ 48) (hk : k < lc_ht c T) (h : ∀ d en wi la be bw bl, (∀ w, w < 2 ^ lc_ec c T → lc_bx be bw bl w = lc_pf c a w T (lc_ht c T - 1 - k)) → post (nI (2 ^ lc_ec c T)) (nI T, nI (lc_ht c T), nI (lc_ec c T), d, c, a, en, wi, la, be, bw, bl)) : wpY_makeAll post (nI T, nI (lc_ht c T), nI (lc_ec c T), d, c, a, en, wi, la, be, bw, bl) (nI k) := by
  have le := (lc_lim V T (Nat.le_refl _)).2
  unfold wpY_makeAll
  dsimp only
  refine nm_r (lc_shl _ (by omega)) ⟨2 ^ lc_ec c T + 1, ?_⟩
  exact lc_makeAll_l V hT hk (lc_p6 le) h (2 ^ lc_ec c T) 0 (by omega) d en wi la be bw bl (fun w hw => absurd hw (Nat.not_lt_zero w))
