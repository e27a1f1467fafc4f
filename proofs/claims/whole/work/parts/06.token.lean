/-! token on both sides -/
theorem lc_arg {n : Int32} (M : Nat) (hM : M < 2 ^ 31) : (∃ m, m ≤ M ∧ n = nI m) ↔ (¬ n < 0 ∧ ¬ nI M < n) := by
  constructor
  · rintro ⟨m, hm, rfl⟩
    exact ⟨nI_pos (by omega), nI_nlt hm (by omega)⟩
  · intro ⟨h1, h2⟩
    obtain ⟨j, hj, rfl⟩ := nI_of h1
    exact ⟨j, Nat.le_of_not_lt (fun z => h2 (nI_lt z hj)), rfl⟩
theorem lc_code {x : Int32} (h0 : ¬ x < 0) (h4 : ¬ 4 < x) : x = 0 ∨ x = 1 ∨ x = 2 ∨ x = 3 ∨ x = 4 := by
  obtain ⟨m, hm, rfl⟩ := (lc_arg (n := x) 4 (by decide)).mpr ⟨h0, h4⟩
  have : m = 0 ∨ m = 1 ∨ m = 2 ∨ m = 3 ∨ m = 4 := by omega
  rcases this with rfl | rfl | rfl | rfl | rfl
  · exact Or.inl rfl
  · exact Or.inr (Or.inl rfl)
  · exact Or.inr (Or.inr (Or.inl rfl))
  · exact Or.inr (Or.inr (Or.inr (Or.inl rfl)))
  · exact Or.inr (Or.inr (Or.inr (Or.inr rfl)))
theorem lc_ok_lo {x n : Int32} {h e : Nat} (H : lc_ok x n h e) : ¬ x < 0 := by
  rcases H with ⟨rfl, _⟩ | ⟨rfl, _⟩ | ⟨rfl, _⟩ | ⟨rfl, _⟩ | ⟨rfl, _⟩ <;> decide
theorem lc_ok_hi {x n : Int32} {h e : Nat} (H : lc_ok x n h e) : ¬ 4 < x := by
  rcases H with ⟨rfl, _⟩ | ⟨rfl, _⟩ | ⟨rfl, _⟩ | ⟨rfl, _⟩ | ⟨rfl, _⟩ <;> decide
theorem lc_may {post : Int32 → Prop} {v1 v2 : Int32} {T H E : Nat} {L W X C : Nat → Int32} (hT : T ≤ 48) (hH : H ≤ 10) (hE : E ≤ 6) (no : ¬ (T < 48 ∧ lc_ok v1 v2 H E) → post 0) (yes : T < 48 ∧ lc_ok v1 v2 H E → post 1) : wpX_mayTake post (nI H, nI T, nI E, L, W, X, C) v1 v2 := by
  have i48 : nI T < (48 : Int32) ↔ T < 48 := nI_ltI (b := 48) (by omega) (by decide)
  have i10 : (10 : Int32) ≤ nI H ↔ 10 ≤ H := nI_leI (a := 10) (by decide) (by omega)
  have i2 : nI H < (2 : Int32) ↔ H < 2 := nI_ltI (b := 2) (by omega) (by decide)
  have i1 : nI H < (1 : Int32) ↔ H < 1 := nI_ltI (b := 1) (by omega) (by decide)
  have i6 : (6 : Int32) ≤ nI E ↔ 6 ≤ E := nI_leI (a := 6) (by decide) (by omega)
  unfold wpX_mayTake wX_mayTake_97
  dsimp only
  rw [i48, i10, i2, i1, i6]
  refine br_c (fun t => br_c (fun z => no (fun o => lc_ok_lo o.2 z)) (fun z0 => br_c (fun z => no (fun o => lc_ok_hi o.2 z)) (fun z4 => ?_))) (fun t => no (fun o => t o.1))
  rcases lc_code z0 z4 with rfl | rfl | rfl | rfl | rfl
  · refine br_t rfl (br_c (fun z => no (fun o => ((lc_arg 40 (by decide)).mp (lc_ok0 o.2).1).1 z)) (fun y0 => br_c (fun z => no (fun o => ((lc_arg 40 (by decide)).mp (lc_ok0 o.2).1).2 z)) (fun y4 => br_c (fun z => no (fun o => ?_)) (fun z => yes ⟨t, Or.inl ⟨rfl, (lc_arg 40 (by decide)).mpr ⟨y0, y4⟩, by omega⟩⟩))))
    have := (lc_ok0 o.2).2; omega
  · refine br_f (by decide) (br_t rfl (br_c (fun z => no (fun o => ?_)) (fun z => yes ⟨t, Or.inr (Or.inr (Or.inl ⟨rfl, by omega⟩))⟩)))
    have := lc_ok1 o.2; omega
  · refine br_f (by decide) (br_f (by decide) (br_t rfl (br_c (fun z => no (fun o => ?_)) (fun z => yes ⟨t, Or.inr (Or.inr (Or.inr (Or.inl ⟨rfl, by omega⟩)))⟩))))
    have := lc_ok2 o.2; omega
  · refine br_f (by decide) (br_f (by decide) (br_f (by decide) (br_t rfl (br_c (fun z => no (fun o => ((lc_arg 20 (by decide)).mp (lc_ok3 o.2).1).1 z)) (fun y0 => br_c (fun z => no (fun o => ((lc_arg 20 (by decide)).mp (lc_ok3 o.2).1).2 z)) (fun y4 => br_c (fun z => no (fun o => ?_)) (fun z => yes ⟨t, Or.inr (Or.inl ⟨rfl, (lc_arg 20 (by decide)).mpr ⟨y0, y4⟩, by omega⟩)⟩)))))))
    have := (lc_ok3 o.2).2; omega
  · refine br_f (by decide) (br_f (by decide) (br_f (by decide) (br_f (by decide) (br_t rfl (br_c (fun z => no (fun o => ?_)) (fun y => br_c (fun z => no (fun o => ?_)) (fun z => yes ⟨t, Or.inr (Or.inr (Or.inr (Or.inr ⟨rfl, by omega, by omega⟩)))⟩)))))))
    · have := (lc_ok4 o.2).1; omega
    · have := (lc_ok4 o.2).2; omega
theorem lc_xT {post : Int32 → SX → Prop} {v1 v2 : Int32} {T : Nat} {L W X C c a : Nat → Int32} (hT : T ≤ 48) (hH : lc_ht c T ≤ 10) (hE : lc_ec c T ≤ 6) (no : ¬ (T < 48 ∧ lc_ok v1 v2 (lc_ht c T) (lc_ec c T)) → post (-1) (nI (lc_ht c T), nI T, nI (lc_ec c T), L, W, X, C)) (yes : T < 48 ∧ lc_ok v1 v2 (lc_ht c T) (lc_ec c T) → (lc_VT c a (T + 1) ∧ c T = v1 ∧ a T = v2 ∧ lc_R c a T L W X C) ∧ ∀ L' W' X' C', lc_R c a (T + 1) L' W' X' C' → post (nI (lc_ht c (T + 1))) (nI (lc_ht c (T + 1)), nI (T + 1), nI (lc_ec c (T + 1)), L', W', X', C')) : wpX_token post (nI (lc_ht c T), nI T, nI (lc_ec c T), L, W, X, C) v1 v2 := by
  unfold wpX_token
  dsimp only
  refine lc_may hT hH hE (fun o => br_t rfl (no o)) (fun o => br_f (by decide) (br_f (lc_ok_lo o.2) (br_f (lc_ok_hi o.2) ?_)))
  obtain ⟨⟨V, e, rfl, R⟩, h⟩ := yes o
  rcases lc_code (lc_ok_lo o.2) (lc_ok_hi o.2) with rfl | rfl | rfl | rfl | rfl
  · refine br_t rfl (lc_tText V e R (fun L' W' X' C' R' => nm_r (nI_1 _) ?_))
    have := h _ _ _ _ R'
    rw [lc_hts, lc_ecs, e, lc_hs0, if_neg lc_n04] at this
    exact this
  · refine br_f (by decide) (br_t rfl (lc_tComb V e (Or.inl rfl) R (fun L' W' X' C' R' => nm_r (nI_1 _) ?_)))
    have := h _ _ _ _ R'
    rw [lc_hts, lc_ecs, e, lc_hs1, if_neg lc_n14] at this
    exact this
  · refine br_f (by decide) (br_f (by decide) (br_t rfl (lc_tComb V e (Or.inr rfl) R (fun L' W' X' C' R' => nm_r (nI_1 _) ?_))))
    have := h _ _ _ _ R'
    rw [lc_hts, lc_ecs, e, lc_hs2, if_neg lc_n24] at this
    exact this
  · refine br_f (by decide) (br_f (by decide) (br_f (by decide) (br_t rfl (lc_tIndent V e R (fun L' W' X' C' R' => nm_r (nI_1 _) ?_)))))
    have := h _ _ _ _ R'
    rw [lc_hts, lc_ecs, e, lc_hs3, if_neg lc_n34] at this
    exact this
  · refine br_f (by decide) (br_f (by decide) (br_f (by decide) (br_f (by decide) (br_t rfl (lc_tEither V e R (fun L' W' X' C' R' => nm_r (nI_1 _) ?_))))))
    have := h _ _ _ _ R'
    rw [lc_hts, lc_ecs, e, lc_hs4, if_pos rfl] at this
    exact this
def lc_tk (x : Int32) : Nat := if x = 0 then 0 else if x = 3 then 1 else 2
theorem lc_takes {post : Int32 → Prop} {x : Int32} (h : post (nI (lc_tk x))) : wpY_takes post x := by
  unfold wpY_takes
  unfold lc_tk at h
  refine br_c (fun z => ?_) (fun z => br_c (fun y => ?_) (fun y => ?_))
  · rw [if_pos z] at h; exact h
  · rw [if_neg z, if_pos y] at h; exact h
  · rw [if_neg z, if_neg y] at h; exact h
def lc_ba (x n : Int32) : Prop := (x = 0 ∧ ¬ ∃ m, m ≤ 40 ∧ n = nI m) ∨ (x = 3 ∧ ¬ ∃ m, m ≤ 20 ∧ n = nI m)
theorem lc_badArg {post : Int32 → Prop} {x n : Int32} (h1 : lc_ba x n → post 1) (h0 : ¬ lc_ba x n → post 0) : wpY_badArg post x n := by
  unfold wpY_badArg wY_badArg_14
  refine br_c (fun z => br_c (fun y => h1 (Or.inl ⟨z, fun q => ((lc_arg 40 (by decide)).mp q).1 y⟩)) (fun y => br_c (fun y' => h1 (Or.inl ⟨z, fun q => ((lc_arg 40 (by decide)).mp q).2 y'⟩)) (fun y' => br_f (by rw [z]; decide) (h0 ?_)))) (fun z => br_c (fun w => br_c (fun y => h1 (Or.inr ⟨w, fun q => ((lc_arg 20 (by decide)).mp q).1 y⟩)) (fun y => br_c (fun y' => h0 ?_) (fun y' => h1 (Or.inr ⟨w, fun q => ((lc_arg 20 (by decide)).mp q).2 (Int32.not_le.mp y')⟩)))) (fun w => h0 ?_))
  · rintro (⟨_, q⟩ | ⟨q, _⟩)
    · exact q ((lc_arg 40 (by decide)).mpr ⟨y, y'⟩)
    · rw [z] at q; exact absurd q (by decide)
  · rintro (⟨q, _⟩ | ⟨_, q⟩)
    · exact z q
    · exact q ((lc_arg 20 (by decide)).mpr ⟨y, Int32.not_lt.mpr y'⟩)
  · rintro (⟨q, _⟩ | ⟨q, _⟩)
    · exact z q
    · exact w q
theorem lc_ok_ba {x n : Int32} {h e : Nat} (H : lc_ok x n h e) : ¬ lc_ba x n := by
  rintro (⟨rfl, q⟩ | ⟨rfl, q⟩)
  · exact q (lc_ok0 H).1
  · exact q (lc_ok3 H).1
theorem lc_ok_tk {x n : Int32} {h e : Nat} (H : lc_ok x n h e) : lc_tk x ≤ h ∧ lc_hs x h = h - lc_tk x + 1 := by
  rcases H with ⟨rfl, _, _⟩ | ⟨rfl, _, h1⟩ | ⟨rfl, h2⟩ | ⟨rfl, h2⟩ | ⟨rfl, h2, _⟩
  · rw [lc_hs0]; exact ⟨Nat.zero_le _, rfl⟩
  · rw [lc_hs3, show lc_tk 3 = 1 from by decide]; omega
  · rw [lc_hs1, show lc_tk 1 = 2 from by decide]; omega
  · rw [lc_hs2, show lc_tk 2 = 2 from by decide]; omega
  · rw [lc_hs4, show lc_tk 4 = 2 from by decide]; omega
theorem lc_yT {post : Int32 → SY → Prop} {v1 v2 d : Int32} {T H E : Nat} {c a en wi la be bw bl : Nat → Int32} (hT : T ≤ 48) (hH : H ≤ 10) (hE : E ≤ 6) (no : ¬ (T < 48 ∧ lc_ok v1 v2 H E) → post (-1) (nI T, nI H, nI E, d, c, a, en, wi, la, be, bw, bl)) (yes : T < 48 ∧ lc_ok v1 v2 H E → post (nI (lc_hs v1 H)) (nI (T + 1), nI (lc_hs v1 H), nI (if v1 = 4 then E + 1 else E), d, upd c T v1, upd a T v2, en, wi, la, be, bw, bl)) : wpY_token post (nI T, nI H, nI E, d, c, a, en, wi, la, be, bw, bl) v1 v2 := by
  have c1 : (nI T).toNatClampNeg = T := nI_clamp (by omega)
  have i48 : nI T = (48 : Int32) ↔ T = 48 := nI_eq (b := 48) (by omega) (by decide)
  have i10 : nI H = (10 : Int32) ↔ H = 10 := nI_eq (b := 10) (by omega) (by decide)
  have i6 : nI E = (6 : Int32) ↔ E = 6 := nI_eq (b := 6) (by omega) (by decide)
  have tk2 : lc_tk v1 ≤ 2 := by
    unfold lc_tk
    by_cases z : v1 = 0
    · rw [if_pos z]; omega
    · rw [if_neg z]
      by_cases y : v1 = 3
      · rw [if_pos y]; omega
      · rw [if_neg y]; omega
  have itk : nI H < nI (lc_tk v1) ↔ H < lc_tk v1 := nI_ltI (by omega) (by omega)
  have fin : T < 48 ∧ lc_ok v1 v2 H E → wY_token_68 post v1 v2 (nI T) (nI H) (nI E) d c a en wi la be bw bl := by
    intro o
    have h := yes o
    obtain ⟨k1, k2⟩ := lc_ok_tk o.2
    have v : vp_in (nI T) 48 := vp_in_nI o.1 (by decide)
    have eh : nI H - nI (lc_tk v1) + 1 = nI (lc_hs v1 H) := by rw [pk_sub k1, nI_1, k2]
    unfold wY_token_68 wY_token_113
    rw [c1]
    refine ⟨v, nm_e ⟨v, nm_e (nm_r (nI_1 _) (br_c (fun z => nm_r (nI_1 _) (lc_takes (nm_r eh ?_))) (fun z => lc_takes (nm_r eh ?_))))⟩⟩
    · rw [if_pos z] at h; exact h
    · rw [if_neg z] at h; exact h
  unfold wpY_token
  dsimp only
  refine br_c (fun z => no (fun o => lc_ok_lo o.2 z)) (fun z0 => br_c (fun z => no (fun o => lc_ok_hi o.2 z)) (fun z4 => lc_badArg (fun b => br_f (by decide) (no (fun o => lc_ok_ba o.2 b))) (fun nb => br_t rfl (lc_takes (br_c (fun z => no (fun o => ?_)) (fun zt => br_c (fun z => no (fun o => ?_)) (fun z48 => br_c (fun zz => br_c (fun z => no (fun o => ?_)) (fun z10 => ?_)) (fun nz => ?_))))))))
  · rw [itk] at z
    have := (lc_ok_tk o.2).1; omega
  · rw [i48] at z; omega
  · rw [zz] at o; rw [i10] at z
    have := (lc_ok0 o.2).2; omega
  · rw [itk] at zt; rw [i48] at z48; rw [i10] at z10
    unfold wY_token_52
    refine br_f (by rw [zz]; decide) (fin ⟨by omega, Or.inl ⟨zz, ?_, by omega⟩⟩)
    exact Classical.byContradiction (fun q => nb (Or.inl ⟨zz, q⟩))
  · rw [itk] at zt; rw [i48] at z48
    unfold wY_token_52
    rcases lc_code z0 z4 with rfl | rfl | rfl | rfl | rfl
    · exact absurd rfl nz
    · exact br_f (by decide) (fin ⟨by omega, Or.inr (Or.inr (Or.inl ⟨rfl, by rw [show lc_tk 1 = 2 from by decide] at zt; omega⟩))⟩)
    · exact br_f (by decide) (fin ⟨by omega, Or.inr (Or.inr (Or.inr (Or.inl ⟨rfl, by rw [show lc_tk 2 = 2 from by decide] at zt; omega⟩)))⟩)
    · exact br_f (by decide) (fin ⟨by omega, Or.inr (Or.inl ⟨rfl, Classical.byContradiction (fun q => nb (Or.inr ⟨rfl, q⟩)), by rw [show lc_tk 3 = 1 from by decide] at zt; omega⟩)⟩)
    · rw [show lc_tk 4 = 2 from by decide] at zt
      refine br_t rfl (br_c (fun z => no (fun o => ?_)) (fun z => fin ⟨by omega, Or.inr (Or.inr (Or.inr (Or.inr ⟨rfl, by omega, ?_⟩)))⟩))
      · rw [i6] at z; have := (lc_ok4 o.2).2; omega
      · rw [i6] at z; omega
def i_Rel (_ : Nat) (u : SX) (v : SY) : Prop := ∃ (T : Nat) (L W X C : Nat → Int32) (d : Int32) (c a en wi la be bw bl : Nat → Int32), T ≤ 48 ∧ lc_VT c a T ∧ lc_R c a T L W X C ∧ u = (nI (lc_ht c T), nI T, nI (lc_ec c T), L, W, X, C) ∧ v = (nI T, nI (lc_ht c T), nI (lc_ec c T), d, c, a, en, wi, la, be, bw, bl)
theorem i_up {k : Nat} {u : SX} {v : SY} (h : i_Rel k u v) : i_Rel (k + 4) u v := h
theorem i_vc0 : wpX_init (fun u => wpY_init (fun v => i_Rel 0 u v)) :=
  ⟨0, _, _, _, _, _, _, _, _, _, _, _, _, _, Nat.zero_le _, fun i hi => absurd hi (Nat.not_lt_zero i), fun p hp => absurd hp (Nat.not_lt_zero p), rfl, rfl⟩
theorem i_vc_clear {k : Nat} {u : SX} {v : SY} (I : i_Rel k u v) (hk : k + 4 ≤ 2048) : wpX_clear (fun u' => wpY_clear (fun v' => i_Rel (k + 4) u' v') v) u := by
  obtain ⟨T, L, W, X, C, d, c, a, en, wi, la, be, bw, bl, hT, V, R, rfl, rfl⟩ := I
  exact ⟨0, _, _, _, _, _, c, a, _, _, _, _, _, _, Nat.zero_le _, fun i hi => absurd hi (Nat.not_lt_zero i), fun p hp => absurd hp (Nat.not_lt_zero p), rfl, rfl⟩
theorem i_vc_token {k : Nat} {u : SX} {v : SY} (I : i_Rel k u v) (hk : k + 4 ≤ 2048) (v1 : Int32) (v2 : Int32) : wpX_token (fun r u' => wpY_token (fun r' v' => r' = r ∧ i_Rel (k + 4) u' v') v v1 v2) u v1 v2 := by
  obtain ⟨T, L, W, X, C, d, c, a, en, wi, la, be, bw, bl, hT, V, R, rfl, rfl⟩ := I
  obtain ⟨hH, hE⟩ := lc_lim V T (Nat.le_refl _)
  have cg : ∀ i, i ≤ T → lc_ht (upd c T v1) i = lc_ht c i ∧ lc_ec (upd c T v1) i = lc_ec c i ∧ ∀ w, lc_pf (upd c T v1) (upd a T v2) w i = lc_pf c a w i := fun i hi => lc_cg i (fun j hj => ⟨pk_un (by omega), pk_un (by omega)⟩)
  obtain ⟨g1, g2, g3⟩ := cg T (Nat.le_refl _)
  have := lc_xT (post := fun r u' => wpY_token (fun r' v' => r' = r ∧ i_Rel (k + 4) u' v') (nI T, nI (lc_ht c T), nI (lc_ec c T), d, c, a, en, wi, la, be, bw, bl) v1 v2) (v1 := v1) (v2 := v2) (T := T) (L := L) (W := W) (X := X) (C := C) (c := upd c T v1) (a := upd a T v2) hT (by rw [g1]; exact hH) (by rw [g2]; exact hE) (fun no => by
    rw [g1, g2] at no
    refine lc_yT hT hH hE (fun _ => ⟨rfl, T, L, W, X, C, d, c, a, en, wi, la, be, bw, bl, hT, V, R, by rw [g1, g2], rfl⟩) (fun o => absurd o no)) (fun o => by
    rw [g1, g2] at o
    have V' : lc_VT (upd c T v1) (upd a T v2) (T + 1) := by
      intro i hi
      rw [(cg i (by omega)).1, (cg i (by omega)).2.1]
      by_cases z : i = T
      · subst z; rw [pk_us, pk_us]; exact o.2
      · rw [pk_un z, pk_un z]; exact V i (by omega)
    have R' : lc_R (upd c T v1) (upd a T v2) T L W X C := by
      intro p hp
      rw [g1] at hp
      obtain ⟨n, hn⟩ := R p hp
      refine ⟨n, lc_PL_i hn (fun b => ?_)⟩
      unfold lc_Set
      rw [g2]
      simp only [g3]
    refine ⟨⟨V', pk_us, pk_us, R'⟩, fun L' W' X' C' R2 => ?_⟩
    refine lc_yT hT hH hE (fun no => absurd o no) (fun _ => ?_)
    have e1 : lc_ht (upd c T v1) (T + 1) = lc_hs v1 (lc_ht c T) := by rw [lc_hts, pk_us, g1]
    have e2 : lc_ec (upd c T v1) (T + 1) = if v1 = 4 then lc_ec c T + 1 else lc_ec c T := by rw [lc_ecs, pk_us, g2]
    refine ⟨by rw [e1], T + 1, L', W', X', C', d, upd c T v1, upd a T v2, en, wi, la, be, bw, bl, by omega, V', R2, rfl, by rw [e1, e2]⟩)
  rw [g1, g2] at this
  exact this
