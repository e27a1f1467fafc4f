/-! the component's tokens -/
theorem lc_ok0 {n : Int32} {h e : Nat} (H : lc_ok 0 n h e) : (∃ m, m ≤ 40 ∧ n = nI m) ∧ h < 10 := by
  rcases H with ⟨_, h⟩ | ⟨z, _⟩ | ⟨z, _⟩ | ⟨z, _⟩ | ⟨z, _⟩
  · exact h
  all_goals exact absurd z (by decide)
theorem lc_ok3 {n : Int32} {h e : Nat} (H : lc_ok 3 n h e) : (∃ m, m ≤ 20 ∧ n = nI m) ∧ 1 ≤ h := by
  rcases H with ⟨z, _⟩ | ⟨_, h⟩ | ⟨z, _⟩ | ⟨z, _⟩ | ⟨z, _⟩
  · exact absurd z (by decide)
  · exact h
  all_goals exact absurd z (by decide)
theorem lc_ok1 {n : Int32} {h e : Nat} (H : lc_ok 1 n h e) : 2 ≤ h := by
  rcases H with ⟨z, _⟩ | ⟨z, _⟩ | ⟨_, h⟩ | ⟨z, _⟩ | ⟨z, _⟩
  · exact absurd z (by decide)
  · exact absurd z (by decide)
  · exact h
  all_goals exact absurd z (by decide)
theorem lc_ok2 {n : Int32} {h e : Nat} (H : lc_ok 2 n h e) : 2 ≤ h := by
  rcases H with ⟨z, _⟩ | ⟨z, _⟩ | ⟨z, _⟩ | ⟨_, h⟩ | ⟨z, _⟩
  · exact absurd z (by decide)
  · exact absurd z (by decide)
  · exact absurd z (by decide)
  · exact h
  · exact absurd z (by decide)
theorem lc_ok4 {n : Int32} {h e : Nat} (H : lc_ok 4 n h e) : 2 ≤ h ∧ e < 6 := by
  rcases H with ⟨z, _⟩ | ⟨z, _⟩ | ⟨z, _⟩ | ⟨z, _⟩ | ⟨_, h⟩
  · exact absurd z (by decide)
  · exact absurd z (by decide)
  · exact absurd z (by decide)
  · exact absurd z (by decide)
  · exact h
theorem lc_p6 {e : Nat} (h : e ≤ 6) : 2 ^ e ≤ 64 := Nat.pow_le_pow_right (by decide) h
def lc_R (c a : Nat → Int32) (T : Nat) (L W X C : Nat → Int32) : Prop := ∀ p, p < lc_ht c T → ∃ n, lc_PL L W X C p n (lc_Set c a T p)
theorem lc_tText {post : SX → Prop} {K E : Int32} {L W X C c a : Nat → Int32} {T : Nat} (V : lc_VT c a (T + 1)) (e : c T = 0) (R : lc_R c a T L W X C) (h : ∀ L' W' X' C', lc_R c a (T + 1) L' W' X' C' → post (nI (lc_ht c T + 1), K, E, L', W', X', C')) : wpX_putText post (nI (lc_ht c T), K, E, L, W, X, C) (a T) := by
  have Vi := V T (by omega)
  rw [e] at Vi
  obtain ⟨_, hh⟩ := lc_ok0 Vi
  have c1 : (nI (lc_ht c T)).toNatClampNeg = lc_ht c T := nI_clamp (by omega)
  unfold wpX_putText
  dsimp only
  rw [c1]
  refine ⟨vp_in_nI (by omega) (by omega), nm_e ?_⟩
  refine lc_addBox (p := lc_ht c T) (0, a T, a T) (by omega) lc_PL_0 (fun _ => by omega) (fun L' W' X' C' n' hP hF => nm_r (nI_1 _) (h L' W' X' C' (fun p hp => ?_)))
  rw [lc_hts, e, lc_hs0] at hp
  by_cases z : p = lc_ht c T
  · subst z
    exact ⟨n', lc_PL_i hP (fun b => (lc_set0_top e).trans ⟨Or.inr, fun y => y.elim False.elim id⟩)⟩
  · obtain ⟨n, hn⟩ := R p (by omega)
    exact ⟨n, lc_PL_i (lc_PL_f (lc_FR_t lc_FR_0 hF) z hn) (fun b => lc_set0_low e (by omega))⟩
theorem lc_indent_l {post : SX → Prop} {D K E m : Int32} {L W0 X0 C : Nat → Int32} {q n : Nat} (hq : q ≤ 10) (hn : n ≤ 64) (h : ∀ W' X', (∀ j, lc_bx L W' X' j = if q * 64 ≤ j ∧ j < q * 64 + n then lc_id m (lc_bx L W0 X0 j) else lc_bx L W0 X0 j) → post (D, K, E, L, W', X', C)) : ∀ d i, i + d = n → ∀ W X, (∀ j, lc_bx L W X j = if q * 64 ≤ j ∧ j < q * 64 + i then lc_id m (lc_bx L W0 X0 j) else lc_bx L W0 X0 j) → wX_indentTop_15 post m (nI (q * 64 + n)) D K E (d + 1) (nI (q * 64 + i)) L W X C := by
  intro d
  induction d with
  | zero =>
    intro i hi W X hI
    obtain rfl : i = n := by omega
    rw [wX_indentTop_15]
    exact br_t (nI_le (Nat.le_refl _) (by omega)) (h _ _ hI)
  | succ d ih =>
    intro i hi W X hI
    have c2 : (nI (q * 64 + i)).toNatClampNeg = q * 64 + i := nI_clamp (by omega)
    have v2 : vp_in (nI (q * 64 + i)) 704 := vp_in_nI (by omega) (by omega)
    rw [wX_indentTop_15]; dsimp only; rw [c2]
    refine br_f (nI_ge (by omega) (by omega)) ⟨v2, v2, nm_e ⟨v2, v2, nm_e (nm_r (nI_1 _) (ih (i + 1) (by omega) _ _ (fun j => ?_)))⟩⟩
    by_cases z : j = q * 64 + i
    · subst z
      rw [if_pos (by omega)]
      have := hI (q * 64 + i)
      rw [if_neg (by omega)] at this
      rw [← this]
      unfold lc_bx
      rw [pk_us, pk_us]
      rfl
    · have e : lc_bx L (upd W (q * 64 + i) (W (q * 64 + i) + m)) (upd X (q * 64 + i) (X (q * 64 + i) + m)) j = lc_bx L W X j := by
        unfold lc_bx; rw [pk_un z, pk_un z]
      rw [e, hI j]
      by_cases y : q * 64 ≤ j ∧ j < q * 64 + i
      · rw [if_pos y, if_pos (by omega)]
      · rw [if_neg y, if_neg (by omega)]
theorem lc_id_inj {m : Int32} {b d : lc_Bx} (h : lc_id m b = lc_id m d) : b = d := by
  obtain ⟨b1, b2, b3⟩ := b
  obtain ⟨d1, d2, d3⟩ := d
  unfold lc_id at h
  simp only [Prod.mk.injEq] at h ⊢
  exact ⟨h.1, (Int32.add_left_inj m).mp h.2.1, (Int32.add_left_inj m).mp h.2.2⟩
theorem lc_tIndent {post : SX → Prop} {K E : Int32} {L W X C c a : Nat → Int32} {T : Nat} (V : lc_VT c a (T + 1)) (e : c T = 3) (R : lc_R c a T L W X C) (h : ∀ L' W' X' C', lc_R c a (T + 1) L' W' X' C' → post (nI (lc_ht c T), K, E, L', W', X', C')) : wpX_indentTop post (nI (lc_ht c T), K, E, L, W, X, C) (a T) := by
  have Vi := V T (by omega)
  rw [e] at Vi
  obtain ⟨_, hh⟩ := lc_ok3 Vi
  have hl := (lc_lim V T (by omega)).1
  obtain ⟨k, hk⟩ : ∃ k, lc_ht c T = k + 1 := ⟨lc_ht c T - 1, by omega⟩
  obtain ⟨n, hn⟩ := R k (by omega)
  have c1 : (nI k).toNatClampNeg = k := nI_clamp (by omega)
  have e1 : nI (k + 1) - 1 - 0 = nI k := by rw [nI_pred, Int32.sub_zero]
  have e2 : nI k * 64 = nI (k * 64) := pk_mul k 64
  unfold wpX_indentTop wpX_firstCell wpX_endCell
  dsimp only
  rw [hk, e1]
  intro x2 ex2
  rw [ex2, c1, hn.2.1, e2, nI_add]
  refine ⟨vp_in_nI (by omega) (by omega), n + 1, ?_⟩
  refine lc_indent_l (q := k) (n := n) (by omega) hn.1 (fun W' X' hI => ?_) n 0 (by omega) W X (fun j => by rw [if_neg (by omega)])
  rw [← hk]
  refine h _ _ _ _ (fun p hp => ?_)
  rw [lc_hts, e, lc_hs3] at hp
  by_cases z : p = k
  · subst z
    obtain ⟨h1, h2, h3, h4⟩ := hn
    have A : ∀ i, i < n → lc_bx L W' X' (p * 64 + i) = lc_id (a T) (lc_bx L W X (p * 64 + i)) := fun i hi => by
      rw [hI, if_pos (by omega)]
    refine ⟨n, h1, h2, fun i j hi hj y => h3 i j hi hj ?_, fun b => ?_⟩
    · rw [A i hi, A j hj] at y; exact lc_id_inj y
    · rw [lc_set3_top e (by omega)]
      constructor
      · intro ⟨d, hd, y⟩
        obtain ⟨i, hi, y'⟩ := (h4 d).mp hd
        exact ⟨i, hi, by rw [A i hi, y']; exact y⟩
      · intro ⟨i, hi, y⟩
        exact ⟨_, (h4 _).mpr ⟨i, hi, rfl⟩, by rw [← A i hi]; exact y⟩
  · obtain ⟨m, hm⟩ := R p (by omega)
    exact ⟨m, lc_PL_i (lc_PL_e hm (fun i hi => by rw [hI, if_neg (by omega)]) rfl) (fun b => lc_set3_low e (by omega))⟩
theorem lc_tEither {post : SX → Prop} {K : Int32} {L W X C c a : Nat → Int32} {T : Nat} (V : lc_VT c a (T + 1)) (e : c T = 4) (R : lc_R c a T L W X C) (h : ∀ L' W' X' C', lc_R c a (T + 1) L' W' X' C' → post (nI (lc_ht c T - 1), K, nI (lc_ec c T + 1), L', W', X', C')) : wpX_joinTopTwo post (nI (lc_ht c T), K, nI (lc_ec c T), L, W, X, C) := by
  have Vi := V T (by omega)
  rw [e] at Vi
  obtain ⟨hh, he⟩ := lc_ok4 Vi
  have hl := (lc_lim V T (by omega)).1
  obtain ⟨k, hk⟩ : ∃ k, lc_ht c T = k + 2 := ⟨lc_ht c T - 2, by omega⟩
  obtain ⟨n, hn⟩ := R k (by omega)
  obtain ⟨m, hm⟩ := R (k + 1) (by omega)
  have c1 : (nI (k + 1)).toNatClampNeg = k + 1 := nI_clamp (by omega)
  have e1 : nI (k + 2) - 1 - 0 = nI (k + 1) := by rw [nI_pred, Int32.sub_zero]
  have e2 : nI (k + 1) * 64 = nI ((k + 1) * 64) := pk_mul (k + 1) 64
  have e3 : nI (k + 2) - 2 = nI k := pk_sub (a := k + 2) (b := 2) (by omega)
  have V' : lc_VT c a T := fun i hi => V i (by omega)
  have top : ∀ b, lc_Set c a (T + 1) k b ↔ lc_Set c a T k b ∨ lc_Set c a T (k + 1) b := fun b => lc_set4_top V' (Nat.le_refl _) e (by omega)
  have hN : 2 ^ lc_ec c (T + 1) ≤ 64 := lc_p6 (lc_lim V (T + 1) (Nat.le_refl _)).2
  unfold wpX_joinTopTwo wpX_firstCell wpX_endCell
  dsimp only
  rw [hk, e1, e3]
  intro x2 ex2
  rw [ex2, c1, hm.2.1, e2, nI_add]
  refine ⟨vp_in_nI (by omega) (by omega), ?_⟩
  refine lc_addCells (fun w => lc_pf c a w (T + 1) k) (p := k) (s := k + 1) (by omega) (by omega) (by omega) hm.1 hN hn (fun b hb => (top b).mpr (Or.inl hb)) (fun j hj => (top _).mpr (Or.inr ((hm.2.2.2 _).mpr ⟨j, hj, rfl⟩))) (fun L' W' X' C' n' hP hF => nm_r (nI_pred (k + 1)) (nm_r (nI_1 _) ?_))
  have := h L' W' X' C' (fun p hp => ?_)
  · rw [hk] at this; exact this
  · rw [lc_hts, e, lc_hs4] at hp
    by_cases z : p = k
    · subst z
      refine ⟨n', lc_PL_i hP (fun b => ?_)⟩
      rw [top b, hm.2.2.2 b]
    · obtain ⟨r, hr⟩ := R p (by omega)
      exact ⟨r, lc_PL_i (lc_PL_f hF z hr) (fun b => lc_set4_low V' (Nat.le_refl _) e (by omega))⟩
theorem lc_beside {post : SX → Prop} {D K E : Int32} {L W X C : Nat → Int32} {i1 i2 n : Nat} {P : lc_Bx → Prop} (h1 : i1 < 704) (h2 : i2 < 704) (hP : lc_PL L W X C 10 n P) (cap : ¬ P (lc_jn 1 false (lc_bx L W X i1) (lc_bx L W X i2)) → n < 64) (h : ∀ L' W' X' C' n', lc_PL L' W' X' C' 10 n' (fun d => P d ∨ d = lc_jn 1 false (lc_bx L W X i1) (lc_bx L W X i2)) → lc_FR 10 L W X C L' W' X' C' → post (D, K, E, L', W', X', C')) : wpX_addBeside post (D, K, E, L, W, X, C) (nI i1) (nI i2) := by
  have c1 : (nI i1).toNatClampNeg = i1 := nI_clamp (by omega)
  have c2 : (nI i2).toNatClampNeg = i2 := nI_clamp (by omega)
  have v1 : vp_in (nI i1) 704 := vp_in_nI (by omega) (by omega)
  have v2 : vp_in (nI i2) 704 := vp_in_nI (by omega) (by omega)
  have ej : lc_jn 1 false (lc_bx L W X i1) (lc_bx L W X i2) = (L i1 + L i2, (if W i1 ≤ X i1 + W i2 then X i1 + W i2 else W i1), X i1 + X i2) := if_pos rfl
  rw [ej] at cap
  simp only [ej] at h
  unfold wpX_addBeside wX_addBeside_51
  dsimp only
  rw [c1, c2]
  refine ⟨v1, v2, nm_e ⟨v1, v2, nm_e ⟨v1, br_c (fun z => ⟨v1, v2, ?_⟩) (fun z => ⟨v1, v1, v2, ?_⟩)⟩⟩⟩
  · simp only [if_pos z] at cap h
    exact lc_addBox (p := 10) (L i1 + L i2, X i1 + W i2, X i1 + X i2) (by omega) hP cap h
  · simp only [if_neg z] at cap h
    exact lc_addBox (p := 10) (L i1 + L i2, W i1, X i1 + X i2) (by omega) hP cap h
theorem lc_below {post : SX → Prop} {D K E : Int32} {L W X C : Nat → Int32} {i1 i2 n : Nat} {P : lc_Bx → Prop} (h1 : i1 < 704) (h2 : i2 < 704) (hP : lc_PL L W X C 10 n P) (cap : ¬ P (lc_jn 2 false (lc_bx L W X i1) (lc_bx L W X i2)) → n < 64) (h : ∀ L' W' X' C' n', lc_PL L' W' X' C' 10 n' (fun d => P d ∨ d = lc_jn 2 false (lc_bx L W X i1) (lc_bx L W X i2)) → lc_FR 10 L W X C L' W' X' C' → post (D, K, E, L', W', X', C')) : wpX_addBelow post (D, K, E, L, W, X, C) (nI i1) (nI i2) := by
  have c1 : (nI i1).toNatClampNeg = i1 := nI_clamp (by omega)
  have c2 : (nI i2).toNatClampNeg = i2 := nI_clamp (by omega)
  have v1 : vp_in (nI i1) 704 := vp_in_nI (by omega) (by omega)
  have v2 : vp_in (nI i2) 704 := vp_in_nI (by omega) (by omega)
  have ej : lc_jn 2 false (lc_bx L W X i1) (lc_bx L W X i2) = (L i1 + L i2 + 1, (if W i1 ≤ W i2 then W i2 else W i1), X i2) := by
    rw [lc_jn, if_neg lc_n21, if_pos rfl, Int32.add_assoc]; rfl
  rw [ej] at cap
  simp only [ej] at h
  unfold wpX_addBelow wX_addBelow_46
  dsimp only
  rw [c1, c2]
  refine ⟨v1, v2, nm_e ⟨v1, v2, br_c (fun z => ⟨v2, v2, ?_⟩) (fun z => ⟨v1, v2, ?_⟩)⟩⟩
  · simp only [if_pos z] at cap h
    exact lc_addBox (p := 10) (L i1 + L i2 + 1, W i2, X i2) (by omega) hP cap h
  · simp only [if_neg z] at cap h
    exact lc_addBox (p := 10) (L i1 + L i2 + 1, W i1, X i2) (by omega) hP cap h
theorem lc_comb {post : SX → Prop} {D K E x : Int32} {L W X C : Nat → Int32} {i1 i2 n : Nat} {P : lc_Bx → Prop} (hx : x = 1 ∨ x = 2) (h1 : i1 < 704) (h2 : i2 < 704) (hP : lc_PL L W X C 10 n P) (cap : ¬ P (lc_jn x false (lc_bx L W X i1) (lc_bx L W X i2)) → n < 64) (h : ∀ L' W' X' C' n', lc_PL L' W' X' C' 10 n' (fun d => P d ∨ d = lc_jn x false (lc_bx L W X i1) (lc_bx L W X i2)) → lc_FR 10 L W X C L' W' X' C' → post (D, K, E, L', W', X', C')) : (x = 1 → wpX_addBeside post (D, K, E, L, W, X, C) (nI i1) (nI i2)) ∧ (¬ x = 1 → wpX_addBelow post (D, K, E, L, W, X, C) (nI i1) (nI i2)) := by
  rcases hx with rfl | rfl
  · exact br_t rfl (lc_beside h1 h2 hP cap h)
  · exact br_f lc_n21 (lc_below h1 h2 hP cap h)
theorem lc_in {post : SX → Prop} {J : Int32 → Int32 → Int32 → Int32 → (Nat → Int32) → (Nat → Int32) → (Nat → Int32) → (Nat → Int32) → Prop} {D K E x x3 x4 : Int32} {L0 W0 X0 C0 : Nat → Int32} {q g m N : Nat} {P : lc_Bx → Prop} (F : Nat → lc_Bx) (hx : x = 1 ∨ x = 2) (hq : q < 640) (hg : g < 10) (hm : m ≤ 64) (hN : N ≤ 64) (hPF : ∀ b, P b → ∃ w, w < N ∧ F w = b) (hGF : ∀ j, j < m → ∃ w, w < N ∧ F w = lc_jn x false (lc_bx L0 W0 X0 q) (lc_bx L0 W0 X0 (g * 64 + j))) (h : ∀ L' W' X' C' n', lc_PL L' W' X' C' 10 n' (fun b => P b ∨ ∃ j, j < m ∧ lc_jn x false (lc_bx L0 W0 X0 q) (lc_bx L0 W0 X0 (g * 64 + j)) = b) → lc_FR 10 L0 W0 X0 C0 L' W' X' C' → J (nI (q + 1)) D K E L' W' X' C') : ∀ d i, i + d = m → ∀ L W X C n, lc_PL L W X C 10 n (fun b => P b ∨ ∃ j, j < i ∧ lc_jn x false (lc_bx L0 W0 X0 q) (lc_bx L0 W0 X0 (g * 64 + j)) = b) → lc_FR 10 L0 W0 X0 C0 L W X C → wX_combineTopTwo_47 post J x x3 x4 (nI (g * 64 + m)) (nI q) (d + 1) (nI (g * 64 + i)) D K E L W X C := by
  intro d
  induction d with
  | zero =>
    intro i hi L W X C n hP hF
    obtain rfl : i = m := by omega
    rw [wX_combineTopTwo_47]
    exact br_t (nI_le (Nat.le_refl _) (by omega)) (nm_r (nI_1 _) (h _ _ _ _ _ hP hF))
  | succ d ih =>
    intro i hi L W X C n hP hF
    have e1 : lc_bx L W X q = lc_bx L0 W0 X0 q := hF.1 _ (by omega)
    have e2 : lc_bx L W X (g * 64 + i) = lc_bx L0 W0 X0 (g * 64 + i) := hF.1 _ (by omega)
    rw [wX_combineTopTwo_47]
    refine br_f (nI_ge (by omega) (by omega)) ?_
    have key := fun (post' : SX → Prop) => lc_comb (post := post') (D := D) (K := K) (E := E) (i1 := q) (i2 := g * 64 + i) hx (by omega) (by omega) hP (fun nb => lc_cap hP F hN (by
      rintro b (z | ⟨j, hj, z⟩)
      · exact hPF b z
      · obtain ⟨w, hw, e⟩ := hGF j (by omega)
        exact ⟨w, hw, e.trans z⟩) (by rw [e1, e2]; exact hGF i (by omega)) nb)
    have go : ∀ L' W' X' C' n', lc_PL L' W' X' C' 10 n' (fun d => (P d ∨ ∃ j, j < i ∧ lc_jn x false (lc_bx L0 W0 X0 q) (lc_bx L0 W0 X0 (g * 64 + j)) = d) ∨ d = lc_jn x false (lc_bx L W X q) (lc_bx L W X (g * 64 + i))) → lc_FR 10 L W X C L' W' X' C' → ∀ y, y = nI (g * 64 + i) + 1 → wX_combineTopTwo_47 post J x x3 x4 (nI (g * 64 + m)) (nI q) (d + 1) y D K E L' W' X' C' := by
      intro L' W' X' C' n' hP' hF'
      refine nm_r (nI_1 _) (ih (i + 1) (by omega) L' W' X' C' n' (lc_PL_i hP' (fun b => ?_)) (lc_FR_t hF hF'))
      rw [e1, e2]
      constructor
      · rintro (z | ⟨j, hj, z⟩)
        · exact Or.inl (Or.inl z)
        · by_cases y : j = i
          · right; rw [← y]; exact z.symm
          · exact Or.inl (Or.inr ⟨j, by omega, z⟩)
      · rintro ((z | ⟨j, hj, z⟩) | z)
        · exact Or.inl z
        · exact Or.inr ⟨j, by omega, z⟩
        · exact Or.inr ⟨i, by omega, z.symm⟩
    exact key _ go
theorem lc_mv {post : SX → Prop} {K E : Int32} {L W X C : Nat → Int32} {f m N : Nat} {Q : lc_Bx → Prop} (F : Nat → lc_Bx) (hf : f < 10) (hN : N ≤ 64) (hP : lc_PL L W X C 10 m Q) (hQF : ∀ b, Q b → ∃ w, w < N ∧ F w = b) (h : ∀ L' W' X' C' n', lc_PL L' W' X' C' f n' Q → lc_FR f L W X C L' W' X' C' → post (nI (f + 1), K, E, L', W', X', C')) : wpX_moveSpareToTop post (nI (f + 1), K, E, L, W, X, C) := by
  have c1 : (nI f).toNatClampNeg = f := nI_clamp (by omega)
  unfold wpX_moveSpareToTop
  dsimp only
  rw [hP.2.1, nI_pred, c1]
  refine nm_r (nI_add 640 m) ⟨vp_in_nI (by omega) (by omega), nm_e ?_⟩
  refine lc_addCells F (p := f) (s := 10) (n := 0) (P := fun _ => False) (by omega) (by omega) (by omega) hP.1 hN lc_PL_0 (fun b z => z.elim) (fun j hj => hQF _ ((hP.2.2.2 _).mpr ⟨j, hj, rfl⟩)) (fun L' W' X' C' n' hP' hF' => ?_)
  refine h _ _ _ _ n' (lc_PL_i hP' (fun b => ?_)) (lc_FR_t lc_FR_0 hF')
  rw [hP.2.2.2 b]
  exact ⟨Or.inr, fun z => z.elim False.elim id⟩
theorem lc_out {post : SX → Prop} {K E x : Int32} {L0 W0 X0 C0 : Nat → Int32} {f n m N : Nat} (F : Nat → lc_Bx) (hx : x = 1 ∨ x = 2) (hf : f + 1 < 10) (hn : n ≤ 64) (hm : m ≤ 64) (hN : N ≤ 64) (hGF : ∀ i j, i < n → j < m → ∃ w, w < N ∧ F w = lc_jn x false (lc_bx L0 W0 X0 (f * 64 + i)) (lc_bx L0 W0 X0 ((f + 1) * 64 + j))) (h : ∀ L1 W1 X1 C1 L' W' X' C' n', lc_FR 10 L0 W0 X0 C0 L1 W1 X1 C1 → lc_FR f L1 W1 X1 C1 L' W' X' C' → lc_PL L' W' X' C' f n' (fun b => ∃ i j, i < n ∧ j < m ∧ lc_jn x false (lc_bx L0 W0 X0 (f * 64 + i)) (lc_bx L0 W0 X0 ((f + 1) * 64 + j)) = b) → post (nI (f + 1), K, E, L', W', X', C')) : ∀ d i, i + d = n → ∀ L W X C r, lc_PL L W X C 10 r (fun b => ∃ j1 j2, j1 < i ∧ j2 < m ∧ lc_jn x false (lc_bx L0 W0 X0 (f * 64 + j1)) (lc_bx L0 W0 X0 ((f + 1) * 64 + j2)) = b) → lc_FR 10 L0 W0 X0 C0 L W X C → wX_combineTopTwo_37 post x (nI (f * 64 + n)) (nI ((f + 1) * 64)) (nI ((f + 1) * 64 + m)) (d + 1) (nI (f * 64 + i)) (nI (f + 2)) K E L W X C := by
  intro d
  induction d with
  | zero =>
    intro i hi L W X C r hP hF
    obtain rfl : i = n := by omega
    rw [wX_combineTopTwo_37]
    refine br_t (nI_le (Nat.le_refl _) (by omega)) (nm_r (nI_pred (f + 1)) ?_)
    exact lc_mv F (by omega) hN hP (fun b ⟨j1, j2, h1, h2, z⟩ => by
      obtain ⟨w, hw, e⟩ := hGF j1 j2 h1 h2
      exact ⟨w, hw, e.trans z⟩) (fun L' W' X' C' n' hP' hF' => h _ _ _ _ _ _ _ _ n' hF hF' hP')
  | succ d ih =>
    intro i hi L W X C r hP hF
    rw [wX_combineTopTwo_37]
    refine br_f (nI_ge (by omega) (by omega)) ⟨m + 1, ?_⟩
    refine lc_in F hx (q := f * 64 + i) (g := f + 1) (L0 := L0) (W0 := W0) (X0 := X0) (C0 := C0) (P := fun b => ∃ j1 j2, j1 < i ∧ j2 < m ∧ lc_jn x false (lc_bx L0 W0 X0 (f * 64 + j1)) (lc_bx L0 W0 X0 ((f + 1) * 64 + j2)) = b) (by omega) (by omega) hm hN (fun b ⟨j1, j2, h1, h2, z⟩ => by
      obtain ⟨w, hw, e⟩ := hGF j1 j2 (by omega) h2
      exact ⟨w, hw, e.trans z⟩) (fun j hj => hGF i j (by omega) hj) (fun L' W' X' C' n' hP' hF' => ?_) m 0 (by omega) L W X C r (lc_PL_i hP (fun b => ⟨fun z => z.elim id (fun ⟨j, hj, _⟩ => absurd hj (Nat.not_lt_zero j)), Or.inl⟩)) hF
    refine ih (i + 1) (by omega) L' W' X' C' n' (lc_PL_i hP' (fun b => ?_)) hF'
    constructor
    · intro ⟨j1, j2, h1, h2, z⟩
      by_cases y : j1 = i
      · right; exact ⟨j2, h2, by rw [← y]; exact z⟩
      · left; exact ⟨j1, j2, by omega, h2, z⟩
    · rintro (⟨j1, j2, h1, h2, z⟩ | ⟨j, hj, z⟩)
      · exact ⟨j1, j2, by omega, h2, z⟩
      · exact ⟨i, j, by omega, hj, z⟩
theorem lc_tComb {post : SX → Prop} {K E x : Int32} {L W X C c a : Nat → Int32} {T : Nat} (V : lc_VT c a (T + 1)) (e : c T = x) (hx : x = 1 ∨ x = 2) (R : lc_R c a T L W X C) (h : ∀ L' W' X' C', lc_R c a (T + 1) L' W' X' C' → post (nI (lc_ht c T - 1), K, E, L', W', X', C')) : wpX_combineTopTwo post (nI (lc_ht c T), K, E, L, W, X, C) x := by
  have V' : lc_VT c a T := fun i hi => V i (by omega)
  have Vi := V T (by omega)
  rw [e] at Vi
  have hh : 2 ≤ lc_ht c T := by
    rcases hx with rfl | rfl
    · exact lc_ok1 Vi
    · exact lc_ok2 Vi
  have hl := (lc_lim V T (by omega)).1
  obtain ⟨k, hk⟩ : ∃ k, lc_ht c T = k + 2 := ⟨lc_ht c T - 2, by omega⟩
  obtain ⟨n, hn⟩ := R k (by omega)
  obtain ⟨m, hm⟩ := R (k + 1) (by omega)
  have hs : lc_hs x (lc_ht c T) = k + 1 := by
    rcases hx with rfl | rfl
    · rw [lc_hs1, hk]; rfl
    · rw [lc_hs2, hk]; rfl
  have top : ∀ b, lc_Set c a (T + 1) k b ↔ ∃ d f, lc_Set c a T k d ∧ lc_Set c a T (k + 1) f ∧ lc_jn x false d f = b := by
    intro b
    rcases hx with rfl | rfl
    · exact lc_set1_top V' (Nat.le_refl _) e (by omega)
    · exact lc_set2_top V' (Nat.le_refl _) e (by omega)
  have low : ∀ p b, p < k → (lc_Set c a (T + 1) p b ↔ lc_Set c a T p b) := by
    intro p b hp
    rcases hx with rfl | rfl
    · exact lc_set1_low e (by omega)
    · exact lc_set2_low e (by omega)
  have hN : 2 ^ lc_ec c (T + 1) ≤ 64 := lc_p6 (lc_lim V (T + 1) (Nat.le_refl _)).2
  have c1 : (nI (k + 1)).toNatClampNeg = k + 1 := nI_clamp (by omega)
  have c0 : (nI k).toNatClampNeg = k := nI_clamp (by omega)
  have e1 : nI (k + 2) - 1 - 0 = nI (k + 1) := by rw [nI_pred, Int32.sub_zero]
  have e0 : nI (k + 2) - 1 - 1 = nI k := by rw [nI_pred, nI_pred]
  have e2 : nI (k + 1) * 64 = nI ((k + 1) * 64) := pk_mul (k + 1) 64
  have e3 : nI k * 64 = nI (k * 64) := pk_mul k 64
  unfold wpX_combineTopTwo wpX_firstCell wpX_endCell
  dsimp only
  rw [hk, e1, e0]
  intro x2 ex2
  rw [ex2, c0, hn.2.1, e3, nI_add]
  refine ⟨vp_in_nI (by omega) (by omega), ?_⟩
  intro x3 ex3
  rw [ex3, c1, hm.2.1, e2, nI_add]
  refine ⟨vp_in_nI (by omega) (by omega), nm_e ⟨n + 1, ?_⟩⟩
  refine lc_out (L0 := L) (W0 := W) (X0 := X) (C0 := upd C 10 0) (f := k) (N := 2 ^ lc_ec c (T + 1)) (fun w => lc_pf c a w (T + 1) k) hx (by omega) hn.1 hm.1 hN (fun i j hi hj => (top _).mpr ⟨_, _, (hn.2.2.2 _).mpr ⟨i, hi, rfl⟩, (hm.2.2.2 _).mpr ⟨j, hj, rfl⟩, rfl⟩) (fun L1 W1 X1 C1 L' W' X' C' n' hF hF' hP => ?_) n 0 (by omega) L W X (upd C 10 0) 0 (lc_PL_i lc_PL_0 (fun b => ⟨fun ⟨j1, _, h1, _⟩ => absurd h1 (Nat.not_lt_zero j1), False.elim⟩)) lc_FR_r
  have := h L' W' X' C' (fun p hp => ?_)
  · rw [hk] at this; exact this
  · rw [lc_hts, e, hs] at hp
    by_cases z : p = k
    · subst z
      refine ⟨n', lc_PL_i hP (fun b => ?_)⟩
      rw [top b]
      constructor
      · intro ⟨d, f, hd, hf, y⟩
        obtain ⟨i, hi, y1⟩ := (hn.2.2.2 d).mp hd
        obtain ⟨j, hj, y2⟩ := (hm.2.2.2 f).mp hf
        exact ⟨i, j, hi, hj, by rw [y1, y2]; exact y⟩
      · intro ⟨i, j, hi, hj, y⟩
        exact ⟨_, _, (hn.2.2.2 _).mpr ⟨i, hi, rfl⟩, (hm.2.2.2 _).mpr ⟨j, hj, rfl⟩, y⟩
    · obtain ⟨r, hr⟩ := R p (by omega)
      exact ⟨r, lc_PL_i (lc_PL_f hF' z (lc_PL_f (lc_FR_t lc_FR_0 hF) (by omega) hr)) (fun b => low p b (by omega))⟩
