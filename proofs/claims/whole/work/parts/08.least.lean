/-! the least queries -/
theorem pk_least (P : Nat → Prop) (h : ∃ k, P k) : ∃ k, P k ∧ ∀ j, j < k → ¬ P j := by
  obtain ⟨k, hk⟩ := h
  induction k using Nat.strongRecOn with
  | ind k ih =>
    by_cases e : ∃ j, j < k ∧ P j
    · obtain ⟨j, hj, pj⟩ := e
      exact ih j hj pj
    · exact ⟨k, hk, fun j hj pj => e ⟨j, hj, pj⟩⟩
def lc_sq (G : Nat → lc_Bx) (i : Nat) : lc_Bx → Prop := fun b => ∃ j, j < i ∧ G j = b
def lc_IsM (P cond : lc_Bx → Prop) (val : lc_Bx → Int32) (r : Int32) : Prop := (r = -1 ∧ ∀ b, P b → ¬ cond b) ∨ (0 ≤ r ∧ (∃ b, P b ∧ cond b ∧ r = val b) ∧ ∀ b, P b → cond b → r ≤ val b)
theorem lc_IsM_i {P P' cond : lc_Bx → Prop} {val : lc_Bx → Int32} {r : Int32} (h : lc_IsM P cond val r) (e : ∀ b, P' b ↔ P b) : lc_IsM P' cond val r := by
  rcases h with ⟨h1, h2⟩ | ⟨h1, ⟨b, h2, h3⟩, h4⟩
  · exact Or.inl ⟨h1, fun b hb => h2 b ((e b).mp hb)⟩
  · exact Or.inr ⟨h1, ⟨b, (e b).mpr h2, h3⟩, fun b hb => h4 b ((e b).mp hb)⟩
theorem lc_IsM_u {P cond : lc_Bx → Prop} {val : lc_Bx → Int32} {r r' : Int32} (h : lc_IsM P cond val r) (h' : lc_IsM P cond val r') : r = r' := by
  rcases h with ⟨h1, h2⟩ | ⟨h1, ⟨b, h2, h3, h5⟩, h4⟩
  · rcases h' with ⟨k1, k2⟩ | ⟨k1, ⟨b, k2, k3, k5⟩, k4⟩
    · rw [h1, k1]
    · exact absurd k3 (h2 b k2)
  · rcases h' with ⟨k1, k2⟩ | ⟨k1, ⟨d, k2, k3, k5⟩, k4⟩
    · exact absurd h3 (k2 b h2)
    · have a1 := h4 d k2 k3
      have a2 := k4 b h2 h3
      rw [← k5] at a1
      rw [← h5] at a2
      exact Int32.le_antisymm a1 a2
theorem lc_IsM_0 {G : Nat → lc_Bx} {cond : lc_Bx → Prop} {val : lc_Bx → Int32} : lc_IsM (lc_sq G 0) cond val (-1) := Or.inl ⟨rfl, fun _ ⟨j, hj, _⟩ => absurd hj (Nat.not_lt_zero j)⟩
theorem lc_sq_s {G : Nat → lc_Bx} {i : Nat} {b : lc_Bx} : lc_sq G (i + 1) b ↔ lc_sq G i b ∨ G i = b := by
  constructor
  · intro ⟨j, hj, e⟩
    by_cases z : j = i
    · right; rw [← z]; exact e
    · exact Or.inl ⟨j, by omega, e⟩
  · rintro (⟨j, hj, e⟩ | e)
    · exact ⟨j, by omega, e⟩
    · exact ⟨i, by omega, e⟩
theorem lc_IsM_k {G : Nat → lc_Bx} {i : Nat} {cond : lc_Bx → Prop} {val : lc_Bx → Int32} {r : Int32} (h : lc_IsM (lc_sq G i) cond val r) (nc : ¬ cond (G i)) : lc_IsM (lc_sq G (i + 1)) cond val r := by
  rcases h with ⟨h1, h2⟩ | ⟨h1, ⟨b, h2, h3⟩, h4⟩
  · refine Or.inl ⟨h1, fun b hb => ?_⟩
    rcases lc_sq_s.mp hb with hb | rfl
    · exact h2 b hb
    · exact nc
  · refine Or.inr ⟨h1, ⟨b, lc_sq_s.mpr (Or.inl h2), h3⟩, fun b hb hc => ?_⟩
    rcases lc_sq_s.mp hb with hb | rfl
    · exact h4 b hb hc
    · exact absurd hc nc
theorem lc_neg1 : ¬ (0 : Int32) ≤ -1 := by decide
theorem lc_neg2 : (-1 : Int32) < 0 := by decide
/-- nothing found yet: the new one -/
theorem lc_IsM_n {G : Nat → lc_Bx} {i : Nat} {cond : lc_Bx → Prop} {val : lc_Bx → Int32} {r : Int32} (h : lc_IsM (lc_sq G i) cond val r) (hc : cond (G i)) (nn : 0 ≤ val (G i)) (hr : ¬ 0 ≤ r) : lc_IsM (lc_sq G (i + 1)) cond val (val (G i)) := by
  rcases h with ⟨h1, h2⟩ | ⟨h1, _⟩
  · refine Or.inr ⟨nn, ⟨_, lc_sq_s.mpr (Or.inr rfl), hc, rfl⟩, fun b hb hcb => ?_⟩
    rcases lc_sq_s.mp hb with hb | rfl
    · exact absurd hcb (h2 b hb)
    · exact Int32.le_refl _
  · exact absurd h1 hr
/-- the old one stays -/
theorem lc_IsM_o {G : Nat → lc_Bx} {i : Nat} {cond : lc_Bx → Prop} {val : lc_Bx → Int32} {r : Int32} (h : lc_IsM (lc_sq G i) cond val r) (hr : 0 ≤ r) (hle : r ≤ val (G i)) : lc_IsM (lc_sq G (i + 1)) cond val r := by
  rcases h with ⟨h1, h2⟩ | ⟨h1, ⟨b, h2, h3⟩, h4⟩
  · rw [h1] at hr; exact absurd hr lc_neg1
  · refine Or.inr ⟨h1, ⟨b, lc_sq_s.mpr (Or.inl h2), h3⟩, fun b hb hcb => ?_⟩
    rcases lc_sq_s.mp hb with hb | rfl
    · exact h4 b hb hcb
    · exact hle
/-- the new one is less -/
theorem lc_IsM_l {G : Nat → lc_Bx} {i : Nat} {cond : lc_Bx → Prop} {val : lc_Bx → Int32} {r : Int32} (h : lc_IsM (lc_sq G i) cond val r) (hc : cond (G i)) (nn : 0 ≤ val (G i)) (hr : 0 ≤ r) (hlt : ¬ r ≤ val (G i)) : lc_IsM (lc_sq G (i + 1)) cond val (val (G i)) := by
  have hl := Int32.le_of_lt (Int32.not_le.mp hlt)
  rcases h with ⟨h1, h2⟩ | ⟨h1, ⟨b, h2, h3⟩, h4⟩
  · rw [h1] at hr; exact absurd hr lc_neg1
  · refine Or.inr ⟨nn, ⟨_, lc_sq_s.mpr (Or.inr rfl), hc, rfl⟩, fun b hb hcb => ?_⟩
    rcases lc_sq_s.mp hb with hb | rfl
    · exact Int32.le_trans hl (h4 b hb hcb)
    · exact Int32.le_refl _
theorem lc_IsM_m {G : Nat → lc_Bx} {i : Nat} {cond : lc_Bx → Prop} {val : lc_Bx → Int32} {r : Int32} (h : lc_IsM (lc_sq G i) cond val r) : r = -1 ∨ 0 ≤ r := h.elim (fun z => Or.inl z.1) (fun z => Or.inr z.1)
theorem lc_lesser {post : Int32 → Prop} {G : Nat → lc_Bx} {i : Nat} {cond : lc_Bx → Prop} {val : lc_Bx → Int32} {r : Int32} (h : lc_IsM (lc_sq G i) cond val r) (hc : cond (G i)) (nn : 0 ≤ val (G i)) (k : ∀ r', lc_IsM (lc_sq G (i + 1)) cond val r' → post r') : wpX_lesser post r (val (G i)) := by
  unfold wpX_lesser
  refine br_c (fun z => k _ (lc_IsM_n h hc nn (by rw [z]; exact lc_neg1))) (fun z => ?_)
  have hr : 0 ≤ r := (lc_IsM_m h).resolve_left z
  exact br_c (fun y => k _ (lc_IsM_o h hr y)) (fun y => k _ (lc_IsM_l h hc nn hr y))
theorem lc_isDoc {post : Int32 → Prop} {v T E : Int32} {h : Nat} {L W X C : Nat → Int32} (hh : h ≤ 10) (no : (∀ k, k < h → ¬ v = nI k) → post 0) (yes : ∀ k, k < h → v = nI k → post 1) : wpX_isDocument post (nI h, T, E, L, W, X, C) v := by
  unfold wpX_isDocument
  dsimp only
  refine br_c (fun z => no (fun k hk e => ?_)) (fun z => br_c (fun y => no (fun k hk e => ?_)) (fun y => ?_))
  · rw [e] at z; exact nI_pos (by omega) z
  · rw [e] at y; exact nI_ge hk (by omega) y
  · obtain ⟨k, hk, rfl⟩ := nI_of z
    exact yes k (Nat.lt_of_not_le (fun q => y (nI_le q hk))) rfl
theorem lc_missing {post : Int32 → Prop} {v T E d : Int32} {h : Nat} {c a en wi la be bw bl : Nat → Int32} (hh : h ≤ 10) (no : (∀ k, k < h → ¬ v = nI k) → post 1) (yes : ∀ k, k < h → v = nI k → post 0) : wpY_missing post (T, nI h, E, d, c, a, en, wi, la, be, bw, bl) v := by
  unfold wpY_missing
  dsimp only
  refine br_c (fun z => no (fun k hk e => ?_)) (fun z => br_c (fun y => ?_) (fun y => no (fun k hk e => ?_)))
  · rw [e] at z; exact nI_pos (by omega) z
  · obtain ⟨k, hk, rfl⟩ := nI_of z
    exact yes k ((nI_ltI hk (by omega)).mp y) rfl
  · rw [e] at y; exact y (nI_lt hk (by omega))
theorem lc_pk {h k : Nat} (hk : k < h) : nI h - 1 - nI k = nI (h - 1 - k) := by
  obtain ⟨m, rfl⟩ : ∃ m, h = m + 1 := ⟨h - 1, by omega⟩
  rw [nI_pred, pk_sub (by omega)]; rfl
def lc_ov (x : Int32) (b : lc_Bx) : Int32 := if b.2.1 ≤ x then 0 else b.2.1 - x
def lc_co (p x : Int32) (b : lc_Bx) : Int32 := p * b.1 + lc_ov x b * lc_ov x b
theorem lc_gb1 {b : lc_Bx} (h : lc_GB b) : 0 ≤ b.1 := by
  obtain ⟨e, v, l, h1, h2, h3, rfl⟩ := h
  exact nI_pos' (by omega)
theorem lc_gb2 {b : lc_Bx} (h : lc_GB b) : 0 ≤ b.2.1 := by
  obtain ⟨e, v, l, h1, h2, h3, rfl⟩ := h
  exact nI_pos' (by omega)
theorem lc_gb3 {b : lc_Bx} (h : lc_GB b) : 0 ≤ b.2.2 := by
  obtain ⟨e, v, l, h1, h2, h3, rfl⟩ := h
  exact nI_pos' (by omega)
theorem lc_gbc {b : lc_Bx} (h : lc_GB b) {p r : Nat} (hp : p ≤ 100) (hr : r ≤ 200) : 0 ≤ lc_co (nI p) (nI r) b := by
  obtain ⟨e, v, l, h1, h2, h3, rfl⟩ := h
  have ho : ∃ o, o ≤ 1920 ∧ lc_ov (nI r) (nI e, nI v, nI l) = nI o := by
    unfold lc_ov
    by_cases z : v ≤ r
    · exact ⟨0, by omega, if_pos ((nI_leI (by omega) (by omega)).mpr z)⟩
    · exact ⟨v - r, by omega, by rw [if_neg (fun q => z ((nI_leI (by omega) (by omega)).mp q))]; exact pk_sub (by omega)⟩
  obtain ⟨o, h4, h5⟩ := ho
  unfold lc_co
  rw [h5]
  show 0 ≤ nI p * nI e + nI o * nI o
  rw [pk_mul, pk_mul, nI_add]
  have a1 : p * e ≤ 100 * 48 := Nat.mul_le_mul hp h1
  have a2 : o * o ≤ 1920 * 1920 := Nat.mul_le_mul h4 h4
  exact nI_pos' (by omega)

theorem lc_xlines_l {post : Int32 → Prop} {x2 D K E : Int32} {L W X C : Nat → Int32} {q n : Nat} (hq : q ≤ 10) (hn : n ≤ 64) (nn : ∀ i, i < n → 0 ≤ (fun b => b.1) (lc_bx L W X (q * 64 + i))) (h : ∀ r, lc_IsM (lc_sq (fun i => lc_bx L W X (q * 64 + i)) n) (fun b => ¬ x2 < b.2.1) (fun b => b.1) r → post r) : ∀ d i, i + d = n → ∀ r, lc_IsM (lc_sq (fun i => lc_bx L W X (q * 64 + i)) i) (fun b => ¬ x2 < b.2.1) (fun b => b.1) r → wX_lines_29 post x2 (nI (q * 64 + n)) D K E L W X C (d + 1) r (nI (q * 64 + i)) := by
  intro d
  induction d with
  | zero =>
    intro i hi r hI
    obtain rfl : i = n := by omega
    rw [wX_lines_29]
    exact br_t (nI_le (Nat.le_refl _) (by omega)) (h _ hI)
  | succ d ih =>
    intro i hi r hI
    have c2 : (nI (q * 64 + i)).toNatClampNeg = q * 64 + i := nI_clamp (by omega)
    have v2 : vp_in (nI (q * 64 + i)) 704 := vp_in_nI (by omega) (by omega)
    have go : ∀ r', lc_IsM (lc_sq (fun i => lc_bx L W X (q * 64 + i)) (i + 1)) (fun b => ¬ x2 < b.2.1) (fun b => b.1) r' → ∀ y, y = nI (q * 64 + i) + 1 → wX_lines_29 post x2 (nI (q * 64 + n)) D K E L W X C (d + 1) r' y := fun r' hr' => nm_r (nI_1 _) (ih (i + 1) (by omega) r' hr')
    rw [wX_lines_29]; dsimp only; rw [c2]
    exact br_f (nI_ge (by omega) (by omega)) ⟨v2, br_c (fun z => go r (lc_IsM_k hI (fun y => y z))) (fun z => ⟨v2, lc_lesser hI z (nn i (by omega)) go⟩)⟩

theorem lc_xwidth_l {post : Int32 → Prop} {x2 D K E : Int32} {L W X C : Nat → Int32} {q n : Nat} (hq : q ≤ 10) (hn : n ≤ 64) (nn : ∀ i, i < n → 0 ≤ (fun b => b.2.1) (lc_bx L W X (q * 64 + i))) (h : ∀ r, lc_IsM (lc_sq (fun i => lc_bx L W X (q * 64 + i)) n) (fun b => ¬ x2 < b.1) (fun b => b.2.1) r → post r) : ∀ d i, i + d = n → ∀ r, lc_IsM (lc_sq (fun i => lc_bx L W X (q * 64 + i)) i) (fun b => ¬ x2 < b.1) (fun b => b.2.1) r → wX_width_29 post x2 (nI (q * 64 + n)) D K E L W X C (d + 1) r (nI (q * 64 + i)) := by
  intro d
  induction d with
  | zero =>
    intro i hi r hI
    obtain rfl : i = n := by omega
    rw [wX_width_29]
    exact br_t (nI_le (Nat.le_refl _) (by omega)) (h _ hI)
  | succ d ih =>
    intro i hi r hI
    have c2 : (nI (q * 64 + i)).toNatClampNeg = q * 64 + i := nI_clamp (by omega)
    have v2 : vp_in (nI (q * 64 + i)) 704 := vp_in_nI (by omega) (by omega)
    have go : ∀ r', lc_IsM (lc_sq (fun i => lc_bx L W X (q * 64 + i)) (i + 1)) (fun b => ¬ x2 < b.1) (fun b => b.2.1) r' → ∀ y, y = nI (q * 64 + i) + 1 → wX_width_29 post x2 (nI (q * 64 + n)) D K E L W X C (d + 1) r' y := fun r' hr' => nm_r (nI_1 _) (ih (i + 1) (by omega) r' hr')
    rw [wX_width_29]; dsimp only; rw [c2]
    exact br_f (nI_ge (by omega) (by omega)) ⟨v2, br_c (fun z => go r (lc_IsM_k hI (fun y => y z))) (fun z => ⟨v2, lc_lesser hI z (nn i (by omega)) go⟩)⟩

theorem lc_xlast_l {post : Int32 → Prop} {x2 x3 D K E : Int32} {L W X C : Nat → Int32} {q n : Nat} (hq : q ≤ 10) (hn : n ≤ 64) (nn : ∀ i, i < n → 0 ≤ (fun b => b.2.2) (lc_bx L W X (q * 64 + i))) (h : ∀ r, lc_IsM (lc_sq (fun i => lc_bx L W X (q * 64 + i)) n) (fun b => ¬ x2 < b.1 ∧ ¬ x3 < b.2.1) (fun b => b.2.2) r → post r) : ∀ d i, i + d = n → ∀ r, lc_IsM (lc_sq (fun i => lc_bx L W X (q * 64 + i)) i) (fun b => ¬ x2 < b.1 ∧ ¬ x3 < b.2.1) (fun b => b.2.2) r → wX_last_31 post x2 x3 (nI (q * 64 + n)) D K E L W X C (d + 1) r (nI (q * 64 + i)) := by
  intro d
  induction d with
  | zero =>
    intro i hi r hI
    obtain rfl : i = n := by omega
    rw [wX_last_31]
    exact br_t (nI_le (Nat.le_refl _) (by omega)) (h _ hI)
  | succ d ih =>
    intro i hi r hI
    have c2 : (nI (q * 64 + i)).toNatClampNeg = q * 64 + i := nI_clamp (by omega)
    have v2 : vp_in (nI (q * 64 + i)) 704 := vp_in_nI (by omega) (by omega)
    have go : ∀ r', lc_IsM (lc_sq (fun i => lc_bx L W X (q * 64 + i)) (i + 1)) (fun b => ¬ x2 < b.1 ∧ ¬ x3 < b.2.1) (fun b => b.2.2) r' → ∀ y, y = nI (q * 64 + i) + 1 → wX_last_31 post x2 x3 (nI (q * 64 + n)) D K E L W X C (d + 1) r' y := fun r' hr' => nm_r (nI_1 _) (ih (i + 1) (by omega) r' hr')
    rw [wX_last_31]; dsimp only; rw [c2]
    exact br_f (nI_ge (by omega) (by omega)) ⟨v2, br_c (fun z => go r (lc_IsM_k hI (fun y => y.1 z))) (fun z => ⟨v2, br_c (fun z' => go r (lc_IsM_k hI (fun y => y.2 z'))) (fun z' => ⟨v2, lc_lesser hI ⟨z, z'⟩ (nn i (by omega)) go⟩)⟩)⟩

theorem lc_xcost_l {post : Int32 → Prop} {x4 x5 D K E : Int32} {L W X C : Nat → Int32} {q n : Nat} (hq : q ≤ 10) (hn : n ≤ 64) (nn : ∀ i, i < n → 0 ≤ (lc_co x4 x5) (lc_bx L W X (q * 64 + i))) (h : ∀ r, lc_IsM (lc_sq (fun i => lc_bx L W X (q * 64 + i)) n) (fun _ => True) (lc_co x4 x5) r → post r) : ∀ d i, i + d = n → ∀ r, lc_IsM (lc_sq (fun i => lc_bx L W X (q * 64 + i)) i) (fun _ => True) (lc_co x4 x5) r → wX_cost_48 post x4 x5 (nI (q * 64 + n)) D K E L W X C (d + 1) r (nI (q * 64 + i)) := by
  intro d
  induction d with
  | zero =>
    intro i hi r hI
    obtain rfl : i = n := by omega
    rw [wX_cost_48]
    exact br_t (nI_le (Nat.le_refl _) (by omega)) (h _ hI)
  | succ d ih =>
    intro i hi r hI
    have c2 : (nI (q * 64 + i)).toNatClampNeg = q * 64 + i := nI_clamp (by omega)
    have v2 : vp_in (nI (q * 64 + i)) 704 := vp_in_nI (by omega) (by omega)
    have go : ∀ r', lc_IsM (lc_sq (fun i => lc_bx L W X (q * 64 + i)) (i + 1)) (fun _ => True) (lc_co x4 x5) r' → ∀ y, y = nI (q * 64 + i) + 1 → wX_cost_48 post x4 x5 (nI (q * 64 + n)) D K E L W X C (d + 1) r' y := fun r' hr' => nm_r (nI_1 _) (ih (i + 1) (by omega) r' hr')
    rw [wX_cost_48]; dsimp only; unfold wX_cost_81; rw [c2]
    have key := lc_lesser hI trivial (nn i (by omega)) go
    refine br_f (nI_ge (by omega) (by omega)) ⟨v2, br_c (fun z => ⟨v2, ?_⟩) (fun z => ⟨v2, v2, ?_⟩)⟩
    · have e : lc_co x4 x5 (lc_bx L W X (q * 64 + i)) = x4 * L (q * 64 + i) + 0 * 0 := by
        unfold lc_co lc_ov; rw [if_pos (show (lc_bx L W X (q * 64 + i)).2.1 ≤ x5 from z)]; rfl
      rw [e] at key
      exact key
    · have e : lc_co x4 x5 (lc_bx L W X (q * 64 + i)) = x4 * L (q * 64 + i) + (W (q * 64 + i) - x5) * (W (q * 64 + i) - x5) := by
        unfold lc_co lc_ov; rw [if_neg (show ¬ (lc_bx L W X (q * 64 + i)).2.1 ≤ x5 from z)]; rfl
      rw [e] at key
      exact key

theorem lc_ylines_l {post : Int32 → SY → Prop} {x2 T H E d : Int32} {c a en wi la be bw bl : Nat → Int32} {N : Nat} (hN : N ≤ 64) (nn : ∀ i, i < N → 0 ≤ (fun b => b.1) (lc_bx be bw bl i)) (h : ∀ r, lc_IsM (lc_sq (fun i => lc_bx be bw bl i) N) (fun b => ¬ x2 < b.2.1) (fun b => b.1) r → post r (T, H, E, d, c, a, en, wi, la, be, bw, bl)) : ∀ s i, i + s = N → ∀ r, lc_IsM (lc_sq (fun i => lc_bx be bw bl i) i) (fun b => ¬ x2 < b.2.1) (fun b => b.1) r → wY_lines_22 post x2 (nI N) T H E d c a en wi la be bw bl (s + 1) r (nI i) := by
  intro s
  induction s with
  | zero =>
    intro i hi r hI
    obtain rfl : i = N := by omega
    rw [wY_lines_22]
    exact br_t (nI_le (Nat.le_refl _) (by omega)) (h _ hI)
  | succ s ih =>
    intro i hi r hI
    have c2 : (nI i).toNatClampNeg = i := nI_clamp (by omega)
    have v2 : vp_in (nI i) 64 := vp_in_nI (by omega) (by omega)
    have go : ∀ r', lc_IsM (lc_sq (fun i => lc_bx be bw bl i) (i + 1)) (fun b => ¬ x2 < b.2.1) (fun b => b.1) r' → ∀ y, y = nI i + 1 → wY_lines_22 post x2 (nI N) T H E d c a en wi la be bw bl (s + 1) r' y := fun r' hr' => nm_r (nI_1 _) (ih (i + 1) (by omega) r' hr')
    have ng : r < 0 → ¬ 0 ≤ r := fun z y => Int32.not_lt.mpr y z
    have ps : ¬ r < 0 → 0 ≤ r := fun z => Int32.not_lt.mp z
    have n1 := nn i (by omega)
    rw [wY_lines_22]; dsimp only; rw [c2]
    exact br_f (nI_ge (by omega) (by omega)) ⟨v2, br_c (fun z => go r (lc_IsM_k hI (fun y => y z))) (fun z => br_c (fun y => ⟨v2, nm_e (go _ (lc_IsM_n hI z n1 (ng y)))⟩) (fun y => ⟨v2, br_c (fun q => go _ (lc_IsM_o hI (ps y) q)) (fun q => ⟨v2, nm_e (go _ (lc_IsM_l hI z n1 (ps y) q))⟩)⟩))⟩

theorem lc_ywidth_l {post : Int32 → SY → Prop} {x2 T H E d : Int32} {c a en wi la be bw bl : Nat → Int32} {N : Nat} (hN : N ≤ 64) (nn : ∀ i, i < N → 0 ≤ (fun b => b.2.1) (lc_bx be bw bl i)) (h : ∀ r, lc_IsM (lc_sq (fun i => lc_bx be bw bl i) N) (fun b => ¬ x2 < b.1) (fun b => b.2.1) r → post r (T, H, E, d, c, a, en, wi, la, be, bw, bl)) : ∀ s i, i + s = N → ∀ r, lc_IsM (lc_sq (fun i => lc_bx be bw bl i) i) (fun b => ¬ x2 < b.1) (fun b => b.2.1) r → wY_width_22 post x2 (nI N) T H E d c a en wi la be bw bl (s + 1) r (nI i) := by
  intro s
  induction s with
  | zero =>
    intro i hi r hI
    obtain rfl : i = N := by omega
    rw [wY_width_22]
    exact br_t (nI_le (Nat.le_refl _) (by omega)) (h _ hI)
  | succ s ih =>
    intro i hi r hI
    have c2 : (nI i).toNatClampNeg = i := nI_clamp (by omega)
    have v2 : vp_in (nI i) 64 := vp_in_nI (by omega) (by omega)
    have go : ∀ r', lc_IsM (lc_sq (fun i => lc_bx be bw bl i) (i + 1)) (fun b => ¬ x2 < b.1) (fun b => b.2.1) r' → ∀ y, y = nI i + 1 → wY_width_22 post x2 (nI N) T H E d c a en wi la be bw bl (s + 1) r' y := fun r' hr' => nm_r (nI_1 _) (ih (i + 1) (by omega) r' hr')
    have ng : r < 0 → ¬ 0 ≤ r := fun z y => Int32.not_lt.mpr y z
    have ps : ¬ r < 0 → 0 ≤ r := fun z => Int32.not_lt.mp z
    have n1 := nn i (by omega)
    rw [wY_width_22]; dsimp only; rw [c2]
    exact br_f (nI_ge (by omega) (by omega)) ⟨v2, br_c (fun z => go r (lc_IsM_k hI (fun y => y z))) (fun z => br_c (fun y => ⟨v2, nm_e (go _ (lc_IsM_n hI z n1 (ng y)))⟩) (fun y => ⟨v2, br_c (fun q => go _ (lc_IsM_o hI (ps y) q)) (fun q => ⟨v2, nm_e (go _ (lc_IsM_l hI z n1 (ps y) q))⟩)⟩))⟩

theorem lc_ylast_l {post : Int32 → SY → Prop} {x2 x3 T H E d : Int32} {c a en wi la be bw bl : Nat → Int32} {N : Nat} (hN : N ≤ 64) (nn : ∀ i, i < N → 0 ≤ (fun b => b.2.2) (lc_bx be bw bl i)) (h : ∀ r, lc_IsM (lc_sq (fun i => lc_bx be bw bl i) N) (fun b => ¬ x2 < b.1 ∧ ¬ x3 < b.2.1) (fun b => b.2.2) r → post r (T, H, E, d, c, a, en, wi, la, be, bw, bl)) : ∀ s i, i + s = N → ∀ r, lc_IsM (lc_sq (fun i => lc_bx be bw bl i) i) (fun b => ¬ x2 < b.1 ∧ ¬ x3 < b.2.1) (fun b => b.2.2) r → wY_last_23 post x2 x3 (nI N) T H E d c a en wi la be bw bl (s + 1) r (nI i) := by
  intro s
  induction s with
  | zero =>
    intro i hi r hI
    obtain rfl : i = N := by omega
    rw [wY_last_23]
    exact br_t (nI_le (Nat.le_refl _) (by omega)) (h _ hI)
  | succ s ih =>
    intro i hi r hI
    have c2 : (nI i).toNatClampNeg = i := nI_clamp (by omega)
    have v2 : vp_in (nI i) 64 := vp_in_nI (by omega) (by omega)
    have go : ∀ r', lc_IsM (lc_sq (fun i => lc_bx be bw bl i) (i + 1)) (fun b => ¬ x2 < b.1 ∧ ¬ x3 < b.2.1) (fun b => b.2.2) r' → ∀ y, y = nI i + 1 → wY_last_23 post x2 x3 (nI N) T H E d c a en wi la be bw bl (s + 1) r' y := fun r' hr' => nm_r (nI_1 _) (ih (i + 1) (by omega) r' hr')
    have ng : r < 0 → ¬ 0 ≤ r := fun z y => Int32.not_lt.mpr y z
    have ps : ¬ r < 0 → 0 ≤ r := fun z => Int32.not_lt.mp z
    have n1 := nn i (by omega)
    rw [wY_last_23]; dsimp only; unfold wY_last_56 wY_last_57; rw [c2]
    exact br_f (nI_ge (by omega) (by omega)) ⟨v2, br_c (fun z => br_t rfl (go r (lc_IsM_k hI (fun y => y.1 z)))) (fun z => ⟨v2, br_c (fun z' => br_t rfl (go r (lc_IsM_k hI (fun y => y.2 z')))) (fun z' => br_f (by decide) (br_c (fun y => ⟨v2, nm_e (go _ (lc_IsM_n hI ⟨z, z'⟩ n1 (ng y)))⟩) (fun y => ⟨v2, br_c (fun q => go _ (lc_IsM_o hI (ps y) q)) (fun q => ⟨v2, nm_e (go _ (lc_IsM_l hI ⟨z, z'⟩ n1 (ps y) q))⟩)⟩)))⟩)⟩

theorem lc_ycost_l {post : Int32 → SY → Prop} {x4 x5 T H E d : Int32} {c a en wi la be bw bl : Nat → Int32} {N : Nat} (hN : N ≤ 64) (nn : ∀ i, i < N → 0 ≤ (lc_co x4 x5) (lc_bx be bw bl i)) (h : ∀ r, lc_IsM (lc_sq (fun i => lc_bx be bw bl i) N) (fun _ => True) (lc_co x4 x5) r → post r (T, H, E, d, c, a, en, wi, la, be, bw, bl)) : ∀ s i, i + s = N → ∀ r, lc_IsM (lc_sq (fun i => lc_bx be bw bl i) i) (fun _ => True) (lc_co x4 x5) r → wY_cost_40 post x4 x5 (nI N) T H E d c a en wi la be bw bl (s + 1) r (nI i) := by
  intro s
  induction s with
  | zero =>
    intro i hi r hI
    obtain rfl : i = N := by omega
    rw [wY_cost_40]
    exact br_t (nI_le (Nat.le_refl _) (by omega)) (h _ hI)
  | succ s ih =>
    intro i hi r hI
    have c2 : (nI i).toNatClampNeg = i := nI_clamp (by omega)
    have v2 : vp_in (nI i) 64 := vp_in_nI (by omega) (by omega)
    have go : ∀ r', lc_IsM (lc_sq (fun i => lc_bx be bw bl i) (i + 1)) (fun _ => True) (lc_co x4 x5) r' → ∀ y, y = nI i + 1 → wY_cost_40 post x4 x5 (nI N) T H E d c a en wi la be bw bl (s + 1) r' y := fun r' hr' => nm_r (nI_1 _) (ih (i + 1) (by omega) r' hr')
    have ng : r < 0 → ¬ 0 ≤ r := fun z y => Int32.not_lt.mpr y z
    have ps : ¬ r < 0 → 0 ≤ r := fun z => Int32.not_lt.mp z
    have n1 := nn i (by omega)
    rw [wY_cost_40]; dsimp only; unfold wY_cost_73; rw [c2]
    have k1 := fun y => go _ (lc_IsM_n hI trivial n1 (ng y))
    have k2 := fun y q => go _ (lc_IsM_o hI (ps y) q)
    have k3 := fun y q => go _ (lc_IsM_l hI trivial n1 (ps y) q)
    refine br_f (nI_ge (by omega) (by omega)) ⟨v2, br_c (fun z => ⟨v2, ?_⟩) (fun z => ⟨v2, v2, ?_⟩)⟩
    · have e : lc_co x4 x5 (lc_bx be bw bl i) = x4 * be i + 0 * 0 := by
        unfold lc_co lc_ov; rw [if_pos (show (lc_bx be bw bl i).2.1 ≤ x5 from z)]; rfl
      rw [e] at k1 k2 k3
      exact nm_e (br_c k1 (fun y => br_c (k2 y) (k3 y)))
    · have e : lc_co x4 x5 (lc_bx be bw bl i) = x4 * be i + (bw i - x5) * (bw i - x5) := by
        unfold lc_co lc_ov; rw [if_neg (show ¬ (lc_bx be bw bl i).2.1 ≤ x5 from z)]; rfl
      rw [e] at k1 k2 k3
      exact nm_e (br_c k1 (fun y => br_c (k2 y) (k3 y)))
