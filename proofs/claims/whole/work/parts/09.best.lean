/-! best: counts of the boxes that none beats -/
def lc_le (b d : lc_Bx) : Prop := ¬ d.1 < b.1 ∧ ¬ d.2.1 < b.2.1 ∧ ¬ d.2.2 < b.2.2
def lc_BX (G : Nat → lc_Bx) (n i : Nat) : Prop := ¬ ∃ j, j < n ∧ j ≠ i ∧ lc_le (G j) (G i)
def lc_gd (G : Nat → lc_Bx) (w v : Nat) : Prop := (G v = G w → ¬ v < w) ∧ (¬ G v = G w → ¬ lc_le (G v) (G w))
def lc_BY (G : Nat → lc_Bx) (N w : Nat) : Prop := ∀ v, v < N → lc_gd G w v
theorem lc_count {G F : Nat → lc_Bx} {n N : Nat} (hd : ∀ i j, i < n → j < n → G i = G j → i = j) (hs : ∀ b, (∃ w, w < N ∧ F w = b) ↔ ∃ i, i < n ∧ G i = b) : lc_cn (lc_BX G n) n = lc_cn (lc_BY F N) N := by
  apply Nat.le_antisymm
  · refine lc_php (fun i w => G i = F w) (lc_BX G n) N n (lc_BY F N) (fun i hi q => ?_) (fun i i' w hi hi' _ _ e e' => hd i i' hi hi' (e.trans e'.symm))
    obtain ⟨w, ⟨hw, ew⟩, hl⟩ := pk_least (fun w => w < N ∧ F w = G i) ((hs (G i)).mpr ⟨i, hi, rfl⟩)
    refine ⟨w, hw, fun v hv => ⟨fun e z => hl v z ⟨hv, e.trans ew⟩, fun e z => ?_⟩, ew.symm⟩
    obtain ⟨j, hj, ej⟩ := (hs (F v)).mp ⟨v, hv, rfl⟩
    refine q ⟨j, hj, fun y => e ?_, ?_⟩
    · rw [← ej, y, ew]
    · rw [ej, ← ew]; exact z
  · refine lc_php (fun w i => G i = F w) (lc_BY F N) n N (lc_BX G n) (fun w hw q => ?_) (fun w w' i hw hw' q q' e e' => ?_)
    · obtain ⟨i, hi, ei⟩ := (hs (F w)).mp ⟨w, hw, rfl⟩
      refine ⟨i, hi, fun ⟨j, hj, hne, hle⟩ => ?_, ei⟩
      obtain ⟨v, hv, ev⟩ := (hs (G j)).mpr ⟨j, hj, rfl⟩
      refine (q v hv).2 (fun y => hne (hd j i hj hi ?_)) ?_
      · rw [← ev, y, ei]
      · rw [ev, ← ei]; exact hle
    · have a1 := (q w' hw').1 (e'.symm.trans e)
      have a2 := (q' w hw).1 (e.symm.trans e')
      omega
theorem lc_xbeat_l {post : Int32 → Prop} {D K E : Int32} {L W X C : Nat → Int32} {q n i : Nat} (hq : q ≤ 10) (hn : n ≤ 64) (hi : i < n) (h0 : lc_BX (fun j => lc_bx L W X (q * 64 + j)) n i → post 0) (h1 : ¬ lc_BX (fun j => lc_bx L W X (q * 64 + j)) n i → post 1) : ∀ d j, j + d = n → (∀ j', j' < j → j' ≠ i → ¬ lc_le (lc_bx L W X (q * 64 + j')) (lc_bx L W X (q * 64 + i))) → wX_isBeaten_3 post (nI (q * 64 + i)) (nI (q * 64 + n)) D K E L W X C (d + 1) (nI (q * 64 + j)) := by
  have ci : (nI (q * 64 + i)).toNatClampNeg = q * 64 + i := nI_clamp (by omega)
  have vi : vp_in (nI (q * 64 + i)) 704 := vp_in_nI (by omega) (by omega)
  intro d
  induction d with
  | zero =>
    intro j hj hI
    obtain rfl : j = n := by omega
    rw [wX_isBeaten_3]
    exact br_t (nI_le (Nat.le_refl _) (by omega)) (h0 (fun ⟨j', h2, h3, h4⟩ => hI j' h2 h3 h4))
  | succ d ih =>
    intro j hj hI
    have cj : (nI (q * 64 + j)).toNatClampNeg = q * 64 + j := nI_clamp (by omega)
    have vj : vp_in (nI (q * 64 + j)) 704 := vp_in_nI (by omega) (by omega)
    have go : (j ≠ i → ¬ lc_le (lc_bx L W X (q * 64 + j)) (lc_bx L W X (q * 64 + i))) → ∀ y, y = nI (q * 64 + j) + 1 → wX_isBeaten_3 post (nI (q * 64 + i)) (nI (q * 64 + n)) D K E L W X C (d + 1) y := by
      intro hz
      refine nm_r (nI_1 _) (ih (j + 1) (by omega) (fun j' h2 => ?_))
      by_cases y : j' = j
      · rw [y]; exact hz
      · exact hI j' (by omega)
    have ie : nI (q * 64 + j) = nI (q * 64 + i) ↔ j = i := by
      rw [nI_eq (by omega) (by omega)]; omega
    rw [wX_isBeaten_3]; dsimp only; rw [ie, ci, cj]
    exact br_f (nI_ge (by omega) (by omega)) (br_c (fun z => go (fun y => absurd z y)) (fun z => ⟨vj, vi, br_c (fun y => go (fun _ l => l.1 y)) (fun y1 => ⟨vj, vi, br_c (fun y => go (fun _ l => l.2.1 y)) (fun y2 => ⟨vj, vi, br_c (fun y => go (fun _ l => l.2.2 y)) (fun y3 => h1 (fun b => b ⟨j, by omega, z, y1, y2, y3⟩))⟩)⟩)⟩))
theorem lc_xbest_l {post : Int32 → Prop} {D K E : Int32} {L W X C : Nat → Int32} {q n : Nat} (hq : q ≤ 10) (hn : n ≤ 64) (h : post (nI (lc_cn (lc_BX (fun j => lc_bx L W X (q * 64 + j)) n) n))) : ∀ d i, i + d = n → wX_best_28 post (nI (q * 64)) (nI (q * 64 + n)) D K E L W X C (d + 1) (nI (lc_cn (lc_BX (fun j => lc_bx L W X (q * 64 + j)) n) i)) (nI (q * 64 + i)) := by
  intro d
  induction d with
  | zero =>
    intro i hi
    obtain rfl : i = n := by omega
    rw [wX_best_28]
    exact br_t (nI_le (Nat.le_refl _) (by omega)) h
  | succ d ih =>
    intro i hi
    rw [wX_best_28]
    have IH := ih (i + 1) (by omega)
    refine br_f (nI_ge (by omega) (by omega)) ⟨n + 1, lc_xbeat_l (i := i) hq hn (by omega) (fun b => br_t rfl (nm_r (nI_1 _) (nm_r (nI_1 _) ?_))) (fun b => br_f (by decide) (nm_r (nI_1 _) ?_)) n 0 (by omega) (fun j' hj' => absurd hj' (Nat.not_lt_zero j'))⟩
    · rw [lc_cn_t b] at IH; exact IH
    · rw [lc_cn_f b] at IH; exact IH
theorem lc_same {post : Int32 → Prop} {T H E d : Int32} {c a en wi la be bw bl : Nat → Int32} {v w : Nat} (hv : v < 64) (hw : w < 64) (h1 : lc_bx be bw bl v = lc_bx be bw bl w → post 1) (h0 : ¬ lc_bx be bw bl v = lc_bx be bw bl w → post 0) : wpY_same post (T, H, E, d, c, a, en, wi, la, be, bw, bl) (nI v) (nI w) := by
  have cv : (nI v).toNatClampNeg = v := nI_clamp (by omega)
  have cw : (nI w).toNatClampNeg = w := nI_clamp (by omega)
  have vv : vp_in (nI v) 64 := vp_in_nI hv (by omega)
  have vw : vp_in (nI w) 64 := vp_in_nI hw (by omega)
  unfold wpY_same
  dsimp only
  rw [cv, cw]
  refine ⟨vv, vw, br_c (fun z1 => ⟨vv, vw, br_c (fun z2 => ⟨vv, vw, br_c (fun z3 => h1 ?_) (fun z3 => h0 (fun q => z3 ?_))⟩) (fun z2 => h0 (fun q => z2 ?_))⟩) (fun z1 => h0 (fun q => z1 ?_))⟩
  · unfold lc_bx; rw [z1, z2, z3]
  · exact congrArg (fun b => b.2.2) q
  · exact congrArg (fun b => b.2.1) q
  · exact congrArg (fun b => b.1) q
theorem lc_y57 {post : Int32 → Prop} {J : Int32 → Prop} {x2 z0 T H E d : Int32} {c a en wi la be bw bl : Nat → Int32} {v w : Nat} (hv : v < 64) (hw : w < 64) (hz : z0 = 0 ↔ ¬ lc_le (lc_bx be bw bl v) (lc_bx be bw bl w)) (next : lc_gd (fun j => lc_bx be bw bl j) w v → J (nI (v + 1))) (bad : ¬ lc_gd (fun j => lc_bx be bw bl j) w v → post 0) : wY_isBest_57 post J (nI w) x2 (nI v) z0 T H E d c a en wi la be bw bl := by
  have il : nI w ≤ nI v ↔ w ≤ v := nI_leI (by omega) (by omega)
  unfold wY_isBest_57
  refine lc_same hv hw (fun e => br_f (by decide) ?_) (fun e => br_t rfl ?_)
  · rw [il]
    exact br_c (fun z => nm_r (nI_1 _) (next ⟨fun _ => by omega, fun q => absurd e q⟩)) (fun z => bad (fun q => q.1 e (by omega)))
  · exact br_c (fun z => nm_r (nI_1 _) (next ⟨fun q => absurd q e, fun _ => hz.mp z⟩)) (fun z => bad (fun q => z (hz.mpr (q.2 e))))
theorem lc_yisb_l {post : Int32 → Prop} {T H E d : Int32} {c a en wi la be bw bl : Nat → Int32} {N w : Nat} (hN : N ≤ 64) (hw : w < N) (h1 : lc_BY (fun j => lc_bx be bw bl j) N w → post 1) (h0 : ¬ lc_BY (fun j => lc_bx be bw bl j) N w → post 0) : ∀ s v, v + s = N → (∀ v', v' < v → lc_gd (fun j => lc_bx be bw bl j) w v') → wY_isBest_2 post (nI w) (nI N) T H E d c a en wi la be bw bl (s + 1) (nI v) := by
  have cw : (nI w).toNatClampNeg = w := nI_clamp (by omega)
  have vw : vp_in (nI w) 64 := vp_in_nI (by omega) (by omega)
  intro s
  induction s with
  | zero =>
    intro v hv hI
    obtain rfl : v = N := by omega
    rw [wY_isBest_2]
    exact br_t (nI_le (Nat.le_refl _) (by omega)) (h1 hI)
  | succ s ih =>
    intro v hv hI
    have cv : (nI v).toNatClampNeg = v := nI_clamp (by omega)
    have vv : vp_in (nI v) 64 := vp_in_nI (by omega) (by omega)
    have key : ∀ z0 : Int32, (z0 = 0 ↔ ¬ lc_le (lc_bx be bw bl v) (lc_bx be bw bl w)) → wY_isBest_57 post (wY_isBest_2 post (nI w) (nI N) T H E d c a en wi la be bw bl (s + 1)) (nI w) (nI N) (nI v) z0 T H E d c a en wi la be bw bl := by
      intro z0 hz
      refine lc_y57 (by omega) (by omega) hz (fun g => ih (v + 1) (by omega) (fun v' h2 => ?_)) (fun g => h0 (fun q => g (q v (by omega))))
      by_cases y : v' = v
      · rw [y]; exact g
      · exact hI v' (by omega)
    have k0 := key 0
    have k1 := key 1
    rw [wY_isBest_2]; dsimp only; unfold wY_isBest_56; rw [cv, cw]
    exact br_f (nI_ge (by omega) (by omega)) ⟨vv, vw, br_c (fun y => k0 ⟨fun _ l => l.1 y, fun _ => rfl⟩) (fun y1 => ⟨vv, vw, br_c (fun y => k0 ⟨fun _ l => l.2.1 y, fun _ => rfl⟩) (fun y2 => ⟨vv, vw, br_c (fun y => k0 ⟨fun _ l => l.2.2 y, fun _ => rfl⟩) (fun y3 => k1 ⟨fun q => absurd q (by decide), fun q => absurd ⟨y1, y2, y3⟩ q⟩)⟩)⟩)⟩
theorem lc_ybest_l {post : Int32 → SY → Prop} {T H E d : Int32} {c a en wi la be bw bl : Nat → Int32} {N : Nat} (hN : N ≤ 64) (h : post (nI (lc_cn (lc_BY (fun j => lc_bx be bw bl j) N) N)) (T, H, E, d, c, a, en, wi, la, be, bw, bl)) : ∀ s i, i + s = N → wY_best_21 post (nI N) T H E d c a en wi la be bw bl (s + 1) (nI (lc_cn (lc_BY (fun j => lc_bx be bw bl j) N) i)) (nI i) := by
  intro s
  induction s with
  | zero =>
    intro i hi
    obtain rfl : i = N := by omega
    rw [wY_best_21]
    exact br_t (nI_le (Nat.le_refl _) (by omega)) h
  | succ s ih =>
    intro i hi
    rw [wY_best_21]
    have IH := ih (i + 1) (by omega)
    refine br_f (nI_ge (by omega) (by omega)) ⟨N + 1, lc_yisb_l (w := i) hN (by omega) (fun b => br_f (by decide) (nm_r (nI_1 _) (nm_r (nI_1 _) ?_))) (fun b => br_t rfl (nm_r (nI_1 _) ?_)) N 0 (by omega) (fun v' hv' => absurd hv' (Nat.not_lt_zero v'))⟩
    · rw [lc_cn_t b] at IH; exact IH
    · rw [lc_cn_f b] at IH; exact IH
