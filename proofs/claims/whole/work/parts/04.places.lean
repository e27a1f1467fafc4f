/-! the component's places: boxes in cells p * 64 .. -/
def lc_bx (L W X : Nat → Int32) (j : Nat) : lc_Bx := (L j, W j, X j)
def lc_PL (L W X C : Nat → Int32) (p n : Nat) (P : lc_Bx → Prop) : Prop :=
  n ≤ 64 ∧ C p = nI n ∧ (∀ i j, i < n → j < n → lc_bx L W X (p * 64 + i) = lc_bx L W X (p * 64 + j) → i = j) ∧ (∀ b, P b ↔ ∃ i, i < n ∧ lc_bx L W X (p * 64 + i) = b)
def lc_FR (p : Nat) (L W X C L' W' X' C' : Nat → Int32) : Prop :=
  (∀ j, (j < p * 64 ∨ p * 64 + 64 ≤ j) → lc_bx L' W' X' j = lc_bx L W X j) ∧ ∀ q, q ≠ p → C' q = C q
theorem lc_FR_r {p : Nat} {L W X C : Nat → Int32} : lc_FR p L W X C L W X C := ⟨fun _ _ => rfl, fun _ _ => rfl⟩
theorem lc_FR_t {p : Nat} {L W X C L' W' X' C' L2 W2 X2 C2 : Nat → Int32} (h : lc_FR p L W X C L' W' X' C') (h' : lc_FR p L' W' X' C' L2 W2 X2 C2) : lc_FR p L W X C L2 W2 X2 C2 :=
  ⟨fun j hj => (h'.1 j hj).trans (h.1 j hj), fun q hq => (h'.2 q hq).trans (h.2 q hq)⟩
theorem lc_PL_i {L W X C : Nat → Int32} {p n : Nat} {P P' : lc_Bx → Prop} (h : lc_PL L W X C p n P) (e : ∀ b, P' b ↔ P b) : lc_PL L W X C p n P' :=
  ⟨h.1, h.2.1, h.2.2.1, fun b => (e b).trans (h.2.2.2 b)⟩
theorem lc_PL_e {L W X C L' W' X' C' : Nat → Int32} {p n : Nat} {P : lc_Bx → Prop} (h : lc_PL L W X C p n P) (e : ∀ i, i < 64 → lc_bx L' W' X' (p * 64 + i) = lc_bx L W X (p * 64 + i)) (hC : C' p = C p) : lc_PL L' W' X' C' p n P := by
  obtain ⟨h1, h2, h3, h4⟩ := h
  refine ⟨h1, hC.trans h2, fun i j hi hj z => h3 i j hi hj ?_, fun b => ?_⟩
  · rw [e i (by omega), e j (by omega)] at z; exact z
  · rw [h4 b]
    constructor
    · intro ⟨i, hi, z⟩; exact ⟨i, hi, (e i (by omega)).trans z⟩
    · intro ⟨i, hi, z⟩; exact ⟨i, hi, (e i (by omega)).symm.trans z⟩
theorem lc_PL_f {p q n : Nat} {L W X C L' W' X' C' : Nat → Int32} {P : lc_Bx → Prop} (h : lc_FR p L W X C L' W' X' C') (hq : q ≠ p) (hP : lc_PL L W X C q n P) : lc_PL L' W' X' C' q n P :=
  lc_PL_e hP (fun i hi => h.1 _ (by omega)) (h.2 q hq)
theorem lc_PL_0 {L W X C : Nat → Int32} {p : Nat} : lc_PL L W X (upd C p 0) p 0 (fun _ => False) :=
  ⟨by omega, pk_us, fun i j hi => absurd hi (Nat.not_lt_zero i), fun b => ⟨fun z => z.elim, fun ⟨i, hi, _⟩ => absurd hi (Nat.not_lt_zero i)⟩⟩
theorem lc_FR_0 {L W X C : Nat → Int32} {p : Nat} {x : Int32} : lc_FR p L W X C L W X (upd C p x) := ⟨fun _ _ => rfl, fun _ hq => pk_un hq⟩
theorem lc_cap {L W X C : Nat → Int32} {p n N : Nat} {P : lc_Bx → Prop} (h : lc_PL L W X C p n P) (F : Nat → lc_Bx) (hN : N ≤ 64) (hP : ∀ b, P b → ∃ w, w < N ∧ F w = b) {b : lc_Bx} (hb : ∃ w, w < N ∧ F w = b) (nb : ¬ P b) : n < 64 := by
  obtain ⟨h1, h2, h3, h4⟩ := h
  have nb' : ∀ i, i < n → lc_bx L W X (p * 64 + i) ≠ b := fun i hi z => nb ((h4 b).mpr ⟨i, hi, z⟩)
  have := lc_ph (fun i w => (if i = n then b else lc_bx L W X (p * 64 + i)) = F w) (n + 1) N (fun i hi => by
    by_cases z : i = n
    · obtain ⟨w, hw, e⟩ := hb
      exact ⟨w, hw, by rw [if_pos z, e]⟩
    · obtain ⟨w, hw, e⟩ := hP _ ((h4 _).mpr ⟨i, by omega, rfl⟩)
      exact ⟨w, hw, by rw [if_neg z, e]⟩) (fun i i' w hi hi' e e' => by
    by_cases z : i = n
    · by_cases z' : i' = n
      · omega
      · rw [if_pos z] at e; rw [if_neg z'] at e'
        exact absurd (e'.trans e.symm) (nb' i' (by omega))
    · by_cases z' : i' = n
      · rw [if_neg z] at e; rw [if_pos z'] at e'
        exact absurd (e.trans e'.symm) (nb' i (by omega))
      · rw [if_neg z] at e; rw [if_neg z'] at e'
        exact h3 i i' (by omega) (by omega) (e.trans e'.symm))
  omega
theorem lc_addBox_l {post : SX → Prop} {D K E : Int32} {L W X C : Nat → Int32} {p n : Nat} {b : lc_Bx} (hp : p ≤ 10) (hn : n ≤ 64) (hC : C p = nI n) : ∀ d i, i + d = n → ((∃ j, i ≤ j ∧ j < n ∧ lc_bx L W X (p * 64 + j) = b) → post (D, K, E, L, W, X, C)) → ((∀ j, i ≤ j → j < n → lc_bx L W X (p * 64 + j) ≠ b) → n < 64 ∧ post (D, K, E, upd L (p * 64 + n) b.1, upd W (p * 64 + n) b.2.1, upd X (p * 64 + n) b.2.2, upd C p (nI (n + 1)))) → wX_addBox_21 post (nI p) b.1 b.2.1 b.2.2 (nI (p * 64 + n)) D K E L W X C (d + 1) (nI (p * 64 + i)) := by
  have c1 : (nI p).toNatClampNeg = p := nI_clamp (by omega)
  intro d
  induction d with
  | zero =>
    intro i hi _ h2
    obtain rfl : i = n := by omega
    obtain ⟨h3, h4⟩ := h2 (fun j hj hj' => by omega)
    have c2 : (nI (p * 64 + i)).toNatClampNeg = p * 64 + i := nI_clamp (by omega)
    have v1 : vp_in (nI p) 11 := vp_in_nI (by omega) (by omega)
    have v2 : vp_in (nI (p * 64 + i)) 704 := vp_in_nI (by omega) (by omega)
    simp only [wX_addBox_21, c1, c2, hC]
    exact br_t (nI_le (Nat.le_refl _) (by omega)) ⟨v1, br_f (nI_ge (b := 64) h3 (by decide)) ⟨v2, nm_e ⟨v2, nm_e ⟨v2, nm_e ⟨v1, v1, nm_r (by rw [nI_1]) h4⟩⟩⟩⟩⟩
  | succ d ih =>
    intro i hi h1 h2
    have c2 : (nI (p * 64 + i)).toNatClampNeg = p * 64 + i := nI_clamp (by omega)
    have v2 : vp_in (nI (p * 64 + i)) 704 := vp_in_nI (by omega) (by omega)
    have go : lc_bx L W X (p * 64 + i) ≠ b → ∀ y, y = nI (p * 64 + i) + 1 → wX_addBox_21 post (nI p) b.1 b.2.1 b.2.2 (nI (p * 64 + n)) D K E L W X C (d + 1) y := by
      intro z
      refine nm_r (nI_1 _) (ih (i + 1) (by omega) (fun ⟨j, h3, h4, h5⟩ => h1 ⟨j, by omega, h4, h5⟩) (fun h3 => h2 (fun j h4 h5 => ?_)))
      by_cases y : j = i
      · rw [y]; exact z
      · exact h3 j (by omega) h5
    rw [wX_addBox_21]; dsimp only; rw [c2]
    refine br_f (nI_ge (by omega) (by omega)) ⟨v2, br_c (fun z1 => ⟨v2, br_c (fun z2 => ⟨v2, br_c (fun z3 => h1 ⟨i, Nat.le_refl _, by omega, ?_⟩) (fun z3 => go (fun z => z3 ?_))⟩) (fun z2 => go (fun z => z2 ?_))⟩) (fun z1 => go (fun z => z1 ?_))⟩
    · show (L _, W _, X _) = b
      rw [z1, z2, z3]
    · rw [← z]; rfl
    · rw [← z]; rfl
    · rw [← z]; rfl
theorem lc_addBox {post : SX → Prop} {D K E : Int32} {L W X C : Nat → Int32} {p n : Nat} {P : lc_Bx → Prop} (b : lc_Bx) (hp : p ≤ 10) (hP : lc_PL L W X C p n P) (cap : ¬ P b → n < 64) (h : ∀ L' W' X' C' n', lc_PL L' W' X' C' p n' (fun d => P d ∨ d = b) → lc_FR p L W X C L' W' X' C' → post (D, K, E, L', W', X', C')) : wpX_addBox post (D, K, E, L, W, X, C) (nI p) b.1 b.2.1 b.2.2 := by
  obtain ⟨h1, h2, h3, h4⟩ := hP
  have c1 : (nI p).toNatClampNeg = p := nI_clamp (by omega)
  have M : ∀ y : Int32, y = nI p * 64 → y = nI (p * 64) := fun y hy => hy.trans (pk_mul p 64)
  unfold wpX_addBox
  dsimp only
  intro x5 e5
  rw [M x5 e5, c1, h2]
  refine ⟨vp_in_nI (by omega) (by omega), nm_r (nI_add _ _) ⟨n + 1, ?_⟩⟩
  have := lc_addBox_l (post := post) (D := D) (K := K) (E := E) (L := L) (W := W) (X := X) (C := C) (b := b) hp h1 h2 n 0 (by omega) (fun ⟨j, _, hj, e⟩ => by
    refine h _ _ _ _ n ⟨h1, h2, h3, fun d => ?_⟩ lc_FR_r
    rw [← h4 d]
    exact ⟨fun z => z.elim id (fun z => by rw [z]; exact (h4 b).mpr ⟨j, hj, e⟩), Or.inl⟩) (fun hnew => by
    have nb : ¬ P b := fun z => by
      obtain ⟨i, hi, e⟩ := (h4 b).mp z
      exact hnew i (by omega) hi e
    have hn := cap nb
    have lo : ∀ j, j ≠ p * 64 + n → lc_bx (upd L (p * 64 + n) b.1) (upd W (p * 64 + n) b.2.1) (upd X (p * 64 + n) b.2.2) j = lc_bx L W X j := fun j hj => by
      unfold lc_bx; rw [pk_un hj, pk_un hj, pk_un hj]
    have at_ : lc_bx (upd L (p * 64 + n) b.1) (upd W (p * 64 + n) b.2.1) (upd X (p * 64 + n) b.2.2) (p * 64 + n) = b := by
      unfold lc_bx; rw [pk_us, pk_us, pk_us]
    refine ⟨hn, h _ _ _ _ (n + 1) ⟨by omega, pk_us, fun i j hi hj e => ?_, fun d => ?_⟩ ⟨fun j hj => lo j (by omega), fun q hq => pk_un hq⟩⟩
    · by_cases z : i = n
      · by_cases z' : j = n
        · omega
        · rw [z, at_, lo _ (by omega)] at e
          exact absurd e.symm (hnew j (by omega) (by omega))
      · by_cases z' : j = n
        · rw [z', at_, lo _ (by omega)] at e
          exact absurd e (hnew i (by omega) (by omega))
        · rw [lo _ (by omega), lo _ (by omega)] at e
          exact h3 i j (by omega) (by omega) e
    · constructor
      · rintro (z | z)
        · obtain ⟨i, hi, e⟩ := (h4 d).mp z
          exact ⟨i, by omega, by rw [lo _ (by omega)]; exact e⟩
        · exact ⟨n, by omega, by rw [at_, z]⟩
      · intro ⟨i, hi, e⟩
        by_cases z : i = n
        · rw [z, at_] at e; exact Or.inr e.symm
        · rw [lo _ (by omega)] at e
          exact Or.inl ((h4 d).mpr ⟨i, by omega, e⟩))
  exact this
theorem lc_addCells_l {post : SX → Prop} {D K E : Int32} {L0 W0 X0 C0 : Nat → Int32} {p s m N : Nat} {P : lc_Bx → Prop} (F : Nat → lc_Bx) (hp : p ≤ 10) (hs : s ≤ 10) (hne : s ≠ p) (hm : m ≤ 64) (hN : N ≤ 64) (hPF : ∀ b, P b → ∃ w, w < N ∧ F w = b) (hGF : ∀ j, j < m → ∃ w, w < N ∧ F w = lc_bx L0 W0 X0 (s * 64 + j)) (h : ∀ L' W' X' C' n', lc_PL L' W' X' C' p n' (fun b => P b ∨ ∃ j, j < m ∧ lc_bx L0 W0 X0 (s * 64 + j) = b) → lc_FR p L0 W0 X0 C0 L' W' X' C' → post (D, K, E, L', W', X', C')) : ∀ d i, i + d = m → ∀ L W X C n, lc_PL L W X C p n (fun b => P b ∨ ∃ j, j < i ∧ lc_bx L0 W0 X0 (s * 64 + j) = b) → lc_FR p L0 W0 X0 C0 L W X C → wX_addCells_3 post (nI p) (nI (s * 64 + m)) (d + 1) (nI (s * 64 + i)) D K E L W X C := by
  intro d
  induction d with
  | zero =>
    intro i hi L W X C n hP hF
    obtain rfl : i = m := by omega
    rw [wX_addCells_3]
    exact br_t (nI_le (Nat.le_refl _) (by omega)) (h _ _ _ _ _ hP hF)
  | succ d ih =>
    intro i hi L W X C n hP hF
    have c2 : (nI (s * 64 + i)).toNatClampNeg = s * 64 + i := nI_clamp (by omega)
    have v2 : vp_in (nI (s * 64 + i)) 704 := vp_in_nI (by omega) (by omega)
    have eb : lc_bx L W X (s * 64 + i) = lc_bx L0 W0 X0 (s * 64 + i) := hF.1 _ (by omega)
    rw [wX_addCells_3]; dsimp only; rw [c2]
    refine br_f (nI_ge (by omega) (by omega)) ⟨v2, v2, v2, ?_⟩
    refine lc_addBox (lc_bx L W X (s * 64 + i)) hp hP (fun nb => lc_cap hP F hN ?_ (by rw [eb]; exact hGF i (by omega)) nb) ?_
    · rintro b (z | ⟨j, hj, z⟩)
      · exact hPF b z
      · obtain ⟨w, hw, e⟩ := hGF j (by omega)
        exact ⟨w, hw, e.trans z⟩
    · intro L' W' X' C' n' hP' hF'
      refine nm_r (nI_1 _) (ih (i + 1) (by omega) L' W' X' C' n' (lc_PL_i hP' (fun b => ?_)) (lc_FR_t hF hF'))
      constructor
      · rintro (z | ⟨j, hj, z⟩)
        · exact Or.inl (Or.inl z)
        · by_cases y : j = i
          · right; rw [eb, ← y]; exact z.symm
          · exact Or.inl (Or.inr ⟨j, by omega, z⟩)
      · rintro ((z | ⟨j, hj, z⟩) | z)
        · exact Or.inl z
        · exact Or.inr ⟨j, by omega, z⟩
        · exact Or.inr ⟨i, by omega, by rw [z, eb]⟩
theorem lc_addCells {post : SX → Prop} {D K E : Int32} {L W X C : Nat → Int32} {p s n m N : Nat} {P : lc_Bx → Prop} (F : Nat → lc_Bx) (hp : p ≤ 10) (hs : s ≤ 10) (hne : s ≠ p) (hm : m ≤ 64) (hN : N ≤ 64) (hP : lc_PL L W X C p n P) (hPF : ∀ b, P b → ∃ w, w < N ∧ F w = b) (hGF : ∀ j, j < m → ∃ w, w < N ∧ F w = lc_bx L W X (s * 64 + j)) (h : ∀ L' W' X' C' n', lc_PL L' W' X' C' p n' (fun b => P b ∨ ∃ j, j < m ∧ lc_bx L W X (s * 64 + j) = b) → lc_FR p L W X C L' W' X' C' → post (D, K, E, L', W', X', C')) : wpX_addCells post (D, K, E, L, W, X, C) (nI p) (nI (s * 64)) (nI (s * 64 + m)) :=
  ⟨m + 1, lc_addCells_l F hp hs hne hm hN hPF hGF h m 0 (by omega) L W X C n (lc_PL_i hP (fun b => ⟨fun z => z.elim id (fun ⟨j, hj, _⟩ => absurd hj (Nat.not_lt_zero j)), Or.inl⟩)) lc_FR_r⟩
