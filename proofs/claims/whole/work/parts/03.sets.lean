/-! how a token changes the sets of boxes -/
theorem lc_set_ec {c a : Nat → Int32} {i p : Nat} {b : lc_Bx} (e : ¬ c i = 4) : lc_Set c a (i + 1) p b ↔ ∃ w, w < 2 ^ lc_ec c i ∧ lc_pf c a w (i + 1) p = b := by
  unfold lc_Set
  rw [lc_ecs, if_neg e]
theorem lc_set0_top {c a : Nat → Int32} {i : Nat} (e : c i = 0) {b : lc_Bx} : lc_Set c a (i + 1) (lc_ht c i) b ↔ b = (0, a i, a i) := by
  rw [lc_set_ec (by rw [e]; exact lc_n04)]
  simp only [lc_pfs, e, lc_st0, if_pos]
  exact ⟨fun ⟨_, _, h⟩ => h.symm, fun h => ⟨0, Nat.two_pow_pos _, h.symm⟩⟩
theorem lc_set0_low {c a : Nat → Int32} {i p : Nat} (e : c i = 0) (hp : p < lc_ht c i) {b : lc_Bx} : lc_Set c a (i + 1) p b ↔ lc_Set c a i p b := by
  rw [lc_set_ec (by rw [e]; exact lc_n04)]
  simp only [lc_pfs, e, lc_st0]
  simp only [if_neg (show ¬ p = lc_ht c i from by omega)]
  exact Iff.rfl
theorem lc_set3_top {c a : Nat → Int32} {i p : Nat} (e : c i = 3) (hp : p + 1 = lc_ht c i) {b : lc_Bx} : lc_Set c a (i + 1) p b ↔ ∃ d, lc_Set c a i p d ∧ lc_id (a i) d = b := by
  rw [lc_set_ec (by rw [e]; exact lc_n34)]
  simp only [lc_pfs, e, lc_st3, hp, if_pos]
  exact ⟨fun ⟨w, hw, h⟩ => ⟨_, ⟨w, hw, rfl⟩, h⟩, fun ⟨d, ⟨w, hw, h⟩, h'⟩ => ⟨w, hw, by rw [h]; exact h'⟩⟩
theorem lc_set3_low {c a : Nat → Int32} {i p : Nat} (e : c i = 3) (hp : p + 1 < lc_ht c i) {b : lc_Bx} : lc_Set c a (i + 1) p b ↔ lc_Set c a i p b := by
  rw [lc_set_ec (by rw [e]; exact lc_n34)]
  simp only [lc_pfs, e, lc_st3]
  simp only [if_neg (show ¬ p + 1 = lc_ht c i from by omega)]
  exact Iff.rfl
theorem lc_set1_top {c a : Nat → Int32} {T i p : Nat} (V : lc_VT c a T) (hi : i ≤ T) (e : c i = 1) (hp : p + 2 = lc_ht c i) {b : lc_Bx} : lc_Set c a (i + 1) p b ↔ ∃ d f, lc_Set c a i p d ∧ lc_Set c a i (p + 1) f ∧ lc_jn 1 false d f = b := by
  rw [lc_set_ec (by rw [e]; exact lc_n14)]
  simp only [lc_pfs, e, lc_st1, hp, if_pos]
  constructor
  · intro ⟨w, hw, h⟩
    exact ⟨_, _, ⟨w, hw, rfl⟩, ⟨w, hw, rfl⟩, h⟩
  · intro ⟨d, f, hd, hf, h⟩
    obtain ⟨w, hw, e1, e2⟩ := lc_two V hi hp hd hf
    exact ⟨w, hw, by rw [e1, e2]; exact h⟩
theorem lc_set1_low {c a : Nat → Int32} {i p : Nat} (e : c i = 1) (hp : p + 2 < lc_ht c i) {b : lc_Bx} : lc_Set c a (i + 1) p b ↔ lc_Set c a i p b := by
  rw [lc_set_ec (by rw [e]; exact lc_n14)]
  simp only [lc_pfs, e, lc_st1]
  simp only [if_neg (show ¬ p + 2 = lc_ht c i from by omega)]
  exact Iff.rfl
theorem lc_set2_top {c a : Nat → Int32} {T i p : Nat} (V : lc_VT c a T) (hi : i ≤ T) (e : c i = 2) (hp : p + 2 = lc_ht c i) {b : lc_Bx} : lc_Set c a (i + 1) p b ↔ ∃ d f, lc_Set c a i p d ∧ lc_Set c a i (p + 1) f ∧ lc_jn 2 false d f = b := by
  rw [lc_set_ec (by rw [e]; exact lc_n24)]
  simp only [lc_pfs, e, lc_st2, hp, if_pos]
  constructor
  · intro ⟨w, hw, h⟩
    exact ⟨_, _, ⟨w, hw, rfl⟩, ⟨w, hw, rfl⟩, h⟩
  · intro ⟨d, f, hd, hf, h⟩
    obtain ⟨w, hw, e1, e2⟩ := lc_two V hi hp hd hf
    exact ⟨w, hw, by rw [e1, e2]; exact h⟩
theorem lc_set2_low {c a : Nat → Int32} {i p : Nat} (e : c i = 2) (hp : p + 2 < lc_ht c i) {b : lc_Bx} : lc_Set c a (i + 1) p b ↔ lc_Set c a i p b := by
  rw [lc_set_ec (by rw [e]; exact lc_n24)]
  simp only [lc_pfs, e, lc_st2]
  simp only [if_neg (show ¬ p + 2 = lc_ht c i from by omega)]
  exact Iff.rfl
theorem lc_set4 {c a : Nat → Int32} {T i : Nat} (V : lc_VT c a T) (hi : i ≤ T) (e : c i = 4) (p : Nat) {b : lc_Bx} : lc_Set c a (i + 1) p b ↔ ∃ w, w < 2 ^ lc_ec c i ∧ ∃ up : Bool, (if p + 2 = lc_ht c i then (if up = true then lc_pf c a w i (p + 1) else lc_pf c a w i p) else lc_pf c a w i p) = b := by
  unfold lc_Set
  rw [lc_ecs, e, if_pos rfl]
  simp only [lc_pfs, e, lc_st4]
  have ep : 2 ^ (lc_ec c i + 1) = 2 ^ lc_ec c i + 2 ^ lc_ec c i := by rw [Nat.pow_succ]; omega
  constructor
  · intro ⟨w, hw, h⟩
    refine ⟨w % 2 ^ lc_ec c i, Nat.mod_lt _ (Nat.two_pow_pos _), w.testBit (lc_ec c i), ?_⟩
    rw [lc_low V hi, lc_low V hi]
    exact h
  · intro ⟨w, hw, up, h⟩
    cases up with
    | false =>
      refine ⟨w, by omega, ?_⟩
      rw [Nat.testBit_lt_two_pow hw]
      exact h
    | true =>
      refine ⟨2 ^ lc_ec c i + w, by omega, ?_⟩
      rw [Nat.testBit_two_pow_add_eq, Nat.testBit_lt_two_pow hw, lc_hi V hi, lc_hi V hi]
      exact h
theorem lc_set4_top {c a : Nat → Int32} {T i p : Nat} (V : lc_VT c a T) (hi : i ≤ T) (e : c i = 4) (hp : p + 2 = lc_ht c i) {b : lc_Bx} : lc_Set c a (i + 1) p b ↔ lc_Set c a i p b ∨ lc_Set c a i (p + 1) b := by
  rw [lc_set4 V hi e p]
  simp only [hp, if_pos]
  constructor
  · intro ⟨w, hw, up, h⟩
    cases up with
    | false => exact Or.inl ⟨w, hw, h⟩
    | true => exact Or.inr ⟨w, hw, h⟩
  · rintro (⟨w, hw, h⟩ | ⟨w, hw, h⟩)
    · exact ⟨w, hw, false, h⟩
    · exact ⟨w, hw, true, h⟩
theorem lc_set4_low {c a : Nat → Int32} {T i p : Nat} (V : lc_VT c a T) (hi : i ≤ T) (e : c i = 4) (hp : p + 2 < lc_ht c i) {b : lc_Bx} : lc_Set c a (i + 1) p b ↔ lc_Set c a i p b := by
  rw [lc_set4 V hi e p]
  simp only [if_neg (show ¬ p + 2 = lc_ht c i from by omega)]
  exact ⟨fun ⟨w, hw, _, h⟩ => ⟨w, hw, h⟩, fun ⟨w, hw, h⟩ => ⟨w, hw, false, h⟩⟩
/-! bounds -/
def lc_sm (f : Nat → Nat) : Nat → Nat
  | 0 => 0
  | n + 1 => lc_sm f n + f n
theorem lc_sm_cg {f g : Nat → Nat} : ∀ n, (∀ p, p < n → f p = g p) → lc_sm f n = lc_sm g n := by
  intro n
  induction n with
  | zero => intro _; rfl
  | succ n ih => intro h; show lc_sm f n + f n = lc_sm g n + g n; rw [ih (fun p hp => h p (by omega)), h n (by omega)]
theorem lc_sm_le {f : Nat → Nat} : ∀ n p, p < n → f p ≤ lc_sm f n := by
  intro n
  induction n with
  | zero => intro p hp; omega
  | succ n ih =>
    intro p hp
    show f p ≤ lc_sm f n + f n
    by_cases z : p = n
    · rw [z]; omega
    · have := ih p (by omega); omega
def lc_un (f : Nat → Nat) (k x : Nat) : Nat → Nat := fun j => if j = k then x else f j
theorem lc_un_s {f : Nat → Nat} {k x : Nat} : lc_un f k x k = x := if_pos rfl
theorem lc_un_n {f : Nat → Nat} {k x j : Nat} (h : j ≠ k) : lc_un f k x j = f j := if_neg h
theorem lc_sm_un {f : Nat → Nat} {k x : Nat} : lc_sm (lc_un f k x) (k + 1) = lc_sm f k + x := by
  show lc_sm (lc_un f k x) k + lc_un f k x k = _
  rw [lc_un_s, lc_sm_cg (g := f) k (fun p hp => lc_un_n (by omega))]
theorem lc_sm_2 {f : Nat → Nat} {k : Nat} : lc_sm f (k + 2) = lc_sm f k + f k + f (k + 1) := rfl
theorem lc_sm_1 {f : Nat → Nat} {k : Nat} : lc_sm f (k + 1) = lc_sm f k + f k := rfl
theorem lc_mx {a b : Nat} (ha : a < 2 ^ 31) (hb : b < 2 ^ 31) : (if nI a ≤ nI b then nI b else nI a) = nI (if a ≤ b then b else a) := by
  by_cases z : a ≤ b
  · rw [if_pos z, if_pos ((nI_leI ha hb).mpr z)]
  · rw [if_neg z, if_neg (fun y => z ((nI_leI ha hb).mp y))]
/-- one stack within its bounds -/
def lc_BD (f : Nat → lc_Bx) (h i : Nat) : Prop := ∃ e v l : Nat → Nat, (∀ p, p < h → f p = (nI (e p), nI (v p), nI (l p)) ∧ l p ≤ v p) ∧ lc_sm e h ≤ i ∧ lc_sm v h ≤ 40 * i
theorem lc_bd {c a : Nat → Int32} {T w : Nat} (V : lc_VT c a T) (hT : T ≤ 48) : ∀ i, i ≤ T → lc_BD (lc_pf c a w i) (lc_ht c i) i := by
  intro i
  induction i with
  | zero => intro _; exact ⟨fun _ => 0, fun _ => 0, fun _ => 0, fun p hp => absurd hp (Nat.not_lt_zero p), Nat.le_refl _, Nat.zero_le _⟩
  | succ i ih =>
    intro hi
    obtain ⟨e, v, l, hb, he, hv⟩ := ih (by omega)
    show lc_BD (lc_st (c i) (a i) (w.testBit (lc_ec c i)) (lc_ht c i) (lc_pf c a w i)) (lc_hs (c i) (lc_ht c i)) (i + 1)
    have Vi := V i (by omega)
    generalize lc_ht c i = h at hb he hv Vi ⊢
    generalize lc_pf c a w i = f at hb ⊢
    generalize w.testBit (lc_ec c i) = up
    rcases Vi with ⟨ex, ⟨m, hm, en⟩, _⟩ | ⟨ex, ⟨m, hm, en⟩, h1⟩ | ⟨ex, h2⟩ | ⟨ex, h2⟩ | ⟨ex, h2, _⟩
    · rw [ex, en, lc_hs0]
      refine ⟨lc_un e h 0, lc_un v h m, lc_un l h m, fun p hp => ?_, ?_, ?_⟩
      · rw [lc_st0]
        by_cases z : p = h
        · subst z
          rw [if_pos rfl, lc_un_s, lc_un_s, lc_un_s]; exact ⟨rfl, Nat.le_refl _⟩
        · rw [if_neg z, lc_un_n z, lc_un_n z, lc_un_n z]; exact hb p (by omega)
      · rw [lc_sm_un]; omega
      · rw [lc_sm_un]; omega
    · obtain ⟨k, rfl⟩ : ∃ k, h = k + 1 := ⟨h - 1, by omega⟩
      rw [ex, en, lc_hs3]
      rw [lc_sm_1] at he hv
      refine ⟨e, lc_un v k (v k + m), lc_un l k (l k + m), fun p hp => ?_, ?_, ?_⟩
      · rw [lc_st3]
        by_cases z : p = k
        · subst z
          obtain ⟨h3, h4⟩ := hb p (by omega)
          rw [if_pos rfl, lc_un_s, lc_un_s, h3]
          refine ⟨?_, by omega⟩
          show (nI (e p), nI (v p) + nI m, nI (l p) + nI m) = _
          rw [nI_add, nI_add]
        · rw [if_neg (by omega), lc_un_n z, lc_un_n z]; exact hb p (by omega)
      · rw [lc_sm_1]; omega
      · rw [lc_sm_un]; omega
    · obtain ⟨k, rfl⟩ : ∃ k, h = k + 2 := ⟨h - 2, by omega⟩
      rw [ex, lc_hs1, show k + 2 - 1 = k + 1 from rfl]
      rw [lc_sm_2] at he hv
      obtain ⟨h3, h4⟩ := hb k (by omega)
      obtain ⟨h5, h6⟩ := hb (k + 1) (by omega)
      refine ⟨lc_un e k (e k + e (k + 1)), lc_un v k (if v k ≤ l k + v (k + 1) then l k + v (k + 1) else v k), lc_un l k (l k + l (k + 1)), fun p hp => ?_, ?_, ?_⟩
      · rw [lc_st1]
        by_cases z : p = k
        · subst z
          rw [if_pos rfl, lc_un_s, lc_un_s, lc_un_s, h3, h5, lc_jn, if_pos rfl]
          refine ⟨?_, ?_⟩
          · show (nI (e p) + nI (e (p + 1)), (if nI (v p) ≤ nI (l p) + nI (v (p + 1)) then nI (l p) + nI (v (p + 1)) else nI (v p)), nI (l p) + nI (l (p + 1))) = _
            rw [nI_add, nI_add, nI_add, lc_mx (by omega) (by omega)]
          · by_cases y : v p ≤ l p + v (p + 1)
            · rw [if_pos y]; omega
            · rw [if_neg y]; omega
        · rw [if_neg (by omega), lc_un_n z, lc_un_n z, lc_un_n z]; exact hb p (by omega)
      · rw [lc_sm_un]; omega
      · rw [lc_sm_un]
        by_cases y : v k ≤ l k + v (k + 1)
        · rw [if_pos y]; omega
        · rw [if_neg y]; omega
    · obtain ⟨k, rfl⟩ : ∃ k, h = k + 2 := ⟨h - 2, by omega⟩
      rw [ex, lc_hs2, show k + 2 - 1 = k + 1 from rfl]
      rw [lc_sm_2] at he hv
      obtain ⟨h3, h4⟩ := hb k (by omega)
      obtain ⟨h5, h6⟩ := hb (k + 1) (by omega)
      refine ⟨lc_un e k (e k + (e (k + 1) + 1)), lc_un v k (if v k ≤ v (k + 1) then v (k + 1) else v k), lc_un l k (l (k + 1)), fun p hp => ?_, ?_, ?_⟩
      · rw [lc_st2]
        by_cases z : p = k
        · subst z
          rw [if_pos rfl, lc_un_s, lc_un_s, lc_un_s, h3, h5, lc_jn, if_neg lc_n21, if_pos rfl]
          refine ⟨?_, ?_⟩
          · show (nI (e p) + (nI (e (p + 1)) + 1), (if nI (v p) ≤ nI (v (p + 1)) then nI (v (p + 1)) else nI (v p)), nI (l (p + 1))) = _
            rw [nI_1, nI_add, lc_mx (by omega) (by omega)]
          · by_cases y : v p ≤ v (p + 1)
            · rw [if_pos y]; omega
            · rw [if_neg y]; omega
        · rw [if_neg (by omega), lc_un_n z, lc_un_n z, lc_un_n z]; exact hb p (by omega)
      · rw [lc_sm_un]; omega
      · rw [lc_sm_un]
        by_cases y : v k ≤ v (k + 1)
        · rw [if_pos y]; omega
        · rw [if_neg y]; omega
    · obtain ⟨k, rfl⟩ : ∃ k, h = k + 2 := ⟨h - 2, by omega⟩
      rw [ex, lc_hs4, show k + 2 - 1 = k + 1 from rfl]
      rw [lc_sm_2] at he hv
      cases up with
      | false =>
        refine ⟨e, v, l, fun p hp => ?_, ?_, ?_⟩
        · rw [lc_st4]
          have y : ¬ false = true := by decide
          rw [if_neg y, ite_self]
          exact hb p (by omega)
        · rw [lc_sm_1]; omega
        · rw [lc_sm_1]; omega
      | true =>
        refine ⟨lc_un e k (e (k + 1)), lc_un v k (v (k + 1)), lc_un l k (l (k + 1)), fun p hp => ?_, ?_, ?_⟩
        · rw [lc_st4, if_pos rfl]
          by_cases z : p = k
          · subst z
            rw [if_pos rfl, lc_un_s, lc_un_s, lc_un_s]
            exact hb _ (by omega)
          · rw [if_neg (by omega), lc_un_n z, lc_un_n z, lc_un_n z]; exact hb p (by omega)
        · rw [lc_sm_un]; omega
        · rw [lc_sm_un]; omega
/-- a box within its bounds -/
def lc_GB (b : lc_Bx) : Prop := ∃ e v l : Nat, e ≤ 48 ∧ v ≤ 1920 ∧ l ≤ 1920 ∧ b = (nI e, nI v, nI l)
theorem lc_gb {c a : Nat → Int32} {T p : Nat} (V : lc_VT c a T) (hT : T ≤ 48) (hp : p < lc_ht c T) {b : lc_Bx} (hb : lc_Set c a T p b) : lc_GB b := by
  obtain ⟨w, _, rfl⟩ := hb
  obtain ⟨e, v, l, h, he, hv⟩ := lc_bd (w := w) V hT T (Nat.le_refl _)
  obtain ⟨h1, h2⟩ := h p hp
  have := lc_sm_le (f := e) _ p hp
  have := lc_sm_le (f := v) _ p hp
  exact ⟨e p, v p, l p, by omega, by omega, by omega, h1⟩
