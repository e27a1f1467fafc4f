/-! rows pasted from kit/rows (PURE-ROWS) -/
theorem pk_us {f : Nat → Int32} {k : Nat} {x : Int32} : upd f k x k = x := if_pos rfl
theorem pk_un {f : Nat → Int32} {k j : Nat} {x : Int32} (h : j ≠ k) : upd f k x j = f j := if_neg h
theorem pk_sub {a b : Nat} (h : b ≤ a) : nI a - nI b = nI (a - b) := by
  obtain ⟨c, rfl⟩ : ∃ c, a = c + b := ⟨a - b, by omega⟩
  rw [← nI_add, Int32.add_sub_cancel, Nat.add_sub_cancel]
theorem pk_mul (a b : Nat) : nI a * nI b = nI (a * b) := (Int32.ofNat_mul a b).symm
theorem pk_le {x y : Int32} {A B : Prop} (a b : Nat) (f : a ≤ b → A) (g : b < a → B) (hx : x = nI a := by rfl) (hy : y = nI b := by rfl) (ha : a < 2 ^ 31 := by omega) (hb : b < 2 ^ 31 := by omega) : (x ≤ y → A) ∧ (¬ x ≤ y → B) := by
  subst hx hy
  rw [nI_leI ha hb]
  exact ⟨f, fun z => g (by omega)⟩
theorem pk_lt {x y : Int32} {A B : Prop} (a b : Nat) (f : a < b → A) (g : b ≤ a → B) (hx : x = nI a := by rfl) (hy : y = nI b := by rfl) (ha : a < 2 ^ 31 := by omega) (hb : b < 2 ^ 31 := by omega) : (x < y → A) ∧ (¬ x < y → B) := by
  subst hx hy
  rw [nI_ltI ha hb]
  exact ⟨f, fun z => g (by omega)⟩
theorem pk_eq {x y : Int32} {A B : Prop} (a b : Nat) (f : a = b → A) (g : a ≠ b → B) (hx : x = nI a := by rfl) (hy : y = nI b := by rfl) (ha : a < 2 ^ 31 := by omega) (hb : b < 2 ^ 31 := by omega) : (x = y → A) ∧ (¬ x = y → B) := by
  subst hx hy
  rw [nI_eq ha hb]
  exact ⟨f, g⟩
theorem pk_in {x : Int32} (n N : Nat) (h : n < N) (hx : x = nI n := by rfl) (hN : N < 2 ^ 31 := by omega) : vp_in x N := by
  subst hx
  exact vp_in_nI h hN
theorem pk_cl {x : Int32} (n : Nat) (hx : x = nI n := by rfl) (h : n < 2 ^ 31 := by omega) : x.toNatClampNeg = n := by
  subst hx
  exact nI_clamp h
theorem pk_ix (x : Int32) {n : Nat} (hn : n < 2 ^ 31) : x < 0 ∨ nI n ≤ x ∨ ∃ j : Nat, j < n ∧ x = nI j := by
  by_cases h : x < 0
  · exact Or.inl h
  · obtain ⟨j, hj, rfl⟩ := nI_of h
    by_cases h2 : j < n
    · exact Or.inr (Or.inr ⟨j, h2, rfl⟩)
    · exact Or.inr (Or.inl (nI_le (by omega) hj))
/-! counting: how many of 0 .. n-1 have Q; the pigeonholes -/
noncomputable def lc_cn (Q : Nat → Prop) : Nat → Nat
  | 0 => 0
  | n + 1 => lc_cn Q n + @ite Nat (Q n) (Classical.propDecidable _) 1 0
theorem lc_cn_t {Q : Nat → Prop} {n : Nat} (h : Q n) : lc_cn Q (n + 1) = lc_cn Q n + 1 := by
  show lc_cn Q n + @ite Nat (Q n) (Classical.propDecidable _) 1 0 = _
  rw [if_pos h]
theorem lc_cn_f {Q : Nat → Prop} {n : Nat} (h : ¬ Q n) : lc_cn Q (n + 1) = lc_cn Q n := by
  show lc_cn Q n + @ite Nat (Q n) (Classical.propDecidable _) 1 0 = _
  rw [if_neg h, Nat.add_zero]
theorem lc_cn_le (Q : Nat → Prop) : ∀ n, lc_cn Q n ≤ n := by
  intro n
  induction n with
  | zero => exact Nat.le_refl _
  | succ n ih =>
    by_cases h : Q n
    · rw [lc_cn_t h]; omega
    · rw [lc_cn_f h]; omega
theorem lc_cn_all : ∀ n, lc_cn (fun _ => True) n = n := by
  intro n
  induction n with
  | zero => rfl
  | succ n ih => rw [lc_cn_t trivial, ih]
theorem lc_cn_cg {Q Q' : Nat → Prop} : ∀ n, (∀ i, i < n → (Q i ↔ Q' i)) → lc_cn Q n = lc_cn Q' n := by
  intro n
  induction n with
  | zero => intro _; rfl
  | succ n ih =>
    intro h
    have e := ih (fun i hi => h i (by omega))
    by_cases q : Q n
    · rw [lc_cn_t q, lc_cn_t ((h n (by omega)).mp q), e]
    · rw [lc_cn_f q, lc_cn_f (fun z => q ((h n (by omega)).mpr z)), e]
theorem lc_cn_rm {Q : Nat → Prop} {j : Nat} (hQ : Q j) : ∀ m, j < m → lc_cn (fun i => Q i ∧ i ≠ j) m + 1 = lc_cn Q m := by
  intro m
  induction m with
  | zero => intro h; omega
  | succ m ih =>
    intro h
    by_cases e : j = m
    · subst e
      rw [lc_cn_t hQ, lc_cn_f (fun z => z.2 rfl)]
      have := lc_cn_cg (Q := fun i => Q i ∧ i ≠ j) (Q' := Q) j (fun i hi => ⟨fun z => z.1, fun z => ⟨z, by omega⟩⟩)
      rw [this]
    · have i1 := ih (by omega)
      by_cases q : Q m
      · rw [lc_cn_t q, lc_cn_t (Q := fun i => Q i ∧ i ≠ j) ⟨q, fun z => e z.symm⟩]; omega
      · rw [lc_cn_f q, lc_cn_f (Q := fun i => Q i ∧ i ≠ j) (fun z => q z.1)]; omega
theorem lc_php (R : Nat → Nat → Prop) (Q : Nat → Prop) (m : Nat) : ∀ n (Q' : Nat → Prop), (∀ i, i < n → Q i → ∃ j, j < m ∧ Q' j ∧ R i j) → (∀ i i' j, i < n → i' < n → Q i → Q i' → R i j → R i' j → i = i') → lc_cn Q n ≤ lc_cn Q' m := by
  intro n
  induction n with
  | zero => intro Q' _ _; exact Nat.zero_le _
  | succ n ih =>
    intro Q' h1 h2
    by_cases q : Q n
    · obtain ⟨j, hj, qj, rj⟩ := h1 n (by omega) q
      have := ih (fun i => Q' i ∧ i ≠ j) (fun i hi qi => by
        obtain ⟨j', hj', qj', rj'⟩ := h1 i (by omega) qi
        refine ⟨j', hj', ⟨qj', fun e => ?_⟩, rj'⟩
        subst e
        have := h2 i n j' (by omega) (by omega) qi q rj' rj
        omega) (fun i i' j hi hi' => h2 i i' j (by omega) (by omega))
      have e := lc_cn_rm (Q := Q') qj m hj
      rw [lc_cn_t q]; omega
    · rw [lc_cn_f q]
      exact ih Q' (fun i hi => h1 i (by omega)) (fun i i' j hi hi' => h2 i i' j (by omega) (by omega))
theorem lc_ph (R : Nat → Nat → Prop) (n m : Nat) (h1 : ∀ i, i < n → ∃ j, j < m ∧ R i j) (h2 : ∀ i i' j, i < n → i' < n → R i j → R i' j → i = i') : n ≤ m := by
  have := lc_php R (fun _ => True) m n (fun _ => True) (fun i hi _ => by
    obtain ⟨j, hj, r⟩ := h1 i hi
    exact ⟨j, hj, trivial, r⟩) (fun i i' j hi hi' _ _ => h2 i i' j hi hi')
  rw [lc_cn_all, lc_cn_all] at this
  exact this
