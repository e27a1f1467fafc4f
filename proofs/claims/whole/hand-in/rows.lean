section
/-! rows pasted from kit/rows (PURE-ROWS) -/
theorem pk_us {f : Nat → Int32} {k : Nat} {x : Int32} : upd f k x k = x := if_pos rfl
theorem pk_un {f : Nat → Int32} {k j : Nat} {x : Int32} (h : j ≠ k) : upd f k x j = f j := if_neg h
theorem pk_sub {a b : Nat} (h : b ≤ a) : nI a - nI b = nI (a - b) := by
  obtain ⟨c, rfl⟩ : ∃ c, a = c + b := ⟨a - b, by omega⟩
  rw [← nI_add, Int32.add_sub_cancel, Nat.add_sub_cancel]
theorem pk_mul (a b : Nat) : nI a * nI b = nI (a * b) := (Int32.ofNat_mul a b).symm
theorem pk_le {x y : Int32} {A B : Prop} (a b : Nat) (f : a ≤ b → A) (g : b < a → B) (hx : x = nI a := by rfl) (hy : y = nI b := by rfl) (ha : a < 2 ^ 31 := by omega) (hb : b < 2 ^ 31 := by omega) : (x ≤ y → A) ∧ (¬ x ≤ y → B) := by
  subst hx hy
  rw [nI_leI ha hb]
  exact ⟨f, fun z => g (by omega)⟩
theorem pk_lt {x y : Int32} {A B : Prop} (a b : Nat) (f : a < b → A) (g : b ≤ a → B) (hx : x = nI a := by rfl) (hy : y = nI b := by rfl) (ha : a < 2 ^ 31 := by omega) (hb : b < 2 ^ 31 := by omega) : (x < y → A) ∧ (¬ x < y → B) := by
  subst hx hy
  rw [nI_ltI ha hb]
  exact ⟨f, fun z => g (by omega)⟩
theorem pk_eq {x y : Int32} {A B : Prop} (a b : Nat) (f : a = b → A) (g : a ≠ b → B) (hx : x = nI a := by rfl) (hy : y = nI b := by rfl) (ha : a < 2 ^ 31 := by omega) (hb : b < 2 ^ 31 := by omega) : (x = y → A) ∧ (¬ x = y → B) := by
  subst hx hy
  rw [nI_eq ha hb]
  exact ⟨f, g⟩
theorem pk_in {x : Int32} (n N : Nat) (h : n < N) (hx : x = nI n := by rfl) (hN : N < 2 ^ 31 := by omega) : vp_in x N := by
  subst hx
  exact vp_in_nI h hN
theorem pk_cl {x : Int32} (n : Nat) (hx : x = nI n := by rfl) (h : n < 2 ^ 31 := by omega) : x.toNatClampNeg = n := by
  subst hx
  exact nI_clamp h
theorem pk_ix (x : Int32) {n : Nat} (hn : n < 2 ^ 31) : x < 0 ∨ nI n ≤ x ∨ ∃ j : Nat, j < n ∧ x = nI j := by
  by_cases h : x < 0
  · exact Or.inl h
  · obtain ⟨j, hj, rfl⟩ := nI_of h
    by_cases h2 : j < n
    · exact Or.inr (Or.inr ⟨j, h2, rfl⟩)
    · exact Or.inr (Or.inl (nI_le (by omega) hj))
/-! counting: how many of 0 .. n-1 have Q; the pigeonholes -/
noncomputable def lc_cn (Q : Nat → Prop) : Nat → Nat
  | 0 => 0
  | n + 1 => lc_cn Q n + @ite Nat (Q n) (Classical.propDecidable _) 1 0
theorem lc_cn_t {Q : Nat → Prop} {n : Nat} (h : Q n) : lc_cn Q (n + 1) = lc_cn Q n + 1 := by
  show lc_cn Q n + @ite Nat (Q n) (Classical.propDecidable _) 1 0 = _
  rw [if_pos h]
theorem lc_cn_f {Q : Nat → Prop} {n : Nat} (h : ¬ Q n) : lc_cn Q (n + 1) = lc_cn Q n := by
  show lc_cn Q n + @ite Nat (Q n) (Classical.propDecidable _) 1 0 = _
  rw [if_neg h, Nat.add_zero]
theorem lc_cn_le (Q : Nat → Prop) : ∀ n, lc_cn Q n ≤ n := by
  intro n
  induction n with
  | zero => exact Nat.le_refl _
  | succ n ih =>
    by_cases h : Q n
    · rw [lc_cn_t h]; omega
    · rw [lc_cn_f h]; omega
theorem lc_cn_all : ∀ n, lc_cn (fun _ => True) n = n := by
  intro n
  induction n with
  | zero => rfl
  | succ n ih => rw [lc_cn_t trivial, ih]
theorem lc_cn_cg {Q Q' : Nat → Prop} : ∀ n, (∀ i, i < n → (Q i ↔ Q' i)) → lc_cn Q n = lc_cn Q' n := by
  intro n
  induction n with
  | zero => intro _; rfl
  | succ n ih =>
    intro h
    have e := ih (fun i hi => h i (by omega))
    by_cases q : Q n
    · rw [lc_cn_t q, lc_cn_t ((h n (by omega)).mp q), e]
    · rw [lc_cn_f q, lc_cn_f (fun z => q ((h n (by omega)).mpr z)), e]
theorem lc_cn_rm {Q : Nat → Prop} {j : Nat} (hQ : Q j) : ∀ m, j < m → lc_cn (fun i => Q i ∧ i ≠ j) m + 1 = lc_cn Q m := by
  intro m
  induction m with
  | zero => intro h; omega
  | succ m ih =>
    intro h
    by_cases e : j = m
    · subst e
      rw [lc_cn_t hQ, lc_cn_f (fun z => z.2 rfl)]
      have := lc_cn_cg (Q := fun i => Q i ∧ i ≠ j) (Q' := Q) j (fun i hi => ⟨fun z => z.1, fun z => ⟨z, by omega⟩⟩)
      rw [this]
    · have i1 := ih (by omega)
      by_cases q : Q m
      · rw [lc_cn_t q, lc_cn_t (Q := fun i => Q i ∧ i ≠ j) ⟨q, fun z => e z.symm⟩]; omega
      · rw [lc_cn_f q, lc_cn_f (Q := fun i => Q i ∧ i ≠ j) (fun z => q z.1)]; omega
theorem lc_php (R : Nat → Nat → Prop) (Q : Nat → Prop) (m : Nat) : ∀ n (Q' : Nat → Prop), (∀ i, i < n → Q i → ∃ j, j < m ∧ Q' j ∧ R i j) → (∀ i i' j, i < n → i' < n → Q i → Q i' → R i j → R i' j → i = i') → lc_cn Q n ≤ lc_cn Q' m := by
  intro n
  induction n with
  | zero => intro Q' _ _; exact Nat.zero_le _
  | succ n ih =>
    intro Q' h1 h2
    by_cases q : Q n
    · obtain ⟨j, hj, qj, rj⟩ := h1 n (by omega) q
      have := ih (fun i => Q' i ∧ i ≠ j) (fun i hi qi => by
        obtain ⟨j', hj', qj', rj'⟩ := h1 i (by omega) qi
        refine ⟨j', hj', ⟨qj', fun e => ?_⟩, rj'⟩
        subst e
        have := h2 i n j' (by omega) (by omega) qi q rj' rj
        omega) (fun i i' j hi hi' => h2 i i' j (by omega) (by omega))
      have e := lc_cn_rm (Q := Q') qj m hj
      rw [lc_cn_t q]; omega
    · rw [lc_cn_f q]
      exact ih Q' (fun i hi => h1 i (by omega)) (fun i i' j hi hi' => h2 i i' j (by omega) (by omega))
theorem lc_ph (R : Nat → Nat → Prop) (n m : Nat) (h1 : ∀ i, i < n → ∃ j, j < m ∧ R i j) (h2 : ∀ i i' j, i < n → i' < n → R i j → R i' j → i = i') : n ≤ m := by
  have := lc_php R (fun _ => True) m n (fun _ => True) (fun i hi _ => by
    obtain ⟨j, hj, r⟩ := h1 i hi
    exact ⟨j, hj, trivial, r⟩) (fun i i' j hi hi' _ _ => h2 i i' j hi hi')
  rw [lc_cn_all, lc_cn_all] at this
  exact this
end
section
/-! the pure machine: a way's stack after i tokens, from the bottom; boxes are triples of Int32 -/
abbrev lc_Bx : Type := Int32 × Int32 × Int32
def lc_jn (x : Int32) (up : Bool) (b d : lc_Bx) : lc_Bx :=
  if x = 1 then (b.1 + d.1, (if b.2.1 ≤ b.2.2 + d.2.1 then b.2.2 + d.2.1 else b.2.1), b.2.2 + d.2.2)
  else if x = 2 then (b.1 + (d.1 + 1), (if b.2.1 ≤ d.2.1 then d.2.1 else b.2.1), d.2.2)
  else if up = true then d else b
def lc_id (n : Int32) (b : lc_Bx) : lc_Bx := (b.1, b.2.1 + n, b.2.2 + n)
def lc_st (x n : Int32) (up : Bool) (h : Nat) (f : Nat → lc_Bx) : Nat → lc_Bx := fun p =>
  if x = 0 then (if p = h then (0, n, n) else f p)
  else if x = 3 then (if p + 1 = h then lc_id n (f p) else f p)
  else (if p + 2 = h then lc_jn x up (f p) (f (p + 1)) else f p)
def lc_ec (c : Nat → Int32) : Nat → Nat
  | 0 => 0
  | i + 1 => if c i = 4 then lc_ec c i + 1 else lc_ec c i
def lc_hs (x : Int32) (h : Nat) : Nat := if x = 0 then h + 1 else if x = 3 then h else h - 1
def lc_ht (c : Nat → Int32) : Nat → Nat
  | 0 => 0
  | i + 1 => lc_hs (c i) (lc_ht c i)
def lc_pf (c a : Nat → Int32) (w : Nat) : Nat → Nat → lc_Bx
  | 0 => fun _ => (0, 0, 0)
  | i + 1 => lc_st (c i) (a i) (w.testBit (lc_ec c i)) (lc_ht c i) (lc_pf c a w i)
/-- a token that is taken -/
def lc_ok (x n : Int32) (h e : Nat) : Prop :=
  (x = 0 ∧ (∃ m, m ≤ 40 ∧ n = nI m) ∧ h < 10) ∨ (x = 3 ∧ (∃ m, m ≤ 20 ∧ n = nI m) ∧ 1 ≤ h) ∨ (x = 1 ∧ 2 ≤ h) ∨ (x = 2 ∧ 2 ≤ h) ∨ (x = 4 ∧ 2 ≤ h ∧ e < 6)
def lc_VT (c a : Nat → Int32) (T : Nat) : Prop := ∀ i, i < T → lc_ok (c i) (a i) (lc_ht c i) (lc_ec c i)
theorem lc_n03 : ¬ (0 : Int32) = 3 := by decide
theorem lc_n04 : ¬ (0 : Int32) = 4 := by decide
theorem lc_n30 : ¬ (3 : Int32) = 0 := by decide
theorem lc_n34 : ¬ (3 : Int32) = 4 := by decide
theorem lc_n10 : ¬ (1 : Int32) = 0 := by decide
theorem lc_n13 : ¬ (1 : Int32) = 3 := by decide
theorem lc_n14 : ¬ (1 : Int32) = 4 := by decide
theorem lc_n20 : ¬ (2 : Int32) = 0 := by decide
theorem lc_n21 : ¬ (2 : Int32) = 1 := by decide
theorem lc_n23 : ¬ (2 : Int32) = 3 := by decide
theorem lc_n24 : ¬ (2 : Int32) = 4 := by decide
theorem lc_n40 : ¬ (4 : Int32) = 0 := by decide
theorem lc_n41 : ¬ (4 : Int32) = 1 := by decide
theorem lc_n42 : ¬ (4 : Int32) = 2 := by decide
theorem lc_n43 : ¬ (4 : Int32) = 3 := by decide
/-- height and eithers stay within -/
theorem lc_lim {c a : Nat → Int32} {T : Nat} (V : lc_VT c a T) : ∀ i, i ≤ T → lc_ht c i ≤ 10 ∧ lc_ec c i ≤ 6 := by
  intro i
  induction i with
  | zero => intro _; exact ⟨Nat.zero_le _, Nat.zero_le _⟩
  | succ i ih =>
    intro hi
    obtain ⟨h1, h2⟩ := ih (by omega)
    show lc_hs (c i) (lc_ht c i) ≤ 10 ∧ (if c i = 4 then lc_ec c i + 1 else lc_ec c i) ≤ 6
    rcases V i (by omega) with ⟨e, _, h⟩ | ⟨e, _, h⟩ | ⟨e, h⟩ | ⟨e, h⟩ | ⟨e, h, h'⟩ <;> rw [e] <;> unfold lc_hs <;> simp [lc_n03, lc_n04, lc_n30, lc_n34, lc_n10, lc_n13, lc_n14, lc_n20, lc_n23, lc_n24, lc_n40, lc_n43] <;> omega
/-- later tokens don't change what earlier ones made -/
theorem lc_cg {c a c' a' : Nat → Int32} : ∀ i, (∀ j, j < i → c' j = c j ∧ a' j = a j) → lc_ht c' i = lc_ht c i ∧ lc_ec c' i = lc_ec c i ∧ ∀ w, lc_pf c' a' w i = lc_pf c a w i := by
  intro i
  induction i with
  | zero => intro _; exact ⟨rfl, rfl, fun _ => rfl⟩
  | succ i ih =>
    intro h
    obtain ⟨h1, h2, h3⟩ := ih (fun j hj => h j (by omega))
    obtain ⟨e1, e2⟩ := h i (by omega)
    refine ⟨?_, ?_, fun w => ?_⟩
    · show lc_hs _ _ = lc_hs _ _; rw [e1, h1]
    · show (if c' i = 4 then lc_ec c' i + 1 else lc_ec c' i) = (if c i = 4 then lc_ec c i + 1 else lc_ec c i); rw [e1, h2]
    · show lc_st _ _ _ _ _ = lc_st _ _ _ _ _; rw [e1, e2, h1, h2, h3]
theorem lc_st0 {n : Int32} {up : Bool} {h : Nat} {f : Nat → lc_Bx} {p : Nat} : lc_st 0 n up h f p = if p = h then (0, n, n) else f p := if_pos rfl
theorem lc_st3 {n : Int32} {up : Bool} {h : Nat} {f : Nat → lc_Bx} {p : Nat} : lc_st 3 n up h f p = if p + 1 = h then lc_id n (f p) else f p := (if_neg lc_n30).trans (if_pos rfl)
theorem lc_st1 {n : Int32} {up : Bool} {h : Nat} {f : Nat → lc_Bx} {p : Nat} : lc_st 1 n up h f p = if p + 2 = h then lc_jn 1 false (f p) (f (p + 1)) else f p := (if_neg lc_n10).trans (if_neg lc_n13)
theorem lc_st2 {n : Int32} {up : Bool} {h : Nat} {f : Nat → lc_Bx} {p : Nat} : lc_st 2 n up h f p = if p + 2 = h then lc_jn 2 false (f p) (f (p + 1)) else f p := (if_neg lc_n20).trans (if_neg lc_n23)
theorem lc_jn4 {up : Bool} {b d : lc_Bx} : lc_jn 4 up b d = if up = true then d else b := (if_neg lc_n41).trans (if_neg lc_n42)
theorem lc_st4 {n : Int32} {up : Bool} {h : Nat} {f : Nat → lc_Bx} {p : Nat} : lc_st 4 n up h f p = if p + 2 = h then (if up = true then f (p + 1) else f p) else f p := by
  refine ((if_neg lc_n40).trans (if_neg lc_n43)).trans ?_
  rw [lc_jn4]
theorem lc_pfs {c a : Nat → Int32} {w i p : Nat} : lc_pf c a w (i + 1) p = lc_st (c i) (a i) (w.testBit (lc_ec c i)) (lc_ht c i) (lc_pf c a w i) p := rfl
theorem lc_ecs {c : Nat → Int32} {i : Nat} : lc_ec c (i + 1) = if c i = 4 then lc_ec c i + 1 else lc_ec c i := rfl
theorem lc_hts {c : Nat → Int32} {i : Nat} : lc_ht c (i + 1) = lc_hs (c i) (lc_ht c i) := rfl
theorem lc_hs0 {h : Nat} : lc_hs 0 h = h + 1 := if_pos rfl
theorem lc_hs3 {h : Nat} : lc_hs 3 h = h := (if_neg lc_n30).trans (if_pos rfl)
theorem lc_hs1 {h : Nat} : lc_hs 1 h = h - 1 := (if_neg lc_n10).trans (if_neg lc_n13)
theorem lc_hs2 {h : Nat} : lc_hs 2 h = h - 1 := (if_neg lc_n20).trans (if_neg lc_n23)
theorem lc_hs4 {h : Nat} : lc_hs 4 h = h - 1 := (if_neg lc_n40).trans (if_neg lc_n43)
/-- only the bits of the eithers taken count -/
theorem lc_bits {c a : Nat → Int32} {T w w' : Nat} (V : lc_VT c a T) : ∀ i, i ≤ T → (∀ j, j < lc_ec c i → w.testBit j = w'.testBit j) → ∀ p, lc_pf c a w i p = lc_pf c a w' i p := by
  intro i
  induction i with
  | zero => intro _ _ _; rfl
  | succ i ih =>
    intro hi h p
    rw [lc_ecs] at h
    rw [lc_pfs, lc_pfs]
    rcases V i (by omega) with ⟨e, _, _⟩ | ⟨e, _, _⟩ | ⟨e, _⟩ | ⟨e, _⟩ | ⟨e, _, _⟩ <;> rw [e] at h ⊢
    · rw [if_neg lc_n04] at h
      rw [lc_st0, lc_st0, ih (by omega) h]
    · rw [if_neg lc_n34] at h
      rw [lc_st3, lc_st3, ih (by omega) h]
    · rw [if_neg lc_n14] at h
      rw [lc_st1, lc_st1, ih (by omega) h, ih (by omega) h]
    · rw [if_neg lc_n24] at h
      rw [lc_st2, lc_st2, ih (by omega) h, ih (by omega) h]
    · rw [if_pos rfl] at h
      have h' : ∀ j, j < lc_ec c i → w.testBit j = w'.testBit j := fun j hj => h j (by omega)
      rw [lc_st4, lc_st4, ih (by omega) h', ih (by omega) h', h _ (Nat.lt_succ_self _)]
theorem lc_low {c a : Nat → Int32} {T w : Nat} (V : lc_VT c a T) {i : Nat} (hi : i ≤ T) (p : Nat) : lc_pf c a (w % 2 ^ lc_ec c i) i p = lc_pf c a w i p := by
  refine lc_bits V i hi (fun j hj => ?_) p
  rw [Nat.testBit_mod_two_pow]
  simp [hj]
theorem lc_hi {c a : Nat → Int32} {T w : Nat} (V : lc_VT c a T) {i : Nat} (hi : i ≤ T) (p : Nat) : lc_pf c a (2 ^ lc_ec c i + w) i p = lc_pf c a w i p := by
  refine lc_bits V i hi (fun j hj => ?_) p
  exact Nat.testBit_two_pow_add_gt hj w
/-- the documents of the stack choose independently of each other -/
theorem lc_ind {c a : Nat → Int32} {T : Nat} (V : lc_VT c a T) : ∀ i, i ≤ T → ∀ g : Nat → Nat, (∀ p, g p < 2 ^ lc_ec c i) → ∃ w, w < 2 ^ lc_ec c i ∧ ∀ p, p < lc_ht c i → lc_pf c a w i p = lc_pf c a (g p) i p := by
  intro i
  induction i with
  | zero => intro _ g hg; exact ⟨g 0, hg 0, fun p hp => rfl⟩
  | succ i ih =>
    intro hi g hg
    have hi' : i ≤ T := by omega
    rw [lc_ecs] at hg ⊢
    rw [lc_hts]
    simp only [lc_pfs]
    rcases V i (by omega) with ⟨e, _, _⟩ | ⟨e, _, _⟩ | ⟨e, h2⟩ | ⟨e, h2⟩ | ⟨e, h2, _⟩ <;> rw [e] at hg ⊢
    · rw [if_neg lc_n04] at hg ⊢
      obtain ⟨w, hw, h⟩ := ih hi' g hg
      refine ⟨w, hw, fun p hp => ?_⟩
      rw [lc_hs0] at hp
      rw [lc_st0, lc_st0]
      by_cases z : p = lc_ht c i
      · rw [if_pos z, if_pos z]
      · rw [if_neg z, if_neg z]; exact h p (by omega)
    · rw [if_neg lc_n34] at hg ⊢
      obtain ⟨w, hw, h⟩ := ih hi' g hg
      refine ⟨w, hw, fun p hp => ?_⟩
      rw [lc_hs3] at hp
      rw [lc_st3, lc_st3, h p hp]
    · rw [if_neg lc_n14] at hg ⊢
      obtain ⟨w, hw, h⟩ := ih hi' (fun p => if p + 1 = lc_ht c i then g (p - 1) else g p) (fun p => by
        by_cases z : p + 1 = lc_ht c i
        · rw [if_pos z]; exact hg _
        · rw [if_neg z]; exact hg _)
      refine ⟨w, hw, fun p hp => ?_⟩
      rw [lc_hs1] at hp
      have h0 := h p (by omega)
      rw [if_neg (by omega)] at h0
      rw [lc_st1, lc_st1]
      by_cases z : p + 2 = lc_ht c i
      · have h1 := h (p + 1) (by omega)
        rw [if_pos (by omega)] at h1
        rw [if_pos z, if_pos z, h0, h1]
        rfl
      · rw [if_neg z, if_neg z, h0]
    · rw [if_neg lc_n24] at hg ⊢
      obtain ⟨w, hw, h⟩ := ih hi' (fun p => if p + 1 = lc_ht c i then g (p - 1) else g p) (fun p => by
        by_cases z : p + 1 = lc_ht c i
        · rw [if_pos z]; exact hg _
        · rw [if_neg z]; exact hg _)
      refine ⟨w, hw, fun p hp => ?_⟩
      rw [lc_hs2] at hp
      have h0 := h p (by omega)
      rw [if_neg (by omega)] at h0
      rw [lc_st2, lc_st2]
      by_cases z : p + 2 = lc_ht c i
      · have h1 := h (p + 1) (by omega)
        rw [if_pos (by omega)] at h1
        rw [if_pos z, if_pos z, h0, h1]
        rfl
      · rw [if_neg z, if_neg z, h0]
    · rw [if_pos rfl] at hg ⊢
      have P := Nat.two_pow_pos (lc_ec c i)
      obtain ⟨w, hw, h⟩ := ih hi' (fun p => (if p + 1 = lc_ht c i then g (p - 1) else g p) % 2 ^ lc_ec c i) (fun p => Nat.mod_lt _ P)
      have K : ∀ b : Bool, ∃ w', w' < 2 ^ (lc_ec c i + 1) ∧ w'.testBit (lc_ec c i) = b ∧ ∀ p, lc_pf c a w' i p = lc_pf c a w i p := by
        intro b
        have ep : 2 ^ (lc_ec c i + 1) = 2 ^ lc_ec c i + 2 ^ lc_ec c i := by rw [Nat.pow_succ]; omega
        cases b with
        | false => exact ⟨w, by omega, Nat.testBit_lt_two_pow hw, fun _ => rfl⟩
        | true =>
          refine ⟨2 ^ lc_ec c i + w, by omega, ?_, fun p => lc_hi V hi' p⟩
          rw [Nat.testBit_two_pow_add_eq, Nat.testBit_lt_two_pow hw]; rfl
      obtain ⟨w', hw', hb, hp'⟩ := K ((g (lc_ht c i - 2)).testBit (lc_ec c i))
      refine ⟨w', hw', fun p hp => ?_⟩
      rw [lc_hs4] at hp
      have h0 := h p (by omega)
      rw [if_neg (by omega), lc_low V hi'] at h0
      rw [lc_st4, lc_st4, hp', hp']
      by_cases z : p + 2 = lc_ht c i
      · have h1 := h (p + 1) (by omega)
        rw [if_pos (by omega), lc_low V hi'] at h1
        have z' : lc_ht c i - 2 = p := by omega
        rw [z'] at hb
        rw [if_pos z, if_pos z, hb, h0, h1]
        rfl
      · rw [if_neg z, if_neg z, h0]
/-- the boxes of document p (from the bottom) after i tokens -/
def lc_Set (c a : Nat → Int32) (i p : Nat) : lc_Bx → Prop := fun b => ∃ w, w < 2 ^ lc_ec c i ∧ lc_pf c a w i p = b
theorem lc_two {c a : Nat → Int32} {T : Nat} (V : lc_VT c a T) {i : Nat} (hi : i ≤ T) {p : Nat} (hp : p + 2 = lc_ht c i) {b d : lc_Bx} (hb : lc_Set c a i p b) (hd : lc_Set c a i (p + 1) d) : ∃ w, w < 2 ^ lc_ec c i ∧ lc_pf c a w i p = b ∧ lc_pf c a w i (p + 1) = d := by
  obtain ⟨w1, h1, e1⟩ := hb
  obtain ⟨w2, h2, e2⟩ := hd
  obtain ⟨w, hw, h⟩ := lc_ind V i hi (fun q => if q = p then w1 else w2) (fun q => by
    by_cases z : q = p
    · rw [if_pos z]; exact h1
    · rw [if_neg z]; exact h2)
  have a1 := h p (by omega)
  have a2 := h (p + 1) (by omega)
  rw [if_pos rfl] at a1
  rw [if_neg (by omega)] at a2
  exact ⟨w, hw, a1.trans e1, a2.trans e2⟩
end
section
/-! how a token changes the sets of boxes -/
theorem lc_set_ec {c a : Nat → Int32} {i p : Nat} {b : lc_Bx} (e : ¬ c i = 4) : lc_Set c a (i + 1) p b ↔ ∃ w, w < 2 ^ lc_ec c i ∧ lc_pf c a w (i + 1) p = b := by
  unfold lc_Set
  rw [lc_ecs, if_neg e]
theorem lc_set0_top {c a : Nat → Int32} {i : Nat} (e : c i = 0) {b : lc_Bx} : lc_Set c a (i + 1) (lc_ht c i) b ↔ b = (0, a i, a i) := by
  rw [lc_set_ec (by rw [e]; exact lc_n04)]
  simp only [lc_pfs, e, lc_st0, if_pos]
  exact ⟨fun ⟨_, _, h⟩ => h.symm, fun h => ⟨0, Nat.two_pow_pos _, h.symm⟩⟩
theorem lc_set0_low {c a : Nat → Int32} {i p : Nat} (e : c i = 0) (hp : p < lc_ht c i) {b : lc_Bx} : lc_Set c a (i + 1) p b ↔ lc_Set c a i p b := by
  rw [lc_set_ec (by rw [e]; exact lc_n04)]
  simp only [lc_pfs, e, lc_st0]
  simp only [if_neg (show ¬ p = lc_ht c i from by omega)]
  exact Iff.rfl
theorem lc_set3_top {c a : Nat → Int32} {i p : Nat} (e : c i = 3) (hp : p + 1 = lc_ht c i) {b : lc_Bx} : lc_Set c a (i + 1) p b ↔ ∃ d, lc_Set c a i p d ∧ lc_id (a i) d = b := by
  rw [lc_set_ec (by rw [e]; exact lc_n34)]
  simp only [lc_pfs, e, lc_st3, hp, if_pos]
  exact ⟨fun ⟨w, hw, h⟩ => ⟨_, ⟨w, hw, rfl⟩, h⟩, fun ⟨d, ⟨w, hw, h⟩, h'⟩ => ⟨w, hw, by rw [h]; exact h'⟩⟩
theorem lc_set3_low {c a : Nat → Int32} {i p : Nat} (e : c i = 3) (hp : p + 1 < lc_ht c i) {b : lc_Bx} : lc_Set c a (i + 1) p b ↔ lc_Set c a i p b := by
  rw [lc_set_ec (by rw [e]; exact lc_n34)]
  simp only [lc_pfs, e, lc_st3]
  simp only [if_neg (show ¬ p + 1 = lc_ht c i from by omega)]
  exact Iff.rfl
theorem lc_set1_top {c a : Nat → Int32} {T i p : Nat} (V : lc_VT c a T) (hi : i ≤ T) (e : c i = 1) (hp : p + 2 = lc_ht c i) {b : lc_Bx} : lc_Set c a (i + 1) p b ↔ ∃ d f, lc_Set c a i p d ∧ lc_Set c a i (p + 1) f ∧ lc_jn 1 false d f = b := by
  rw [lc_set_ec (by rw [e]; exact lc_n14)]
  simp only [lc_pfs, e, lc_st1, hp, if_pos]
  constructor
  · intro ⟨w, hw, h⟩
    exact ⟨_, _, ⟨w, hw, rfl⟩, ⟨w, hw, rfl⟩, h⟩
  · intro ⟨d, f, hd, hf, h⟩
    obtain ⟨w, hw, e1, e2⟩ := lc_two V hi hp hd hf
    exact ⟨w, hw, by rw [e1, e2]; exact h⟩
theorem lc_set1_low {c a : Nat → Int32} {i p : Nat} (e : c i = 1) (hp : p + 2 < lc_ht c i) {b : lc_Bx} : lc_Set c a (i + 1) p b ↔ lc_Set c a i p b := by
  rw [lc_set_ec (by rw [e]; exact lc_n14)]
  simp only [lc_pfs, e, lc_st1]
  simp only [if_neg (show ¬ p + 2 = lc_ht c i from by omega)]
  exact Iff.rfl
theorem lc_set2_top {c a : Nat → Int32} {T i p : Nat} (V : lc_VT c a T) (hi : i ≤ T) (e : c i = 2) (hp : p + 2 = lc_ht c i) {b : lc_Bx} : lc_Set c a (i + 1) p b ↔ ∃ d f, lc_Set c a i p d ∧ lc_Set c a i (p + 1) f ∧ lc_jn 2 false d f = b := by
  rw [lc_set_ec (by rw [e]; exact lc_n24)]
  simp only [lc_pfs, e, lc_st2, hp, if_pos]
  constructor
  · intro ⟨w, hw, h⟩
    exact ⟨_, _, ⟨w, hw, rfl⟩, ⟨w, hw, rfl⟩, h⟩
  · intro ⟨d, f, hd, hf, h⟩
    obtain ⟨w, hw, e1, e2⟩ := lc_two V hi hp hd hf
    exact ⟨w, hw, by rw [e1, e2]; exact h⟩
theorem lc_set2_low {c a : Nat → Int32} {i p : Nat} (e : c i = 2) (hp : p + 2 < lc_ht c i) {b : lc_Bx} : lc_Set c a (i + 1) p b ↔ lc_Set c a i p b := by
  rw [lc_set_ec (by rw [e]; exact lc_n24)]
  simp only [lc_pfs, e, lc_st2]
  simp only [if_neg (show ¬ p + 2 = lc_ht c i from by omega)]
  exact Iff.rfl
theorem lc_set4 {c a : Nat → Int32} {T i : Nat} (V : lc_VT c a T) (hi : i ≤ T) (e : c i = 4) (p : Nat) {b : lc_Bx} : lc_Set c a (i + 1) p b ↔ ∃ w, w < 2 ^ lc_ec c i ∧ ∃ up : Bool, (if p + 2 = lc_ht c i then (if up = true then lc_pf c a w i (p + 1) else lc_pf c a w i p) else lc_pf c a w i p) = b := by
  unfold lc_Set
  rw [lc_ecs, e, if_pos rfl]
  simp only [lc_pfs, e, lc_st4]
  have ep : 2 ^ (lc_ec c i + 1) = 2 ^ lc_ec c i + 2 ^ lc_ec c i := by rw [Nat.pow_succ]; omega
  constructor
  · intro ⟨w, hw, h⟩
    refine ⟨w % 2 ^ lc_ec c i, Nat.mod_lt _ (Nat.two_pow_pos _), w.testBit (lc_ec c i), ?_⟩
    rw [lc_low V hi, lc_low V hi]
    exact h
  · intro ⟨w, hw, up, h⟩
    cases up with
    | false =>
      refine ⟨w, by omega, ?_⟩
      rw [Nat.testBit_lt_two_pow hw]
      exact h
    | true =>
      refine ⟨2 ^ lc_ec c i + w, by omega, ?_⟩
      rw [Nat.testBit_two_pow_add_eq, Nat.testBit_lt_two_pow hw, lc_hi V hi, lc_hi V hi]
      exact h
theorem lc_set4_top {c a : Nat → Int32} {T i p : Nat} (V : lc_VT c a T) (hi : i ≤ T) (e : c i = 4) (hp : p + 2 = lc_ht c i) {b : lc_Bx} : lc_Set c a (i + 1) p b ↔ lc_Set c a i p b ∨ lc_Set c a i (p + 1) b := by
  rw [lc_set4 V hi e p]
  simp only [hp, if_pos]
  constructor
  · intro ⟨w, hw, up, h⟩
    cases up with
    | false => exact Or.inl ⟨w, hw, h⟩
    | true => exact Or.inr ⟨w, hw, h⟩
  · rintro (⟨w, hw, h⟩ | ⟨w, hw, h⟩)
    · exact ⟨w, hw, false, h⟩
    · exact ⟨w, hw, true, h⟩
theorem lc_set4_low {c a : Nat → Int32} {T i p : Nat} (V : lc_VT c a T) (hi : i ≤ T) (e : c i = 4) (hp : p + 2 < lc_ht c i) {b : lc_Bx} : lc_Set c a (i + 1) p b ↔ lc_Set c a i p b := by
  rw [lc_set4 V hi e p]
  simp only [if_neg (show ¬ p + 2 = lc_ht c i from by omega)]
  exact ⟨fun ⟨w, hw, _, h⟩ => ⟨w, hw, h⟩, fun ⟨w, hw, h⟩ => ⟨w, hw, false, h⟩⟩
/-! bounds -/
def lc_sm (f : Nat → Nat) : Nat → Nat
  | 0 => 0
  | n + 1 => lc_sm f n + f n
theorem lc_sm_cg {f g : Nat → Nat} : ∀ n, (∀ p, p < n → f p = g p) → lc_sm f n = lc_sm g n := by
  intro n
  induction n with
  | zero => intro _; rfl
  | succ n ih => intro h; show lc_sm f n + f n = lc_sm g n + g n; rw [ih (fun p hp => h p (by omega)), h n (by omega)]
theorem lc_sm_le {f : Nat → Nat} : ∀ n p, p < n → f p ≤ lc_sm f n := by
  intro n
  induction n with
  | zero => intro p hp; omega
  | succ n ih =>
    intro p hp
    show f p ≤ lc_sm f n + f n
    by_cases z : p = n
    · rw [z]; omega
    · have := ih p (by omega); omega
def lc_un (f : Nat → Nat) (k x : Nat) : Nat → Nat := fun j => if j = k then x else f j
theorem lc_un_s {f : Nat → Nat} {k x : Nat} : lc_un f k x k = x := if_pos rfl
theorem lc_un_n {f : Nat → Nat} {k x j : Nat} (h : j ≠ k) : lc_un f k x j = f j := if_neg h
theorem lc_sm_un {f : Nat → Nat} {k x : Nat} : lc_sm (lc_un f k x) (k + 1) = lc_sm f k + x := by
  show lc_sm (lc_un f k x) k + lc_un f k x k = _
  rw [lc_un_s, lc_sm_cg (g := f) k (fun p hp => lc_un_n (by omega))]
theorem lc_sm_2 {f : Nat → Nat} {k : Nat} : lc_sm f (k + 2) = lc_sm f k + f k + f (k + 1) := rfl
theorem lc_sm_1 {f : Nat → Nat} {k : Nat} : lc_sm f (k + 1) = lc_sm f k + f k := rfl
theorem lc_mx {a b : Nat} (ha : a < 2 ^ 31) (hb : b < 2 ^ 31) : (if nI a ≤ nI b then nI b else nI a) = nI (if a ≤ b then b else a) := by
  by_cases z : a ≤ b
  · rw [if_pos z, if_pos ((nI_leI ha hb).mpr z)]
  · rw [if_neg z, if_neg (fun y => z ((nI_leI ha hb).mp y))]
/-- one stack within its bounds -/
def lc_BD (f : Nat → lc_Bx) (h i : Nat) : Prop := ∃ e v l : Nat → Nat, (∀ p, p < h → f p = (nI (e p), nI (v p), nI (l p)) ∧ l p ≤ v p) ∧ lc_sm e h ≤ i ∧ lc_sm v h ≤ 40 * i
theorem lc_bd {c a : Nat → Int32} {T w : Nat} (V : lc_VT c a T) (hT : T ≤ 48) : ∀ i, i ≤ T → lc_BD (lc_pf c a w i) (lc_ht c i) i := by
  intro i
  induction i with
  | zero => intro _; exact ⟨fun _ => 0, fun _ => 0, fun _ => 0, fun p hp => absurd hp (Nat.not_lt_zero p), Nat.le_refl _, Nat.zero_le _⟩
  | succ i ih =>
    intro hi
    obtain ⟨e, v, l, hb, he, hv⟩ := ih (by omega)
    show lc_BD (lc_st (c i) (a i) (w.testBit (lc_ec c i)) (lc_ht c i) (lc_pf c a w i)) (lc_hs (c i) (lc_ht c i)) (i + 1)
    have Vi := V i (by omega)
    generalize lc_ht c i = h at hb he hv Vi ⊢
    generalize lc_pf c a w i = f at hb ⊢
    generalize w.testBit (lc_ec c i) = up
    rcases Vi with ⟨ex, ⟨m, hm, en⟩, _⟩ | ⟨ex, ⟨m, hm, en⟩, h1⟩ | ⟨ex, h2⟩ | ⟨ex, h2⟩ | ⟨ex, h2, _⟩
    · rw [ex, en, lc_hs0]
      refine ⟨lc_un e h 0, lc_un v h m, lc_un l h m, fun p hp => ?_, ?_, ?_⟩
      · rw [lc_st0]
        by_cases z : p = h
        · subst z
          rw [if_pos rfl, lc_un_s, lc_un_s, lc_un_s]; exact ⟨rfl, Nat.le_refl _⟩
        · rw [if_neg z, lc_un_n z, lc_un_n z, lc_un_n z]; exact hb p (by omega)
      · rw [lc_sm_un]; omega
      · rw [lc_sm_un]; omega
    · obtain ⟨k, rfl⟩ : ∃ k, h = k + 1 := ⟨h - 1, by omega⟩
      rw [ex, en, lc_hs3]
      rw [lc_sm_1] at he hv
      refine ⟨e, lc_un v k (v k + m), lc_un l k (l k + m), fun p hp => ?_, ?_, ?_⟩
      · rw [lc_st3]
        by_cases z : p = k
        · subst z
          obtain ⟨h3, h4⟩ := hb p (by omega)
          rw [if_pos rfl, lc_un_s, lc_un_s, h3]
          refine ⟨?_, by omega⟩
          show (nI (e p), nI (v p) + nI m, nI (l p) + nI m) = _
          rw [nI_add, nI_add]
        · rw [if_neg (by omega), lc_un_n z, lc_un_n z]; exact hb p (by omega)
      · rw [lc_sm_1]; omega
      · rw [lc_sm_un]; omega
    · obtain ⟨k, rfl⟩ : ∃ k, h = k + 2 := ⟨h - 2, by omega⟩
      rw [ex, lc_hs1, show k + 2 - 1 = k + 1 from rfl]
      rw [lc_sm_2] at he hv
      obtain ⟨h3, h4⟩ := hb k (by omega)
      obtain ⟨h5, h6⟩ := hb (k + 1) (by omega)
      refine ⟨lc_un e k (e k + e (k + 1)), lc_un v k (if v k ≤ l k + v (k + 1) then l k + v (k + 1) else v k), lc_un l k (l k + l (k + 1)), fun p hp => ?_, ?_, ?_⟩
      · rw [lc_st1]
        by_cases z : p = k
        · subst z
          rw [if_pos rfl, lc_un_s, lc_un_s, lc_un_s, h3, h5, lc_jn, if_pos rfl]
          refine ⟨?_, ?_⟩
          · show (nI (e p) + nI (e (p + 1)), (if nI (v p) ≤ nI (l p) + nI (v (p + 1)) then nI (l p) + nI (v (p + 1)) else nI (v p)), nI (l p) + nI (l (p + 1))) = _
            rw [nI_add, nI_add, nI_add, lc_mx (by omega) (by omega)]
          · by_cases y : v p ≤ l p + v (p + 1)
            · rw [if_pos y]; omega
            · rw [if_neg y]; omega
        · rw [if_neg (by omega), lc_un_n z, lc_un_n z, lc_un_n z]; exact hb p (by omega)
      · rw [lc_sm_un]; omega
      · rw [lc_sm_un]
        by_cases y : v k ≤ l k + v (k + 1)
        · rw [if_pos y]; omega
        · rw [if_neg y]; omega
    · obtain ⟨k, rfl⟩ : ∃ k, h = k + 2 := ⟨h - 2, by omega⟩
      rw [ex, lc_hs2, show k + 2 - 1 = k + 1 from rfl]
      rw [lc_sm_2] at he hv
      obtain ⟨h3, h4⟩ := hb k (by omega)
      obtain ⟨h5, h6⟩ := hb (k + 1) (by omega)
      refine ⟨lc_un e k (e k + (e (k + 1) + 1)), lc_un v k (if v k ≤ v (k + 1) then v (k + 1) else v k), lc_un l k (l (k + 1)), fun p hp => ?_, ?_, ?_⟩
      · rw [lc_st2]
        by_cases z : p = k
        · subst z
          rw [if_pos rfl, lc_un_s, lc_un_s, lc_un_s, h3, h5, lc_jn, if_neg lc_n21, if_pos rfl]
          refine ⟨?_, ?_⟩
          · show (nI (e p) + (nI (e (p + 1)) + 1), (if nI (v p) ≤ nI (v (p + 1)) then nI (v (p + 1)) else nI (v p)), nI (l (p + 1))) = _
            rw [nI_1, nI_add, lc_mx (by omega) (by omega)]
          · by_cases y : v p ≤ v (p + 1)
            · rw [if_pos y]; omega
            · rw [if_neg y]; omega
        · rw [if_neg (by omega), lc_un_n z, lc_un_n z, lc_un_n z]; exact hb p (by omega)
      · rw [lc_sm_un]; omega
      · rw [lc_sm_un]
        by_cases y : v k ≤ v (k + 1)
        · rw [if_pos y]; omega
        · rw [if_neg y]; omega
    · obtain ⟨k, rfl⟩ : ∃ k, h = k + 2 := ⟨h - 2, by omega⟩
      rw [ex, lc_hs4, show k + 2 - 1 = k + 1 from rfl]
      rw [lc_sm_2] at he hv
      cases up with
      | false =>
        refine ⟨e, v, l, fun p hp => ?_, ?_, ?_⟩
        · rw [lc_st4]
          have y : ¬ false = true := by decide
          rw [if_neg y, ite_self]
          exact hb p (by omega)
        · rw [lc_sm_1]; omega
        · rw [lc_sm_1]; omega
      | true =>
        refine ⟨lc_un e k (e (k + 1)), lc_un v k (v (k + 1)), lc_un l k (l (k + 1)), fun p hp => ?_, ?_, ?_⟩
        · rw [lc_st4, if_pos rfl]
          by_cases z : p = k
          · subst z
            rw [if_pos rfl, lc_un_s, lc_un_s, lc_un_s]
            exact hb _ (by omega)
          · rw [if_neg (by omega), lc_un_n z, lc_un_n z, lc_un_n z]; exact hb p (by omega)
        · rw [lc_sm_un]; omega
        · rw [lc_sm_un]; omega
/-- a box within its bounds -/
def lc_GB (b : lc_Bx) : Prop := ∃ e v l : Nat, e ≤ 48 ∧ v ≤ 1920 ∧ l ≤ 1920 ∧ b = (nI e, nI v, nI l)
theorem lc_gb {c a : Nat → Int32} {T p : Nat} (V : lc_VT c a T) (hT : T ≤ 48) (hp : p < lc_ht c T) {b : lc_Bx} (hb : lc_Set c a T p b) : lc_GB b := by
  obtain ⟨w, _, rfl⟩ := hb
  obtain ⟨e, v, l, h, he, hv⟩ := lc_bd (w := w) V hT T (Nat.le_refl _)
  obtain ⟨h1, h2⟩ := h p hp
  have := lc_sm_le (f := e) _ p hp
  have := lc_sm_le (f := v) _ p hp
  exact ⟨e p, v p, l p, by omega, by omega, by omega, h1⟩
end
section
/-! the component's places: boxes in cells p * 64 .. -/
def lc_bx (L W X : Nat → Int32) (j : Nat) : lc_Bx := (L j, W j, X j)
def lc_PL (L W X C : Nat → Int32) (p n : Nat) (P : lc_Bx → Prop) : Prop :=
  n ≤ 64 ∧ C p = nI n ∧ (∀ i j, i < n → j < n → lc_bx L W X (p * 64 + i) = lc_bx L W X (p * 64 + j) → i = j) ∧ (∀ b, P b ↔ ∃ i, i < n ∧ lc_bx L W X (p * 64 + i) = b)
def lc_FR (p : Nat) (L W X C L' W' X' C' : Nat → Int32) : Prop :=
  (∀ j, (j < p * 64 ∨ p * 64 + 64 ≤ j) → lc_bx L' W' X' j = lc_bx L W X j) ∧ ∀ q, q ≠ p → C' q = C q
theorem lc_FR_r {p : Nat} {L W X C : Nat → Int32} : lc_FR p L W X C L W X C := ⟨fun _ _ => rfl, fun _ _ => rfl⟩
theorem lc_FR_t {p : Nat} {L W X C L' W' X' C' L2 W2 X2 C2 : Nat → Int32} (h : lc_FR p L W X C L' W' X' C') (h' : lc_FR p L' W' X' C' L2 W2 X2 C2) : lc_FR p L W X C L2 W2 X2 C2 :=
  ⟨fun j hj => (h'.1 j hj).trans (h.1 j hj), fun q hq => (h'.2 q hq).trans (h.2 q hq)⟩
theorem lc_PL_i {L W X C : Nat → Int32} {p n : Nat} {P P' : lc_Bx → Prop} (h : lc_PL L W X C p n P) (e : ∀ b, P' b ↔ P b) : lc_PL L W X C p n P' :=
  ⟨h.1, h.2.1, h.2.2.1, fun b => (e b).trans (h.2.2.2 b)⟩
theorem lc_PL_e {L W X C L' W' X' C' : Nat → Int32} {p n : Nat} {P : lc_Bx → Prop} (h : lc_PL L W X C p n P) (e : ∀ i, i < 64 → lc_bx L' W' X' (p * 64 + i) = lc_bx L W X (p * 64 + i)) (hC : C' p = C p) : lc_PL L' W' X' C' p n P := by
  obtain ⟨h1, h2, h3, h4⟩ := h
  refine ⟨h1, hC.trans h2, fun i j hi hj z => h3 i j hi hj ?_, fun b => ?_⟩
  · rw [e i (by omega), e j (by omega)] at z; exact z
  · rw [h4 b]
    constructor
    · intro ⟨i, hi, z⟩; exact ⟨i, hi, (e i (by omega)).trans z⟩
    · intro ⟨i, hi, z⟩; exact ⟨i, hi, (e i (by omega)).symm.trans z⟩
theorem lc_PL_f {p q n : Nat} {L W X C L' W' X' C' : Nat → Int32} {P : lc_Bx → Prop} (h : lc_FR p L W X C L' W' X' C') (hq : q ≠ p) (hP : lc_PL L W X C q n P) : lc_PL L' W' X' C' q n P :=
  lc_PL_e hP (fun i hi => h.1 _ (by omega)) (h.2 q hq)
theorem lc_PL_0 {L W X C : Nat → Int32} {p : Nat} : lc_PL L W X (upd C p 0) p 0 (fun _ => False) :=
  ⟨by omega, pk_us, fun i j hi => absurd hi (Nat.not_lt_zero i), fun b => ⟨fun z => z.elim, fun ⟨i, hi, _⟩ => absurd hi (Nat.not_lt_zero i)⟩⟩
theorem lc_FR_0 {L W X C : Nat → Int32} {p : Nat} {x : Int32} : lc_FR p L W X C L W X (upd C p x) := ⟨fun _ _ => rfl, fun _ hq => pk_un hq⟩
theorem lc_cap {L W X C : Nat → Int32} {p n N : Nat} {P : lc_Bx → Prop} (h : lc_PL L W X C p n P) (F : Nat → lc_Bx) (hN : N ≤ 64) (hP : ∀ b, P b → ∃ w, w < N ∧ F w = b) {b : lc_Bx} (hb : ∃ w, w < N ∧ F w = b) (nb : ¬ P b) : n < 64 := by
  obtain ⟨h1, h2, h3, h4⟩ := h
  have nb' : ∀ i, i < n → lc_bx L W X (p * 64 + i) ≠ b := fun i hi z => nb ((h4 b).mpr ⟨i, hi, z⟩)
  have := lc_ph (fun i w => (if i = n then b else lc_bx L W X (p * 64 + i)) = F w) (n + 1) N (fun i hi => by
    by_cases z : i = n
    · obtain ⟨w, hw, e⟩ := hb
      exact ⟨w, hw, by rw [if_pos z, e]⟩
    · obtain ⟨w, hw, e⟩ := hP _ ((h4 _).mpr ⟨i, by omega, rfl⟩)
      exact ⟨w, hw, by rw [if_neg z, e]⟩) (fun i i' w hi hi' e e' => by
    by_cases z : i = n
    · by_cases z' : i' = n
      · omega
      · rw [if_pos z] at e; rw [if_neg z'] at e'
        exact absurd (e'.trans e.symm) (nb' i' (by omega))
    · by_cases z' : i' = n
      · rw [if_neg z] at e; rw [if_pos z'] at e'
        exact absurd (e.trans e'.symm) (nb' i (by omega))
      · rw [if_neg z] at e; rw [if_neg z'] at e'
        exact h3 i i' (by omega) (by omega) (e.trans e'.symm))
  omega
theorem lc_addBox_l {post : SX → Prop} {D K E : Int32} {L W X C : Nat → Int32} {p n : Nat} {b : lc_Bx} (hp : p ≤ 10) (hn : n ≤ 64) (hC : C p = nI n) : ∀ d i, i + d = n → ((∃ j, i ≤ j ∧ j < n ∧ lc_bx L W X (p * 64 + j) = b) → post (D, K, E, L, W, X, C)) → ((∀ j, i ≤ j → j < n → lc_bx L W X (p * 64 + j) ≠ b) → n < 64 ∧ post (D, K, E, upd L (p * 64 + n) b.1, upd W (p * 64 + n) b.2.1, upd X (p * 64 + n) b.2.2, upd C p (nI (n + 1)))) → wX_addBox_21 post (nI p) b.1 b.2.1 b.2.2 (nI (p * 64 + n)) D K E L W X C (d + 1) (nI (p * 64 + i)) := by
  have c1 : (nI p).toNatClampNeg = p := nI_clamp (by omega)
  intro d
  induction d with
  | zero =>
    intro i hi _ h2
    obtain rfl : i = n := by omega
    obtain ⟨h3, h4⟩ := h2 (fun j hj hj' => by omega)
    have c2 : (nI (p * 64 + i)).toNatClampNeg = p * 64 + i := nI_clamp (by omega)
    have v1 : vp_in (nI p) 11 := vp_in_nI (by omega) (by omega)
    have v2 : vp_in (nI (p * 64 + i)) 704 := vp_in_nI (by omega) (by omega)
    simp only [wX_addBox_21, c1, c2, hC]
    exact br_t (nI_le (Nat.le_refl _) (by omega)) ⟨v1, br_f (nI_ge (b := 64) h3 (by decide)) ⟨v2, nm_e ⟨v2, nm_e ⟨v2, nm_e ⟨v1, v1, nm_r (by rw [nI_1]) h4⟩⟩⟩⟩⟩
  | succ d ih =>
    intro i hi h1 h2
    have c2 : (nI (p * 64 + i)).toNatClampNeg = p * 64 + i := nI_clamp (by omega)
    have v2 : vp_in (nI (p * 64 + i)) 704 := vp_in_nI (by omega) (by omega)
    have go : lc_bx L W X (p * 64 + i) ≠ b → ∀ y, y = nI (p * 64 + i) + 1 → wX_addBox_21 post (nI p) b.1 b.2.1 b.2.2 (nI (p * 64 + n)) D K E L W X C (d + 1) y := by
      intro z
      refine nm_r (nI_1 _) (ih (i + 1) (by omega) (fun ⟨j, h3, h4, h5⟩ => h1 ⟨j, by omega, h4, h5⟩) (fun h3 => h2 (fun j h4 h5 => ?_)))
      by_cases y : j = i
      · rw [y]; exact z
      · exact h3 j (by omega) h5
    rw [wX_addBox_21]; dsimp only; rw [c2]
    refine br_f (nI_ge (by omega) (by omega)) ⟨v2, br_c (fun z1 => ⟨v2, br_c (fun z2 => ⟨v2, br_c (fun z3 => h1 ⟨i, Nat.le_refl _, by omega, ?_⟩) (fun z3 => go (fun z => z3 ?_))⟩) (fun z2 => go (fun z => z2 ?_))⟩) (fun z1 => go (fun z => z1 ?_))⟩
    · show (L _, W _, X _) = b
      rw [z1, z2, z3]
    · rw [← z]; rfl
    · rw [← z]; rfl
    · rw [← z]; rfl
theorem lc_addBox {post : SX → Prop} {D K E : Int32} {L W X C : Nat → Int32} {p n : Nat} {P : lc_Bx → Prop} (b : lc_Bx) (hp : p ≤ 10) (hP : lc_PL L W X C p n P) (cap : ¬ P b → n < 64) (h : ∀ L' W' X' C' n', lc_PL L' W' X' C' p n' (fun d => P d ∨ d = b) → lc_FR p L W X C L' W' X' C' → post (D, K, E, L', W', X', C')) : wpX_addBox post (D, K, E, L, W, X, C) (nI p) b.1 b.2.1 b.2.2 := by
  obtain ⟨h1, h2, h3, h4⟩ := hP
  have c1 : (nI p).toNatClampNeg = p := nI_clamp (by omega)
  have M : ∀ y : Int32, y = nI p * 64 → y = nI (p * 64) := fun y hy => hy.trans (pk_mul p 64)
  unfold wpX_addBox
  dsimp only
  intro x5 e5
  rw [M x5 e5, c1, h2]
  refine ⟨vp_in_nI (by omega) (by omega), nm_r (nI_add _ _) ⟨n + 1, ?_⟩⟩
  have := lc_addBox_l (post := post) (D := D) (K := K) (E := E) (L := L) (W := W) (X := X) (C := C) (b := b) hp h1 h2 n 0 (by omega) (fun ⟨j, _, hj, e⟩ => by
    refine h _ _ _ _ n ⟨h1, h2, h3, fun d => ?_⟩ lc_FR_r
    rw [← h4 d]
    exact ⟨fun z => z.elim id (fun z => by rw [z]; exact (h4 b).mpr ⟨j, hj, e⟩), Or.inl⟩) (fun hnew => by
    have nb : ¬ P b := fun z => by
      obtain ⟨i, hi, e⟩ := (h4 b).mp z
      exact hnew i (by omega) hi e
    have hn := cap nb
    have lo : ∀ j, j ≠ p * 64 + n → lc_bx (upd L (p * 64 + n) b.1) (upd W (p * 64 + n) b.2.1) (upd X (p * 64 + n) b.2.2) j = lc_bx L W X j := fun j hj => by
      unfold lc_bx; rw [pk_un hj, pk_un hj, pk_un hj]
    have at_ : lc_bx (upd L (p * 64 + n) b.1) (upd W (p * 64 + n) b.2.1) (upd X (p * 64 + n) b.2.2) (p * 64 + n) = b := by
      unfold lc_bx; rw [pk_us, pk_us, pk_us]
    refine ⟨hn, h _ _ _ _ (n + 1) ⟨by omega, pk_us, fun i j hi hj e => ?_, fun d => ?_⟩ ⟨fun j hj => lo j (by omega), fun q hq => pk_un hq⟩⟩
    · by_cases z : i = n
      · by_cases z' : j = n
        · omega
        · rw [z, at_, lo _ (by omega)] at e
          exact absurd e.symm (hnew j (by omega) (by omega))
      · by_cases z' : j = n
        · rw [z', at_, lo _ (by omega)] at e
          exact absurd e (hnew i (by omega) (by omega))
        · rw [lo _ (by omega), lo _ (by omega)] at e
          exact h3 i j (by omega) (by omega) e
    · constructor
      · rintro (z | z)
        · obtain ⟨i, hi, e⟩ := (h4 d).mp z
          exact ⟨i, by omega, by rw [lo _ (by omega)]; exact e⟩
        · exact ⟨n, by omega, by rw [at_, z]⟩
      · intro ⟨i, hi, e⟩
        by_cases z : i = n
        · rw [z, at_] at e; exact Or.inr e.symm
        · rw [lo _ (by omega)] at e
          exact Or.inl ((h4 d).mpr ⟨i, by omega, e⟩))
  exact this
theorem lc_addCells_l {post : SX → Prop} {D K E : Int32} {L0 W0 X0 C0 : Nat → Int32} {p s m N : Nat} {P : lc_Bx → Prop} (F : Nat → lc_Bx) (hp : p ≤ 10) (hs : s ≤ 10) (hne : s ≠ p) (hm : m ≤ 64) (hN : N ≤ 64) (hPF : ∀ b, P b → ∃ w, w < N ∧ F w = b) (hGF : ∀ j, j < m → ∃ w, w < N ∧ F w = lc_bx L0 W0 X0 (s * 64 + j)) (h : ∀ L' W' X' C' n', lc_PL L' W' X' C' p n' (fun b => P b ∨ ∃ j, j < m ∧ lc_bx L0 W0 X0 (s * 64 + j) = b) → lc_FR p L0 W0 X0 C0 L' W' X' C' → post (D, K, E, L', W', X', C')) : ∀ d i, i + d = m → ∀ L W X C n, lc_PL L W X C p n (fun b => P b ∨ ∃ j, j < i ∧ lc_bx L0 W0 X0 (s * 64 + j) = b) → lc_FR p L0 W0 X0 C0 L W X C → wX_addCells_3 post (nI p) (nI (s * 64 + m)) (d + 1) (nI (s * 64 + i)) D K E L W X C := by
  intro d
  induction d with
  | zero =>
    intro i hi L W X C n hP hF
    obtain rfl : i = m := by omega
    rw [wX_addCells_3]
    exact br_t (nI_le (Nat.le_refl _) (by omega)) (h _ _ _ _ _ hP hF)
  | succ d ih =>
    intro i hi L W X C n hP hF
    have c2 : (nI (s * 64 + i)).toNatClampNeg = s * 64 + i := nI_clamp (by omega)
    have v2 : vp_in (nI (s * 64 + i)) 704 := vp_in_nI (by omega) (by omega)
    have eb : lc_bx L W X (s * 64 + i) = lc_bx L0 W0 X0 (s * 64 + i) := hF.1 _ (by omega)
    rw [wX_addCells_3]; dsimp only; rw [c2]
    refine br_f (nI_ge (by omega) (by omega)) ⟨v2, v2, v2, ?_⟩
    refine lc_addBox (lc_bx L W X (s * 64 + i)) hp hP (fun nb => lc_cap hP F hN ?_ (by rw [eb]; exact hGF i (by omega)) nb) ?_
    · rintro b (z | ⟨j, hj, z⟩)
      · exact hPF b z
      · obtain ⟨w, hw, e⟩ := hGF j (by omega)
        exact ⟨w, hw, e.trans z⟩
    · intro L' W' X' C' n' hP' hF'
      refine nm_r (nI_1 _) (ih (i + 1) (by omega) L' W' X' C' n' (lc_PL_i hP' (fun b => ?_)) (lc_FR_t hF hF'))
      constructor
      · rintro (z | ⟨j, hj, z⟩)
        · exact Or.inl (Or.inl z)
        · by_cases y : j = i
          · right; rw [eb, ← y]; exact z.symm
          · exact Or.inl (Or.inr ⟨j, by omega, z⟩)
      · rintro ((z | ⟨j, hj, z⟩) | z)
        · exact Or.inl z
        · exact Or.inr ⟨j, by omega, z⟩
        · exact Or.inr ⟨i, by omega, by rw [z, eb]⟩
theorem lc_addCells {post : SX → Prop} {D K E : Int32} {L W X C : Nat → Int32} {p s n m N : Nat} {P : lc_Bx → Prop} (F : Nat → lc_Bx) (hp : p ≤ 10) (hs : s ≤ 10) (hne : s ≠ p) (hm : m ≤ 64) (hN : N ≤ 64) (hP : lc_PL L W X C p n P) (hPF : ∀ b, P b → ∃ w, w < N ∧ F w = b) (hGF : ∀ j, j < m → ∃ w, w < N ∧ F w = lc_bx L W X (s * 64 + j)) (h : ∀ L' W' X' C' n', lc_PL L' W' X' C' p n' (fun b => P b ∨ ∃ j, j < m ∧ lc_bx L W X (s * 64 + j) = b) → lc_FR p L W X C L' W' X' C' → post (D, K, E, L', W', X', C')) : wpX_addCells post (D, K, E, L, W, X, C) (nI p) (nI (s * 64)) (nI (s * 64 + m)) :=
  ⟨m + 1, lc_addCells_l F hp hs hne hm hN hPF hGF h m 0 (by omega) L W X C n (lc_PL_i hP (fun b => ⟨fun z => z.elim id (fun ⟨j, hj, _⟩ => absurd hj (Nat.not_lt_zero j)), Or.inl⟩)) lc_FR_r⟩
end
section
/-! the component's tokens -/
theorem lc_ok0 {n : Int32} {h e : Nat} (H : lc_ok 0 n h e) : (∃ m, m ≤ 40 ∧ n = nI m) ∧ h < 10 := by
  rcases H with ⟨_, h⟩ | ⟨z, _⟩ | ⟨z, _⟩ | ⟨z, _⟩ | ⟨z, _⟩
  · exact h
  all_goals exact absurd z (by decide)
theorem lc_ok3 {n : Int32} {h e : Nat} (H : lc_ok 3 n h e) : (∃ m, m ≤ 20 ∧ n = nI m) ∧ 1 ≤ h := by
  rcases H with ⟨z, _⟩ | ⟨_, h⟩ | ⟨z, _⟩ | ⟨z, _⟩ | ⟨z, _⟩
  · exact absurd z (by decide)
  · exact h
  all_goals exact absurd z (by decide)
theorem lc_ok1 {n : Int32} {h e : Nat} (H : lc_ok 1 n h e) : 2 ≤ h := by
  rcases H with ⟨z, _⟩ | ⟨z, _⟩ | ⟨_, h⟩ | ⟨z, _⟩ | ⟨z, _⟩
  · exact absurd z (by decide)
  · exact absurd z (by decide)
  · exact h
  all_goals exact absurd z (by decide)
theorem lc_ok2 {n : Int32} {h e : Nat} (H : lc_ok 2 n h e) : 2 ≤ h := by
  rcases H with ⟨z, _⟩ | ⟨z, _⟩ | ⟨z, _⟩ | ⟨_, h⟩ | ⟨z, _⟩
  · exact absurd z (by decide)
  · exact absurd z (by decide)
  · exact absurd z (by decide)
  · exact h
  · exact absurd z (by decide)
theorem lc_ok4 {n : Int32} {h e : Nat} (H : lc_ok 4 n h e) : 2 ≤ h ∧ e < 6 := by
  rcases H with ⟨z, _⟩ | ⟨z, _⟩ | ⟨z, _⟩ | ⟨z, _⟩ | ⟨_, h⟩
  · exact absurd z (by decide)
  · exact absurd z (by decide)
  · exact absurd z (by decide)
  · exact absurd z (by decide)
  · exact h
theorem lc_p6 {e : Nat} (h : e ≤ 6) : 2 ^ e ≤ 64 := Nat.pow_le_pow_right (by decide) h
def lc_R (c a : Nat → Int32) (T : Nat) (L W X C : Nat → Int32) : Prop := ∀ p, p < lc_ht c T → ∃ n, lc_PL L W X C p n (lc_Set c a T p)
theorem lc_tText {post : SX → Prop} {K E : Int32} {L W X C c a : Nat → Int32} {T : Nat} (V : lc_VT c a (T + 1)) (e : c T = 0) (R : lc_R c a T L W X C) (h : ∀ L' W' X' C', lc_R c a (T + 1) L' W' X' C' → post (nI (lc_ht c T + 1), K, E, L', W', X', C')) : wpX_putText post (nI (lc_ht c T), K, E, L, W, X, C) (a T) := by
  have Vi := V T (by omega)
  rw [e] at Vi
  obtain ⟨_, hh⟩ := lc_ok0 Vi
  have c1 : (nI (lc_ht c T)).toNatClampNeg = lc_ht c T := nI_clamp (by omega)
  unfold wpX_putText
  dsimp only
  rw [c1]
  refine ⟨vp_in_nI (by omega) (by omega), nm_e ?_⟩
  refine lc_addBox (p := lc_ht c T) (0, a T, a T) (by omega) lc_PL_0 (fun _ => by omega) (fun L' W' X' C' n' hP hF => nm_r (nI_1 _) (h L' W' X' C' (fun p hp => ?_)))
  rw [lc_hts, e, lc_hs0] at hp
  by_cases z : p = lc_ht c T
  · subst z
    exact ⟨n', lc_PL_i hP (fun b => (lc_set0_top e).trans ⟨Or.inr, fun y => y.elim False.elim id⟩)⟩
  · obtain ⟨n, hn⟩ := R p (by omega)
    exact ⟨n, lc_PL_i (lc_PL_f (lc_FR_t lc_FR_0 hF) z hn) (fun b => lc_set0_low e (by omega))⟩
theorem lc_indent_l {post : SX → Prop} {D K E m : Int32} {L W0 X0 C : Nat → Int32} {q n : Nat} (hq : q ≤ 10) (hn : n ≤ 64) (h : ∀ W' X', (∀ j, lc_bx L W' X' j = if q * 64 ≤ j ∧ j < q * 64 + n then lc_id m (lc_bx L W0 X0 j) else lc_bx L W0 X0 j) → post (D, K, E, L, W', X', C)) : ∀ d i, i + d = n → ∀ W X, (∀ j, lc_bx L W X j = if q * 64 ≤ j ∧ j < q * 64 + i then lc_id m (lc_bx L W0 X0 j) else lc_bx L W0 X0 j) → wX_indentTop_15 post m (nI (q * 64 + n)) D K E (d + 1) (nI (q * 64 + i)) L W X C := by
  intro d
  induction d with
  | zero =>
    intro i hi W X hI
    obtain rfl : i = n := by omega
    rw [wX_indentTop_15]
    exact br_t (nI_le (Nat.le_refl _) (by omega)) (h _ _ hI)
  | succ d ih =>
    intro i hi W X hI
    have c2 : (nI (q * 64 + i)).toNatClampNeg = q * 64 + i := nI_clamp (by omega)
    have v2 : vp_in (nI (q * 64 + i)) 704 := vp_in_nI (by omega) (by omega)
    rw [wX_indentTop_15]; dsimp only; rw [c2]
    refine br_f (nI_ge (by omega) (by omega)) ⟨v2, v2, nm_e ⟨v2, v2, nm_e (nm_r (nI_1 _) (ih (i + 1) (by omega) _ _ (fun j => ?_)))⟩⟩
    by_cases z : j = q * 64 + i
    · subst z
      rw [if_pos (by omega)]
      have := hI (q * 64 + i)
      rw [if_neg (by omega)] at this
      rw [← this]
      unfold lc_bx
      rw [pk_us, pk_us]
      rfl
    · have e : lc_bx L (upd W (q * 64 + i) (W (q * 64 + i) + m)) (upd X (q * 64 + i) (X (q * 64 + i) + m)) j = lc_bx L W X j := by
        unfold lc_bx; rw [pk_un z, pk_un z]
      rw [e, hI j]
      by_cases y : q * 64 ≤ j ∧ j < q * 64 + i
      · rw [if_pos y, if_pos (by omega)]
      · rw [if_neg y, if_neg (by omega)]
theorem lc_id_inj {m : Int32} {b d : lc_Bx} (h : lc_id m b = lc_id m d) : b = d := by
  obtain ⟨b1, b2, b3⟩ := b
  obtain ⟨d1, d2, d3⟩ := d
  unfold lc_id at h
  simp only [Prod.mk.injEq] at h ⊢
  exact ⟨h.1, (Int32.add_left_inj m).mp h.2.1, (Int32.add_left_inj m).mp h.2.2⟩
theorem lc_tIndent {post : SX → Prop} {K E : Int32} {L W X C c a : Nat → Int32} {T : Nat} (V : lc_VT c a (T + 1)) (e : c T = 3) (R : lc_R c a T L W X C) (h : ∀ L' W' X' C', lc_R c a (T + 1) L' W' X' C' → post (nI (lc_ht c T), K, E, L', W', X', C')) : wpX_indentTop post (nI (lc_ht c T), K, E, L, W, X, C) (a T) := by
  have Vi := V T (by omega)
  rw [e] at Vi
  obtain ⟨_, hh⟩ := lc_ok3 Vi
  have hl := (lc_lim V T (by omega)).1
  obtain ⟨k, hk⟩ : ∃ k, lc_ht c T = k + 1 := ⟨lc_ht c T - 1, by omega⟩
  obtain ⟨n, hn⟩ := R k (by omega)
  have c1 : (nI k).toNatClampNeg = k := nI_clamp (by omega)
  have e1 : nI (k + 1) - 1 - 0 = nI k := by rw [nI_pred, Int32.sub_zero]
  have e2 : nI k * 64 = nI (k * 64) := pk_mul k 64
  unfold wpX_indentTop wpX_firstCell wpX_endCell
  dsimp only
  rw [hk, e1]
  intro x2 ex2
  rw [ex2, c1, hn.2.1, e2, nI_add]
  refine ⟨vp_in_nI (by omega) (by omega), n + 1, ?_⟩
  refine lc_indent_l (q := k) (n := n) (by omega) hn.1 (fun W' X' hI => ?_) n 0 (by omega) W X (fun j => by rw [if_neg (by omega)])
  rw [← hk]
  refine h _ _ _ _ (fun p hp => ?_)
  rw [lc_hts, e, lc_hs3] at hp
  by_cases z : p = k
  · subst z
    obtain ⟨h1, h2, h3, h4⟩ := hn
    have A : ∀ i, i < n → lc_bx L W' X' (p * 64 + i) = lc_id (a T) (lc_bx L W X (p * 64 + i)) := fun i hi => by
      rw [hI, if_pos (by omega)]
    refine ⟨n, h1, h2, fun i j hi hj y => h3 i j hi hj ?_, fun b => ?_⟩
    · rw [A i hi, A j hj] at y; exact lc_id_inj y
    · rw [lc_set3_top e (by omega)]
      constructor
      · intro ⟨d, hd, y⟩
        obtain ⟨i, hi, y'⟩ := (h4 d).mp hd
        exact ⟨i, hi, by rw [A i hi, y']; exact y⟩
      · intro ⟨i, hi, y⟩
        exact ⟨_, (h4 _).mpr ⟨i, hi, rfl⟩, by rw [← A i hi]; exact y⟩
  · obtain ⟨m, hm⟩ := R p (by omega)
    exact ⟨m, lc_PL_i (lc_PL_e hm (fun i hi => by rw [hI, if_neg (by omega)]) rfl) (fun b => lc_set3_low e (by omega))⟩
theorem lc_tEither {post : SX → Prop} {K : Int32} {L W X C c a : Nat → Int32} {T : Nat} (V : lc_VT c a (T + 1)) (e : c T = 4) (R : lc_R c a T L W X C) (h : ∀ L' W' X' C', lc_R c a (T + 1) L' W' X' C' → post (nI (lc_ht c T - 1), K, nI (lc_ec c T + 1), L', W', X', C')) : wpX_joinTopTwo post (nI (lc_ht c T), K, nI (lc_ec c T), L, W, X, C) := by
  have Vi := V T (by omega)
  rw [e] at Vi
  obtain ⟨hh, he⟩ := lc_ok4 Vi
  have hl := (lc_lim V T (by omega)).1
  obtain ⟨k, hk⟩ : ∃ k, lc_ht c T = k + 2 := ⟨lc_ht c T - 2, by omega⟩
  obtain ⟨n, hn⟩ := R k (by omega)
  obtain ⟨m, hm⟩ := R (k + 1) (by omega)
  have c1 : (nI (k + 1)).toNatClampNeg = k + 1 := nI_clamp (by omega)
  have e1 : nI (k + 2) - 1 - 0 = nI (k + 1) := by rw [nI_pred, Int32.sub_zero]
  have e2 : nI (k + 1) * 64 = nI ((k + 1) * 64) := pk_mul (k + 1) 64
  have e3 : nI (k + 2) - 2 = nI k := pk_sub (a := k + 2) (b := 2) (by omega)
  have V' : lc_VT c a T := fun i hi => V i (by omega)
  have top : ∀ b, lc_Set c a (T + 1) k b ↔ lc_Set c a T k b ∨ lc_Set c a T (k + 1) b := fun b => lc_set4_top V' (Nat.le_refl _) e (by omega)
  have hN : 2 ^ lc_ec c (T + 1) ≤ 64 := lc_p6 (lc_lim V (T + 1) (Nat.le_refl _)).2
  unfold wpX_joinTopTwo wpX_firstCell wpX_endCell
  dsimp only
  rw [hk, e1, e3]
  intro x2 ex2
  rw [ex2, c1, hm.2.1, e2, nI_add]
  refine ⟨vp_in_nI (by omega) (by omega), ?_⟩
  refine lc_addCells (fun w => lc_pf c a w (T + 1) k) (p := k) (s := k + 1) (by omega) (by omega) (by omega) hm.1 hN hn (fun b hb => (top b).mpr (Or.inl hb)) (fun j hj => (top _).mpr (Or.inr ((hm.2.2.2 _).mpr ⟨j, hj, rfl⟩))) (fun L' W' X' C' n' hP hF => nm_r (nI_pred (k + 1)) (nm_r (nI_1 _) ?_))
  have := h L' W' X' C' (fun p hp => ?_)
  · rw [hk] at this; exact this
  · rw [lc_hts, e, lc_hs4] at hp
    by_cases z : p = k
    · subst z
      refine ⟨n', lc_PL_i hP (fun b => ?_)⟩
      rw [top b, hm.2.2.2 b]
    · obtain ⟨r, hr⟩ := R p (by omega)
      exact ⟨r, lc_PL_i (lc_PL_f hF z hr) (fun b => lc_set4_low V' (Nat.le_refl _) e (by omega))⟩
theorem lc_beside {post : SX → Prop} {D K E : Int32} {L W X C : Nat → Int32} {i1 i2 n : Nat} {P : lc_Bx → Prop} (h1 : i1 < 704) (h2 : i2 < 704) (hP : lc_PL L W X C 10 n P) (cap : ¬ P (lc_jn 1 false (lc_bx L W X i1) (lc_bx L W X i2)) → n < 64) (h : ∀ L' W' X' C' n', lc_PL L' W' X' C' 10 n' (fun d => P d ∨ d = lc_jn 1 false (lc_bx L W X i1) (lc_bx L W X i2)) → lc_FR 10 L W X C L' W' X' C' → post (D, K, E, L', W', X', C')) : wpX_addBeside post (D, K, E, L, W, X, C) (nI i1) (nI i2) := by
  have c1 : (nI i1).toNatClampNeg = i1 := nI_clamp (by omega)
  have c2 : (nI i2).toNatClampNeg = i2 := nI_clamp (by omega)
  have v1 : vp_in (nI i1) 704 := vp_in_nI (by omega) (by omega)
  have v2 : vp_in (nI i2) 704 := vp_in_nI (by omega) (by omega)
  have ej : lc_jn 1 false (lc_bx L W X i1) (lc_bx L W X i2) = (L i1 + L i2, (if W i1 ≤ X i1 + W i2 then X i1 + W i2 else W i1), X i1 + X i2) := if_pos rfl
  rw [ej] at cap
  simp only [ej] at h
  unfold wpX_addBeside wX_addBeside_51
  dsimp only
  rw [c1, c2]
  refine ⟨v1, v2, nm_e ⟨v1, v2, nm_e ⟨v1, br_c (fun z => ⟨v1, v2, ?_⟩) (fun z => ⟨v1, v1, v2, ?_⟩)⟩⟩⟩
  · simp only [if_pos z] at cap h
    exact lc_addBox (p := 10) (L i1 + L i2, X i1 + W i2, X i1 + X i2) (by omega) hP cap h
  · simp only [if_neg z] at cap h
    exact lc_addBox (p := 10) (L i1 + L i2, W i1, X i1 + X i2) (by omega) hP cap h
theorem lc_below {post : SX → Prop} {D K E : Int32} {L W X C : Nat → Int32} {i1 i2 n : Nat} {P : lc_Bx → Prop} (h1 : i1 < 704) (h2 : i2 < 704) (hP : lc_PL L W X C 10 n P) (cap : ¬ P (lc_jn 2 false (lc_bx L W X i1) (lc_bx L W X i2)) → n < 64) (h : ∀ L' W' X' C' n', lc_PL L' W' X' C' 10 n' (fun d => P d ∨ d = lc_jn 2 false (lc_bx L W X i1) (lc_bx L W X i2)) → lc_FR 10 L W X C L' W' X' C' → post (D, K, E, L', W', X', C')) : wpX_addBelow post (D, K, E, L, W, X, C) (nI i1) (nI i2) := by
  have c1 : (nI i1).toNatClampNeg = i1 := nI_clamp (by omega)
  have c2 : (nI i2).toNatClampNeg = i2 := nI_clamp (by omega)
  have v1 : vp_in (nI i1) 704 := vp_in_nI (by omega) (by omega)
  have v2 : vp_in (nI i2) 704 := vp_in_nI (by omega) (by omega)
  have ej : lc_jn 2 false (lc_bx L W X i1) (lc_bx L W X i2) = (L i1 + L i2 + 1, (if W i1 ≤ W i2 then W i2 else W i1), X i2) := by
    rw [lc_jn, if_neg lc_n21, if_pos rfl, Int32.add_assoc]; rfl
  rw [ej] at cap
  simp only [ej] at h
  unfold wpX_addBelow wX_addBelow_46
  dsimp only
  rw [c1, c2]
  refine ⟨v1, v2, nm_e ⟨v1, v2, br_c (fun z => ⟨v2, v2, ?_⟩) (fun z => ⟨v1, v2, ?_⟩)⟩⟩
  · simp only [if_pos z] at cap h
    exact lc_addBox (p := 10) (L i1 + L i2 + 1, W i2, X i2) (by omega) hP cap h
  · simp only [if_neg z] at cap h
    exact lc_addBox (p := 10) (L i1 + L i2 + 1, W i1, X i2) (by omega) hP cap h
theorem lc_comb {post : SX → Prop} {D K E x : Int32} {L W X C : Nat → Int32} {i1 i2 n : Nat} {P : lc_Bx → Prop} (hx : x = 1 ∨ x = 2) (h1 : i1 < 704) (h2 : i2 < 704) (hP : lc_PL L W X C 10 n P) (cap : ¬ P (lc_jn x false (lc_bx L W X i1) (lc_bx L W X i2)) → n < 64) (h : ∀ L' W' X' C' n', lc_PL L' W' X' C' 10 n' (fun d => P d ∨ d = lc_jn x false (lc_bx L W X i1) (lc_bx L W X i2)) → lc_FR 10 L W X C L' W' X' C' → post (D, K, E, L', W', X', C')) : (x = 1 → wpX_addBeside post (D, K, E, L, W, X, C) (nI i1) (nI i2)) ∧ (¬ x = 1 → wpX_addBelow post (D, K, E, L, W, X, C) (nI i1) (nI i2)) := by
  rcases hx with rfl | rfl
  · exact br_t rfl (lc_beside h1 h2 hP cap h)
  · exact br_f lc_n21 (lc_below h1 h2 hP cap h)
theorem lc_in {post : SX → Prop} {J : Int32 → Int32 → Int32 → Int32 → (Nat → Int32) → (Nat → Int32) → (Nat → Int32) → (Nat → Int32) → Prop} {D K E x x3 x4 : Int32} {L0 W0 X0 C0 : Nat → Int32} {q g m N : Nat} {P : lc_Bx → Prop} (F : Nat → lc_Bx) (hx : x = 1 ∨ x = 2) (hq : q < 640) (hg : g < 10) (hm : m ≤ 64) (hN : N ≤ 64) (hPF : ∀ b, P b → ∃ w, w < N ∧ F w = b) (hGF : ∀ j, j < m → ∃ w, w < N ∧ F w = lc_jn x false (lc_bx L0 W0 X0 q) (lc_bx L0 W0 X0 (g * 64 + j))) (h : ∀ L' W' X' C' n', lc_PL L' W' X' C' 10 n' (fun b => P b ∨ ∃ j, j < m ∧ lc_jn x false (lc_bx L0 W0 X0 q) (lc_bx L0 W0 X0 (g * 64 + j)) = b) → lc_FR 10 L0 W0 X0 C0 L' W' X' C' → J (nI (q + 1)) D K E L' W' X' C') : ∀ d i, i + d = m → ∀ L W X C n, lc_PL L W X C 10 n (fun b => P b ∨ ∃ j, j < i ∧ lc_jn x false (lc_bx L0 W0 X0 q) (lc_bx L0 W0 X0 (g * 64 + j)) = b) → lc_FR 10 L0 W0 X0 C0 L W X C → wX_combineTopTwo_47 post J x x3 x4 (nI (g * 64 + m)) (nI q) (d + 1) (nI (g * 64 + i)) D K E L W X C := by
  intro d
  induction d with
  | zero =>
    intro i hi L W X C n hP hF
    obtain rfl : i = m := by omega
    rw [wX_combineTopTwo_47]
    exact br_t (nI_le (Nat.le_refl _) (by omega)) (nm_r (nI_1 _) (h _ _ _ _ _ hP hF))
  | succ d ih =>
    intro i hi L W X C n hP hF
    have e1 : lc_bx L W X q = lc_bx L0 W0 X0 q := hF.1 _ (by omega)
    have e2 : lc_bx L W X (g * 64 + i) = lc_bx L0 W0 X0 (g * 64 + i) := hF.1 _ (by omega)
    rw [wX_combineTopTwo_47]
    refine br_f (nI_ge (by omega) (by omega)) ?_
    have key := fun (post' : SX → Prop) => lc_comb (post := post') (D := D) (K := K) (E := E) (i1 := q) (i2 := g * 64 + i) hx (by omega) (by omega) hP (fun nb => lc_cap hP F hN (by
      rintro b (z | ⟨j, hj, z⟩)
      · exact hPF b z
      · obtain ⟨w, hw, e⟩ := hGF j (by omega)
        exact ⟨w, hw, e.trans z⟩) (by rw [e1, e2]; exact hGF i (by omega)) nb)
    have go : ∀ L' W' X' C' n', lc_PL L' W' X' C' 10 n' (fun d => (P d ∨ ∃ j, j < i ∧ lc_jn x false (lc_bx L0 W0 X0 q) (lc_bx L0 W0 X0 (g * 64 + j)) = d) ∨ d = lc_jn x false (lc_bx L W X q) (lc_bx L W X (g * 64 + i))) → lc_FR 10 L W X C L' W' X' C' → ∀ y, y = nI (g * 64 + i) + 1 → wX_combineTopTwo_47 post J x x3 x4 (nI (g * 64 + m)) (nI q) (d + 1) y D K E L' W' X' C' := by
      intro L' W' X' C' n' hP' hF'
      refine nm_r (nI_1 _) (ih (i + 1) (by omega) L' W' X' C' n' (lc_PL_i hP' (fun b => ?_)) (lc_FR_t hF hF'))
      rw [e1, e2]
      constructor
      · rintro (z | ⟨j, hj, z⟩)
        · exact Or.inl (Or.inl z)
        · by_cases y : j = i
          · right; rw [← y]; exact z.symm
          · exact Or.inl (Or.inr ⟨j, by omega, z⟩)
      · rintro ((z | ⟨j, hj, z⟩) | z)
        · exact Or.inl z
        · exact Or.inr ⟨j, by omega, z⟩
        · exact Or.inr ⟨i, by omega, z.symm⟩
    exact key _ go
theorem lc_mv {post : SX → Prop} {K E : Int32} {L W X C : Nat → Int32} {f m N : Nat} {Q : lc_Bx → Prop} (F : Nat → lc_Bx) (hf : f < 10) (hN : N ≤ 64) (hP : lc_PL L W X C 10 m Q) (hQF : ∀ b, Q b → ∃ w, w < N ∧ F w = b) (h : ∀ L' W' X' C' n', lc_PL L' W' X' C' f n' Q → lc_FR f L W X C L' W' X' C' → post (nI (f + 1), K, E, L', W', X', C')) : wpX_moveSpareToTop post (nI (f + 1), K, E, L, W, X, C) := by
  have c1 : (nI f).toNatClampNeg = f := nI_clamp (by omega)
  unfold wpX_moveSpareToTop
  dsimp only
  rw [hP.2.1, nI_pred, c1]
  refine nm_r (nI_add 640 m) ⟨vp_in_nI (by omega) (by omega), nm_e ?_⟩
  refine lc_addCells F (p := f) (s := 10) (n := 0) (P := fun _ => False) (by omega) (by omega) (by omega) hP.1 hN lc_PL_0 (fun b z => z.elim) (fun j hj => hQF _ ((hP.2.2.2 _).mpr ⟨j, hj, rfl⟩)) (fun L' W' X' C' n' hP' hF' => ?_)
  refine h _ _ _ _ n' (lc_PL_i hP' (fun b => ?_)) (lc_FR_t lc_FR_0 hF')
  rw [hP.2.2.2 b]
  exact ⟨Or.inr, fun z => z.elim False.elim id⟩
theorem lc_out {post : SX → Prop} {K E x : Int32} {L0 W0 X0 C0 : Nat → Int32} {f n m N : Nat} (F : Nat → lc_Bx) (hx : x = 1 ∨ x = 2) (hf : f + 1 < 10) (hn : n ≤ 64) (hm : m ≤ 64) (hN : N ≤ 64) (hGF : ∀ i j, i < n → j < m → ∃ w, w < N ∧ F w = lc_jn x false (lc_bx L0 W0 X0 (f * 64 + i)) (lc_bx L0 W0 X0 ((f + 1) * 64 + j))) (h : ∀ L1 W1 X1 C1 L' W' X' C' n', lc_FR 10 L0 W0 X0 C0 L1 W1 X1 C1 → lc_FR f L1 W1 X1 C1 L' W' X' C' → lc_PL L' W' X' C' f n' (fun b => ∃ i j, i < n ∧ j < m ∧ lc_jn x false (lc_bx L0 W0 X0 (f * 64 + i)) (lc_bx L0 W0 X0 ((f + 1) * 64 + j)) = b) → post (nI (f + 1), K, E, L', W', X', C')) : ∀ d i, i + d = n → ∀ L W X C r, lc_PL L W X C 10 r (fun b => ∃ j1 j2, j1 < i ∧ j2 < m ∧ lc_jn x false (lc_bx L0 W0 X0 (f * 64 + j1)) (lc_bx L0 W0 X0 ((f + 1) * 64 + j2)) = b) → lc_FR 10 L0 W0 X0 C0 L W X C → wX_combineTopTwo_37 post x (nI (f * 64 + n)) (nI ((f + 1) * 64)) (nI ((f + 1) * 64 + m)) (d + 1) (nI (f * 64 + i)) (nI (f + 2)) K E L W X C := by
  intro d
  induction d with
  | zero =>
    intro i hi L W X C r hP hF
    obtain rfl : i = n := by omega
    rw [wX_combineTopTwo_37]
    refine br_t (nI_le (Nat.le_refl _) (by omega)) (nm_r (nI_pred (f + 1)) ?_)
    exact lc_mv F (by omega) hN hP (fun b ⟨j1, j2, h1, h2, z⟩ => by
      obtain ⟨w, hw, e⟩ := hGF j1 j2 h1 h2
      exact ⟨w, hw, e.trans z⟩) (fun L' W' X' C' n' hP' hF' => h _ _ _ _ _ _ _ _ n' hF hF' hP')
  | succ d ih =>
    intro i hi L W X C r hP hF
    rw [wX_combineTopTwo_37]
    refine br_f (nI_ge (by omega) (by omega)) ⟨m + 1, ?_⟩
    refine lc_in F hx (q := f * 64 + i) (g := f + 1) (L0 := L0) (W0 := W0) (X0 := X0) (C0 := C0) (P := fun b => ∃ j1 j2, j1 < i ∧ j2 < m ∧ lc_jn x false (lc_bx L0 W0 X0 (f * 64 + j1)) (lc_bx L0 W0 X0 ((f + 1) * 64 + j2)) = b) (by omega) (by omega) hm hN (fun b ⟨j1, j2, h1, h2, z⟩ => by
      obtain ⟨w, hw, e⟩ := hGF j1 j2 (by omega) h2
      exact ⟨w, hw, e.trans z⟩) (fun j hj => hGF i j (by omega) hj) (fun L' W' X' C' n' hP' hF' => ?_) m 0 (by omega) L W X C r (lc_PL_i hP (fun b => ⟨fun z => z.elim id (fun ⟨j, hj, _⟩ => absurd hj (Nat.not_lt_zero j)), Or.inl⟩)) hF
    refine ih (i + 1) (by omega) L' W' X' C' n' (lc_PL_i hP' (fun b => ?_)) hF'
    constructor
    · intro ⟨j1, j2, h1, h2, z⟩
      by_cases y : j1 = i
      · right; exact ⟨j2, h2, by rw [← y]; exact z⟩
      · left; exact ⟨j1, j2, by omega, h2, z⟩
    · rintro (⟨j1, j2, h1, h2, z⟩ | ⟨j, hj, z⟩)
      · exact ⟨j1, j2, by omega, h2, z⟩
      · exact ⟨i, j, by omega, hj, z⟩
theorem lc_tComb {post : SX → Prop} {K E x : Int32} {L W X C c a : Nat → Int32} {T : Nat} (V : lc_VT c a (T + 1)) (e : c T = x) (hx : x = 1 ∨ x = 2) (R : lc_R c a T L W X C) (h : ∀ L' W' X' C', lc_R c a (T + 1) L' W' X' C' → post (nI (lc_ht c T - 1), K, E, L', W', X', C')) : wpX_combineTopTwo post (nI (lc_ht c T), K, E, L, W, X, C) x := by
  have V' : lc_VT c a T := fun i hi => V i (by omega)
  have Vi := V T (by omega)
  rw [e] at Vi
  have hh : 2 ≤ lc_ht c T := by
    rcases hx with rfl | rfl
    · exact lc_ok1 Vi
    · exact lc_ok2 Vi
  have hl := (lc_lim V T (by omega)).1
  obtain ⟨k, hk⟩ : ∃ k, lc_ht c T = k + 2 := ⟨lc_ht c T - 2, by omega⟩
  obtain ⟨n, hn⟩ := R k (by omega)
  obtain ⟨m, hm⟩ := R (k + 1) (by omega)
  have hs : lc_hs x (lc_ht c T) = k + 1 := by
    rcases hx with rfl | rfl
    · rw [lc_hs1, hk]; rfl
    · rw [lc_hs2, hk]; rfl
  have top : ∀ b, lc_Set c a (T + 1) k b ↔ ∃ d f, lc_Set c a T k d ∧ lc_Set c a T (k + 1) f ∧ lc_jn x false d f = b := by
    intro b
    rcases hx with rfl | rfl
    · exact lc_set1_top V' (Nat.le_refl _) e (by omega)
    · exact lc_set2_top V' (Nat.le_refl _) e (by omega)
  have low : ∀ p b, p < k → (lc_Set c a (T + 1) p b ↔ lc_Set c a T p b) := by
    intro p b hp
    rcases hx with rfl | rfl
    · exact lc_set1_low e (by omega)
    · exact lc_set2_low e (by omega)
  have hN : 2 ^ lc_ec c (T + 1) ≤ 64 := lc_p6 (lc_lim V (T + 1) (Nat.le_refl _)).2
  have c1 : (nI (k + 1)).toNatClampNeg = k + 1 := nI_clamp (by omega)
  have c0 : (nI k).toNatClampNeg = k := nI_clamp (by omega)
  have e1 : nI (k + 2) - 1 - 0 = nI (k + 1) := by rw [nI_pred, Int32.sub_zero]
  have e0 : nI (k + 2) - 1 - 1 = nI k := by rw [nI_pred, nI_pred]
  have e2 : nI (k + 1) * 64 = nI ((k + 1) * 64) := pk_mul (k + 1) 64
  have e3 : nI k * 64 = nI (k * 64) := pk_mul k 64
  unfold wpX_combineTopTwo wpX_firstCell wpX_endCell
  dsimp only
  rw [hk, e1, e0]
  intro x2 ex2
  rw [ex2, c0, hn.2.1, e3, nI_add]
  refine ⟨vp_in_nI (by omega) (by omega), ?_⟩
  intro x3 ex3
  rw [ex3, c1, hm.2.1, e2, nI_add]
  refine ⟨vp_in_nI (by omega) (by omega), nm_e ⟨n + 1, ?_⟩⟩
  refine lc_out (L0 := L) (W0 := W) (X0 := X) (C0 := upd C 10 0) (f := k) (N := 2 ^ lc_ec c (T + 1)) (fun w => lc_pf c a w (T + 1) k) hx (by omega) hn.1 hm.1 hN (fun i j hi hj => (top _).mpr ⟨_, _, (hn.2.2.2 _).mpr ⟨i, hi, rfl⟩, (hm.2.2.2 _).mpr ⟨j, hj, rfl⟩, rfl⟩) (fun L1 W1 X1 C1 L' W' X' C' n' hF hF' hP => ?_) n 0 (by omega) L W X (upd C 10 0) 0 (lc_PL_i lc_PL_0 (fun b => ⟨fun ⟨j1, _, h1, _⟩ => absurd h1 (Nat.not_lt_zero j1), False.elim⟩)) lc_FR_r
  have := h L' W' X' C' (fun p hp => ?_)
  · rw [hk] at this; exact this
  · rw [lc_hts, e, hs] at hp
    by_cases z : p = k
    · subst z
      refine ⟨n', lc_PL_i hP (fun b => ?_)⟩
      rw [top b]
      constructor
      · intro ⟨d, f, hd, hf, y⟩
        obtain ⟨i, hi, y1⟩ := (hn.2.2.2 d).mp hd
        obtain ⟨j, hj, y2⟩ := (hm.2.2.2 f).mp hf
        exact ⟨i, j, hi, hj, by rw [y1, y2]; exact y⟩
      · intro ⟨i, j, hi, hj, y⟩
        exact ⟨_, _, (hn.2.2.2 _).mpr ⟨i, hi, rfl⟩, (hm.2.2.2 _).mpr ⟨j, hj, rfl⟩, y⟩
    · obtain ⟨r, hr⟩ := R p (by omega)
      exact ⟨r, lc_PL_i (lc_PL_f hF' z (lc_PL_f (lc_FR_t lc_FR_0 hF) (by omega) hr)) (fun b => low p b (by omega))⟩
end
section
/-! token on both sides -/
theorem lc_arg {n : Int32} (M : Nat) (hM : M < 2 ^ 31) : (∃ m, m ≤ M ∧ n = nI m) ↔ (¬ n < 0 ∧ ¬ nI M < n) := by
  constructor
  · rintro ⟨m, hm, rfl⟩
    exact ⟨nI_pos (by omega), nI_nlt hm (by omega)⟩
  · intro ⟨h1, h2⟩
    obtain ⟨j, hj, rfl⟩ := nI_of h1
    exact ⟨j, Nat.le_of_not_lt (fun z => h2 (nI_lt z hj)), rfl⟩
theorem lc_code {x : Int32} (h0 : ¬ x < 0) (h4 : ¬ 4 < x) : x = 0 ∨ x = 1 ∨ x = 2 ∨ x = 3 ∨ x = 4 := by
  obtain ⟨m, hm, rfl⟩ := (lc_arg (n := x) 4 (by decide)).mpr ⟨h0, h4⟩
  have : m = 0 ∨ m = 1 ∨ m = 2 ∨ m = 3 ∨ m = 4 := by omega
  rcases this with rfl | rfl | rfl | rfl | rfl
  · exact Or.inl rfl
  · exact Or.inr (Or.inl rfl)
  · exact Or.inr (Or.inr (Or.inl rfl))
  · exact Or.inr (Or.inr (Or.inr (Or.inl rfl)))
  · exact Or.inr (Or.inr (Or.inr (Or.inr rfl)))
theorem lc_ok_lo {x n : Int32} {h e : Nat} (H : lc_ok x n h e) : ¬ x < 0 := by
  rcases H with ⟨rfl, _⟩ | ⟨rfl, _⟩ | ⟨rfl, _⟩ | ⟨rfl, _⟩ | ⟨rfl, _⟩ <;> decide
theorem lc_ok_hi {x n : Int32} {h e : Nat} (H : lc_ok x n h e) : ¬ 4 < x := by
  rcases H with ⟨rfl, _⟩ | ⟨rfl, _⟩ | ⟨rfl, _⟩ | ⟨rfl, _⟩ | ⟨rfl, _⟩ <;> decide
theorem lc_may {post : Int32 → Prop} {v1 v2 : Int32} {T H E : Nat} {L W X C : Nat → Int32} (hT : T ≤ 48) (hH : H ≤ 10) (hE : E ≤ 6) (no : ¬ (T < 48 ∧ lc_ok v1 v2 H E) → post 0) (yes : T < 48 ∧ lc_ok v1 v2 H E → post 1) : wpX_mayTake post (nI H, nI T, nI E, L, W, X, C) v1 v2 := by
  have i48 : nI T < (48 : Int32) ↔ T < 48 := nI_ltI (b := 48) (by omega) (by decide)
  have i10 : (10 : Int32) ≤ nI H ↔ 10 ≤ H := nI_leI (a := 10) (by decide) (by omega)
  have i2 : nI H < (2 : Int32) ↔ H < 2 := nI_ltI (b := 2) (by omega) (by decide)
  have i1 : nI H < (1 : Int32) ↔ H < 1 := nI_ltI (b := 1) (by omega) (by decide)
  have i6 : (6 : Int32) ≤ nI E ↔ 6 ≤ E := nI_leI (a := 6) (by decide) (by omega)
  unfold wpX_mayTake wX_mayTake_97
  dsimp only
  rw [i48, i10, i2, i1, i6]
  refine br_c (fun t => br_c (fun z => no (fun o => lc_ok_lo o.2 z)) (fun z0 => br_c (fun z => no (fun o => lc_ok_hi o.2 z)) (fun z4 => ?_))) (fun t => no (fun o => t o.1))
  rcases lc_code z0 z4 with rfl | rfl | rfl | rfl | rfl
  · refine br_t rfl (br_c (fun z => no (fun o => ((lc_arg 40 (by decide)).mp (lc_ok0 o.2).1).1 z)) (fun y0 => br_c (fun z => no (fun o => ((lc_arg 40 (by decide)).mp (lc_ok0 o.2).1).2 z)) (fun y4 => br_c (fun z => no (fun o => ?_)) (fun z => yes ⟨t, Or.inl ⟨rfl, (lc_arg 40 (by decide)).mpr ⟨y0, y4⟩, by omega⟩⟩))))
    have := (lc_ok0 o.2).2; omega
  · refine br_f (by decide) (br_t rfl (br_c (fun z => no (fun o => ?_)) (fun z => yes ⟨t, Or.inr (Or.inr (Or.inl ⟨rfl, by omega⟩))⟩)))
    have := lc_ok1 o.2; omega
  · refine br_f (by decide) (br_f (by decide) (br_t rfl (br_c (fun z => no (fun o => ?_)) (fun z => yes ⟨t, Or.inr (Or.inr (Or.inr (Or.inl ⟨rfl, by omega⟩)))⟩))))
    have := lc_ok2 o.2; omega
  · refine br_f (by decide) (br_f (by decide) (br_f (by decide) (br_t rfl (br_c (fun z => no (fun o => ((lc_arg 20 (by decide)).mp (lc_ok3 o.2).1).1 z)) (fun y0 => br_c (fun z => no (fun o => ((lc_arg 20 (by decide)).mp (lc_ok3 o.2).1).2 z)) (fun y4 => br_c (fun z => no (fun o => ?_)) (fun z => yes ⟨t, Or.inr (Or.inl ⟨rfl, (lc_arg 20 (by decide)).mpr ⟨y0, y4⟩, by omega⟩)⟩)))))))
    have := (lc_ok3 o.2).2; omega
  · refine br_f (by decide) (br_f (by decide) (br_f (by decide) (br_f (by decide) (br_t rfl (br_c (fun z => no (fun o => ?_)) (fun y => br_c (fun z => no (fun o => ?_)) (fun z => yes ⟨t, Or.inr (Or.inr (Or.inr (Or.inr ⟨rfl, by omega, by omega⟩)))⟩)))))))
    · have := (lc_ok4 o.2).1; omega
    · have := (lc_ok4 o.2).2; omega
theorem lc_xT {post : Int32 → SX → Prop} {v1 v2 : Int32} {T : Nat} {L W X C c a : Nat → Int32} (hT : T ≤ 48) (hH : lc_ht c T ≤ 10) (hE : lc_ec c T ≤ 6) (no : ¬ (T < 48 ∧ lc_ok v1 v2 (lc_ht c T) (lc_ec c T)) → post (-1) (nI (lc_ht c T), nI T, nI (lc_ec c T), L, W, X, C)) (yes : T < 48 ∧ lc_ok v1 v2 (lc_ht c T) (lc_ec c T) → (lc_VT c a (T + 1) ∧ c T = v1 ∧ a T = v2 ∧ lc_R c a T L W X C) ∧ ∀ L' W' X' C', lc_R c a (T + 1) L' W' X' C' → post (nI (lc_ht c (T + 1))) (nI (lc_ht c (T + 1)), nI (T + 1), nI (lc_ec c (T + 1)), L', W', X', C')) : wpX_token post (nI (lc_ht c T), nI T, nI (lc_ec c T), L, W, X, C) v1 v2 := by
  unfold wpX_token
  dsimp only
  refine lc_may hT hH hE (fun o => br_t rfl (no o)) (fun o => br_f (by decide) (br_f (lc_ok_lo o.2) (br_f (lc_ok_hi o.2) ?_)))
  obtain ⟨⟨V, e, rfl, R⟩, h⟩ := yes o
  rcases lc_code (lc_ok_lo o.2) (lc_ok_hi o.2) with rfl | rfl | rfl | rfl | rfl
  · refine br_t rfl (lc_tText V e R (fun L' W' X' C' R' => nm_r (nI_1 _) ?_))
    have := h _ _ _ _ R'
    rw [lc_hts, lc_ecs, e, lc_hs0, if_neg lc_n04] at this
    exact this
  · refine br_f (by decide) (br_t rfl (lc_tComb V e (Or.inl rfl) R (fun L' W' X' C' R' => nm_r (nI_1 _) ?_)))
    have := h _ _ _ _ R'
    rw [lc_hts, lc_ecs, e, lc_hs1, if_neg lc_n14] at this
    exact this
  · refine br_f (by decide) (br_f (by decide) (br_t rfl (lc_tComb V e (Or.inr rfl) R (fun L' W' X' C' R' => nm_r (nI_1 _) ?_))))
    have := h _ _ _ _ R'
    rw [lc_hts, lc_ecs, e, lc_hs2, if_neg lc_n24] at this
    exact this
  · refine br_f (by decide) (br_f (by decide) (br_f (by decide) (br_t rfl (lc_tIndent V e R (fun L' W' X' C' R' => nm_r (nI_1 _) ?_)))))
    have := h _ _ _ _ R'
    rw [lc_hts, lc_ecs, e, lc_hs3, if_neg lc_n34] at this
    exact this
  · refine br_f (by decide) (br_f (by decide) (br_f (by decide) (br_f (by decide) (br_t rfl (lc_tEither V e R (fun L' W' X' C' R' => nm_r (nI_1 _) ?_))))))
    have := h _ _ _ _ R'
    rw [lc_hts, lc_ecs, e, lc_hs4, if_pos rfl] at this
    exact this
def lc_tk (x : Int32) : Nat := if x = 0 then 0 else if x = 3 then 1 else 2
theorem lc_takes {post : Int32 → Prop} {x : Int32} (h : post (nI (lc_tk x))) : wpY_takes post x := by
  unfold wpY_takes
  unfold lc_tk at h
  refine br_c (fun z => ?_) (fun z => br_c (fun y => ?_) (fun y => ?_))
  · rw [if_pos z] at h; exact h
  · rw [if_neg z, if_pos y] at h; exact h
  · rw [if_neg z, if_neg y] at h; exact h
def lc_ba (x n : Int32) : Prop := (x = 0 ∧ ¬ ∃ m, m ≤ 40 ∧ n = nI m) ∨ (x = 3 ∧ ¬ ∃ m, m ≤ 20 ∧ n = nI m)
theorem lc_badArg {post : Int32 → Prop} {x n : Int32} (h1 : lc_ba x n → post 1) (h0 : ¬ lc_ba x n → post 0) : wpY_badArg post x n := by
  unfold wpY_badArg wY_badArg_14
  refine br_c (fun z => br_c (fun y => h1 (Or.inl ⟨z, fun q => ((lc_arg 40 (by decide)).mp q).1 y⟩)) (fun y => br_c (fun y' => h1 (Or.inl ⟨z, fun q => ((lc_arg 40 (by decide)).mp q).2 y'⟩)) (fun y' => br_f (by rw [z]; decide) (h0 ?_)))) (fun z => br_c (fun w => br_c (fun y => h1 (Or.inr ⟨w, fun q => ((lc_arg 20 (by decide)).mp q).1 y⟩)) (fun y => br_c (fun y' => h0 ?_) (fun y' => h1 (Or.inr ⟨w, fun q => ((lc_arg 20 (by decide)).mp q).2 (Int32.not_le.mp y')⟩)))) (fun w => h0 ?_))
  · rintro (⟨_, q⟩ | ⟨q, _⟩)
    · exact q ((lc_arg 40 (by decide)).mpr ⟨y, y'⟩)
    · rw [z] at q; exact absurd q (by decide)
  · rintro (⟨q, _⟩ | ⟨_, q⟩)
    · exact z q
    · exact q ((lc_arg 20 (by decide)).mpr ⟨y, Int32.not_lt.mpr y'⟩)
  · rintro (⟨q, _⟩ | ⟨q, _⟩)
    · exact z q
    · exact w q
theorem lc_ok_ba {x n : Int32} {h e : Nat} (H : lc_ok x n h e) : ¬ lc_ba x n := by
  rintro (⟨rfl, q⟩ | ⟨rfl, q⟩)
  · exact q (lc_ok0 H).1
  · exact q (lc_ok3 H).1
theorem lc_ok_tk {x n : Int32} {h e : Nat} (H : lc_ok x n h e) : lc_tk x ≤ h ∧ lc_hs x h = h - lc_tk x + 1 := by
  rcases H with ⟨rfl, _, _⟩ | ⟨rfl, _, h1⟩ | ⟨rfl, h2⟩ | ⟨rfl, h2⟩ | ⟨rfl, h2, _⟩
  · rw [lc_hs0]; exact ⟨Nat.zero_le _, rfl⟩
  · rw [lc_hs3, show lc_tk 3 = 1 from by decide]; omega
  · rw [lc_hs1, show lc_tk 1 = 2 from by decide]; omega
  · rw [lc_hs2, show lc_tk 2 = 2 from by decide]; omega
  · rw [lc_hs4, show lc_tk 4 = 2 from by decide]; omega
theorem lc_yT {post : Int32 → SY → Prop} {v1 v2 d : Int32} {T H E : Nat} {c a en wi la be bw bl : Nat → Int32} (hT : T ≤ 48) (hH : H ≤ 10) (hE : E ≤ 6) (no : ¬ (T < 48 ∧ lc_ok v1 v2 H E) → post (-1) (nI T, nI H, nI E, d, c, a, en, wi, la, be, bw, bl)) (yes : T < 48 ∧ lc_ok v1 v2 H E → post (nI (lc_hs v1 H)) (nI (T + 1), nI (lc_hs v1 H), nI (if v1 = 4 then E + 1 else E), d, upd c T v1, upd a T v2, en, wi, la, be, bw, bl)) : wpY_token post (nI T, nI H, nI E, d, c, a, en, wi, la, be, bw, bl) v1 v2 := by
  have c1 : (nI T).toNatClampNeg = T := nI_clamp (by omega)
  have i48 : nI T = (48 : Int32) ↔ T = 48 := nI_eq (b := 48) (by omega) (by decide)
  have i10 : nI H = (10 : Int32) ↔ H = 10 := nI_eq (b := 10) (by omega) (by decide)
  have i6 : nI E = (6 : Int32) ↔ E = 6 := nI_eq (b := 6) (by omega) (by decide)
  have tk2 : lc_tk v1 ≤ 2 := by
    unfold lc_tk
    by_cases z : v1 = 0
    · rw [if_pos z]; omega
    · rw [if_neg z]
      by_cases y : v1 = 3
      · rw [if_pos y]; omega
      · rw [if_neg y]; omega
  have itk : nI H < nI (lc_tk v1) ↔ H < lc_tk v1 := nI_ltI (by omega) (by omega)
  have fin : T < 48 ∧ lc_ok v1 v2 H E → wY_token_68 post v1 v2 (nI T) (nI H) (nI E) d c a en wi la be bw bl := by
    intro o
    have h := yes o
    obtain ⟨k1, k2⟩ := lc_ok_tk o.2
    have v : vp_in (nI T) 48 := vp_in_nI o.1 (by decide)
    have eh : nI H - nI (lc_tk v1) + 1 = nI (lc_hs v1 H) := by rw [pk_sub k1, nI_1, k2]
    unfold wY_token_68 wY_token_113
    rw [c1]
    refine ⟨v, nm_e ⟨v, nm_e (nm_r (nI_1 _) (br_c (fun z => nm_r (nI_1 _) (lc_takes (nm_r eh ?_))) (fun z => lc_takes (nm_r eh ?_))))⟩⟩
    · rw [if_pos z] at h; exact h
    · rw [if_neg z] at h; exact h
  unfold wpY_token
  dsimp only
  refine br_c (fun z => no (fun o => lc_ok_lo o.2 z)) (fun z0 => br_c (fun z => no (fun o => lc_ok_hi o.2 z)) (fun z4 => lc_badArg (fun b => br_f (by decide) (no (fun o => lc_ok_ba o.2 b))) (fun nb => br_t rfl (lc_takes (br_c (fun z => no (fun o => ?_)) (fun zt => br_c (fun z => no (fun o => ?_)) (fun z48 => br_c (fun zz => br_c (fun z => no (fun o => ?_)) (fun z10 => ?_)) (fun nz => ?_))))))))
  · rw [itk] at z
    have := (lc_ok_tk o.2).1; omega
  · rw [i48] at z; omega
  · rw [zz] at o; rw [i10] at z
    have := (lc_ok0 o.2).2; omega
  · rw [itk] at zt; rw [i48] at z48; rw [i10] at z10
    unfold wY_token_52
    refine br_f (by rw [zz]; decide) (fin ⟨by omega, Or.inl ⟨zz, ?_, by omega⟩⟩)
    exact Classical.byContradiction (fun q => nb (Or.inl ⟨zz, q⟩))
  · rw [itk] at zt; rw [i48] at z48
    unfold wY_token_52
    rcases lc_code z0 z4 with rfl | rfl | rfl | rfl | rfl
    · exact absurd rfl nz
    · exact br_f (by decide) (fin ⟨by omega, Or.inr (Or.inr (Or.inl ⟨rfl, by rw [show lc_tk 1 = 2 from by decide] at zt; omega⟩))⟩)
    · exact br_f (by decide) (fin ⟨by omega, Or.inr (Or.inr (Or.inr (Or.inl ⟨rfl, by rw [show lc_tk 2 = 2 from by decide] at zt; omega⟩)))⟩)
    · exact br_f (by decide) (fin ⟨by omega, Or.inr (Or.inl ⟨rfl, Classical.byContradiction (fun q => nb (Or.inr ⟨rfl, q⟩)), by rw [show lc_tk 3 = 1 from by decide] at zt; omega⟩)⟩)
    · rw [show lc_tk 4 = 2 from by decide] at zt
      refine br_t rfl (br_c (fun z => no (fun o => ?_)) (fun z => fin ⟨by omega, Or.inr (Or.inr (Or.inr (Or.inr ⟨rfl, by omega, ?_⟩)))⟩))
      · rw [i6] at z; have := (lc_ok4 o.2).2; omega
      · rw [i6] at z; omega
def i_Rel (_ : Nat) (u : SX) (v : SY) : Prop := ∃ (T : Nat) (L W X C : Nat → Int32) (d : Int32) (c a en wi la be bw bl : Nat → Int32), T ≤ 48 ∧ lc_VT c a T ∧ lc_R c a T L W X C ∧ u = (nI (lc_ht c T), nI T, nI (lc_ec c T), L, W, X, C) ∧ v = (nI T, nI (lc_ht c T), nI (lc_ec c T), d, c, a, en, wi, la, be, bw, bl)
theorem i_up {k : Nat} {u : SX} {v : SY} (h : i_Rel k u v) : i_Rel (k + 4) u v := h
theorem i_vc0 : wpX_init (fun u => wpY_init (fun v => i_Rel 0 u v)) :=
  ⟨0, _, _, _, _, _, _, _, _, _, _, _, _, _, Nat.zero_le _, fun i hi => absurd hi (Nat.not_lt_zero i), fun p hp => absurd hp (Nat.not_lt_zero p), rfl, rfl⟩
theorem i_vc_clear {k : Nat} {u : SX} {v : SY} (I : i_Rel k u v) (hk : k + 4 ≤ 2048) : wpX_clear (fun u' => wpY_clear (fun v' => i_Rel (k + 4) u' v') v) u := by
  obtain ⟨T, L, W, X, C, d, c, a, en, wi, la, be, bw, bl, hT, V, R, rfl, rfl⟩ := I
  exact ⟨0, _, _, _, _, _, c, a, _, _, _, _, _, _, Nat.zero_le _, fun i hi => absurd hi (Nat.not_lt_zero i), fun p hp => absurd hp (Nat.not_lt_zero p), rfl, rfl⟩
theorem i_vc_token {k : Nat} {u : SX} {v : SY} (I : i_Rel k u v) (hk : k + 4 ≤ 2048) (v1 : Int32) (v2 : Int32) : wpX_token (fun r u' => wpY_token (fun r' v' => r' = r ∧ i_Rel (k + 4) u' v') v v1 v2) u v1 v2 := by
  obtain ⟨T, L, W, X, C, d, c, a, en, wi, la, be, bw, bl, hT, V, R, rfl, rfl⟩ := I
  obtain ⟨hH, hE⟩ := lc_lim V T (Nat.le_refl _)
  have cg : ∀ i, i ≤ T → lc_ht (upd c T v1) i = lc_ht c i ∧ lc_ec (upd c T v1) i = lc_ec c i ∧ ∀ w, lc_pf (upd c T v1) (upd a T v2) w i = lc_pf c a w i := fun i hi => lc_cg i (fun j hj => ⟨pk_un (by omega), pk_un (by omega)⟩)
  obtain ⟨g1, g2, g3⟩ := cg T (Nat.le_refl _)
  have := lc_xT (post := fun r u' => wpY_token (fun r' v' => r' = r ∧ i_Rel (k + 4) u' v') (nI T, nI (lc_ht c T), nI (lc_ec c T), d, c, a, en, wi, la, be, bw, bl) v1 v2) (v1 := v1) (v2 := v2) (T := T) (L := L) (W := W) (X := X) (C := C) (c := upd c T v1) (a := upd a T v2) hT (by rw [g1]; exact hH) (by rw [g2]; exact hE) (fun no => by
    rw [g1, g2] at no
    refine lc_yT hT hH hE (fun _ => ⟨rfl, T, L, W, X, C, d, c, a, en, wi, la, be, bw, bl, hT, V, R, by rw [g1, g2], rfl⟩) (fun o => absurd o no)) (fun o => by
    rw [g1, g2] at o
    have V' : lc_VT (upd c T v1) (upd a T v2) (T + 1) := by
      intro i hi
      rw [(cg i (by omega)).1, (cg i (by omega)).2.1]
      by_cases z : i = T
      · subst z; rw [pk_us, pk_us]; exact o.2
      · rw [pk_un z, pk_un z]; exact V i (by omega)
    have R' : lc_R (upd c T v1) (upd a T v2) T L W X C := by
      intro p hp
      rw [g1] at hp
      obtain ⟨n, hn⟩ := R p hp
      refine ⟨n, lc_PL_i hn (fun b => ?_)⟩
      unfold lc_Set
      rw [g2]
      simp only [g3]
    refine ⟨⟨V', pk_us, pk_us, R'⟩, fun L' W' X' C' R2 => ?_⟩
    refine lc_yT hT hH hE (fun no => absurd o no) (fun _ => ?_)
    have e1 : lc_ht (upd c T v1) (T + 1) = lc_hs v1 (lc_ht c T) := by rw [lc_hts, pk_us, g1]
    have e2 : lc_ec (upd c T v1) (T + 1) = if v1 = 4 then lc_ec c T + 1 else lc_ec c T := by rw [lc_ecs, pk_us, g2]
    refine ⟨by rw [e1], T + 1, L', W', X', C', d, upd c T v1, upd a T v2, en, wi, la, be, bw, bl, by omega, V', R2, rfl, by rw [e1, e2]⟩)
  rw [g1, g2] at this
  exact this
end
section
/-! the reference makes one way, then all ways -/
theorem lc_bit : ∀ w, w < 64 → ∀ e, e < 7 → (((nI w >>> (nI e &&& 31)) &&& 1 = 1) ↔ w.testBit e = true) := by decide +kernel
theorem lc_shl : ∀ e, e < 7 → (1 : Int32) <<< (nI e &&& 31) = nI (2 ^ e) := by decide +kernel
theorem lc_join {post : SY → Prop} {T H E x z : Int32} {c a en wi la be bw bl : Nat → Int32} {k : Nat} (up : Bool) (hk : k + 1 < 11) (hx : x = 1 ∨ x = 2 ∨ x = 4) (hz : z = 0 ↔ ¬ up = true) (h : ∀ en' wi' la', lc_bx en' wi' la' k = lc_jn x up (lc_bx en wi la k) (lc_bx en wi la (k + 1)) → (∀ p, p ≠ k → lc_bx en' wi' la' p = lc_bx en wi la p) → post (T, H, E, nI (k + 1), c, a, en', wi', la', be, bw, bl)) : wpY_join post (T, H, E, nI (k + 2), c, a, en, wi, la, be, bw, bl) x z := by
  have c0 : (nI k).toNatClampNeg = k := nI_clamp (by omega)
  have c1 : (nI (k + 1)).toNatClampNeg = k + 1 := nI_clamp (by omega)
  have v0 : vp_in (nI k) 11 := vp_in_nI (by omega) (by omega)
  have v1 : vp_in (nI (k + 1)) 11 := vp_in_nI (by omega) (by omega)
  unfold wpY_join wpY_most
  dsimp only
  intro y1 ey1 y2 ey2
  have e1 : y1 = nI (k + 1) := ey1.trans (nI_pred _)
  have e2 : y2 = nI k := by rw [ey2, e1]; exact nI_pred _
  rw [e1, e2, c0, c1]
  rcases hx with rfl | rfl | rfl
  · refine br_t rfl ⟨v0, v1, v0, nm_e ⟨v0, v0, v1, br_c (fun y => ⟨v0, nm_e ⟨v0, v1, v0, nm_e ?_⟩⟩) (fun y => ⟨v0, nm_e ⟨v0, v1, v0, nm_e ?_⟩⟩)⟩⟩
    · refine h _ _ _ ?_ (fun p hp => by unfold lc_bx; rw [pk_un hp, pk_un hp, pk_un hp])
      rw [lc_jn, if_pos rfl]
      show (upd _ _ _ _, upd _ _ _ _, upd _ _ _ _) = (en k + en (k + 1), (if wi k ≤ la k + wi (k + 1) then la k + wi (k + 1) else wi k), la k + la (k + 1))
      rw [pk_us, pk_us, pk_us, if_pos y]
    · refine h _ _ _ ?_ (fun p hp => by unfold lc_bx; rw [pk_un hp, pk_un hp, pk_un hp])
      rw [lc_jn, if_pos rfl]
      show (upd _ _ _ _, upd _ _ _ _, upd _ _ _ _) = (en k + en (k + 1), (if wi k ≤ la k + wi (k + 1) then la k + wi (k + 1) else wi k), la k + la (k + 1))
      rw [pk_us, pk_us, pk_us, if_neg y]
  · refine br_f (by decide) (br_t rfl ⟨v0, v1, v0, nm_e ⟨v0, v1, br_c (fun y => ⟨v0, nm_e ⟨v1, v0, nm_e ?_⟩⟩) (fun y => ⟨v0, nm_e ⟨v1, v0, nm_e ?_⟩⟩)⟩⟩)
    · refine h _ _ _ ?_ (fun p hp => by unfold lc_bx; rw [pk_un hp, pk_un hp, pk_un hp])
      rw [lc_jn, if_neg lc_n21, if_pos rfl]
      show (upd _ _ _ _, upd _ _ _ _, upd _ _ _ _) = (en k + (en (k + 1) + 1), (if wi k ≤ wi (k + 1) then wi (k + 1) else wi k), la (k + 1))
      rw [pk_us, pk_us, pk_us, if_pos y]
    · refine h _ _ _ ?_ (fun p hp => by unfold lc_bx; rw [pk_un hp, pk_un hp, pk_un hp])
      rw [lc_jn, if_neg lc_n21, if_pos rfl]
      show (upd _ _ _ _, upd _ _ _ _, upd _ _ _ _) = (en k + (en (k + 1) + 1), (if wi k ≤ wi (k + 1) then wi (k + 1) else wi k), la (k + 1))
      rw [pk_us, pk_us, pk_us, if_neg y]
  · refine br_f (by decide) (br_f (by decide) (br_c (fun y => ?_) (fun y => ⟨v1, v0, nm_e ⟨v1, v0, nm_e ⟨v1, v0, nm_e ?_⟩⟩⟩)))
    · refine h _ _ _ ?_ (fun p hp => rfl)
      rw [lc_jn4, if_neg (hz.mp y)]
    · refine h _ _ _ ?_ (fun p hp => by unfold lc_bx; rw [pk_un hp, pk_un hp, pk_un hp])
      rw [lc_jn4, if_pos (Classical.byContradiction (fun q => y (hz.mpr q)))]
      unfold lc_bx
      rw [pk_us, pk_us, pk_us]
theorem lc_make_l {post : SY → Prop} {H E : Int32} {c a be bw bl : Nat → Int32} {T w : Nat} (V : lc_VT c a T) (hT : T ≤ 48) (hw : w < 64) (h : ∀ en wi la, (∀ p, p < lc_ht c T → lc_bx en wi la p = lc_pf c a w T p) → post (nI T, H, E, nI (lc_ht c T), c, a, en, wi, la, be, bw, bl)) : ∀ d i, i + d = T → ∀ en wi la, (∀ p, p < lc_ht c i → lc_bx en wi la p = lc_pf c a w i p) → wY_make_9 post (nI w) (d + 1) (nI (lc_ec c i)) (nI i) (nI T) H E (nI (lc_ht c i)) c a en wi la be bw bl := by
  intro d
  induction d with
  | zero =>
    intro i hi en wi la hI
    obtain rfl : i = T := by omega
    rw [wY_make_9]
    exact br_t (nI_le (Nat.le_refl _) (by omega)) (h _ _ _ hI)
  | succ d ih =>
    intro i hi en wi la hI
    have ci : (nI i).toNatClampNeg = i := nI_clamp (by omega)
    have vi : vp_in (nI i) 48 := vp_in_nI (by omega) (by omega)
    obtain ⟨lh, le⟩ := lc_lim V i (by omega)
    rw [wY_make_9]; dsimp only; rw [ci]
    refine br_f (nI_ge (by omega) (by omega)) ⟨vi, nm_e ?_⟩
    have Vi := V i (by omega)
    have IH := ih (i + 1) (by omega)
    rw [lc_hts, lc_ecs] at IH
    simp only [lc_pfs] at IH
    have jn : ∀ x, c i = x → (x = 1 ∨ x = 2 ∨ x = 4) → 2 ≤ lc_ht c i → lc_hs x (lc_ht c i) = lc_ht c i - 1 → (∀ up n f p, lc_st x n up (lc_ht c i) f p = if p + 2 = lc_ht c i then lc_jn x up (f p) (f (p + 1)) else f p) → ∀ z, (z = 0 ↔ ¬ w.testBit (lc_ec c i) = true) → wY_make_149 post (wY_make_9 post (nI w) (d + 1)) (nI w) (nI (lc_ec c i)) (nI i) x z x (nI T) H E (nI (lc_ht c i)) c a en wi la be bw bl := by
      intro x ex hx h2 hhs hst z hz
      obtain ⟨k, hk⟩ : ∃ k, lc_ht c i = k + 2 := ⟨lc_ht c i - 2, by omega⟩
      rw [ex, hhs, hk] at IH
      unfold wY_make_149
      rw [hk]
      refine lc_join (w.testBit (lc_ec c i)) (by omega) hx hz (fun en' wi' la' he hne => ?_)
      have go := IH en' wi' la' (fun p hp => by
        rw [← hk, hst]
        by_cases y : p = k
        · subst y
          rw [if_pos hk.symm, he, hI p (by omega), hI (p + 1) (by omega)]
        · rw [if_neg (by omega), hne p y, hI p (by omega)])
      refine br_c (fun y => nm_r (nI_1 _) (nm_r (nI_1 _) ?_)) (fun y => nm_r (nI_1 _) ?_)
      · rw [if_pos y] at go; exact go
      · rw [if_neg y] at go; exact go
    have jn2 : ∀ x, c i = x → ¬ x = 0 → ¬ x = 3 → (x = 1 ∨ x = 2 ∨ x = 4) → 2 ≤ lc_ht c i → lc_hs x (lc_ht c i) = lc_ht c i - 1 → (∀ up n f p, lc_st x n up (lc_ht c i) f p = if p + 2 = lc_ht c i then lc_jn x up (f p) (f (p + 1)) else f p) → (((nI w >>> (nI (lc_ec c i) &&& 31)) &&& 1 = 1 → wY_make_149 post (wY_make_9 post (nI w) (d + 1)) (nI w) (nI (lc_ec c i)) (nI i) x 1 x (nI T) H E (nI (lc_ht c i)) c a en wi la be bw bl) ∧ (¬ (nI w >>> (nI (lc_ec c i) &&& 31)) &&& 1 = 1 → wY_make_149 post (wY_make_9 post (nI w) (d + 1)) (nI w) (nI (lc_ec c i)) (nI i) x 0 x (nI T) H E (nI (lc_ht c i)) c a en wi la be bw bl)) := by
      intro x ex _ _ hx h2 hhs hst
      rw [lc_bit w hw _ (by omega)]
      exact br_c (fun y => jn x ex hx h2 hhs hst 1 ⟨fun q => absurd q (by decide), fun q => absurd y q⟩) (fun y => jn x ex hx h2 hhs hst 0 ⟨fun _ => y, fun _ => rfl⟩)
    rcases Vi with ⟨e, _, h1⟩ | ⟨e, _, h1⟩ | ⟨e, h2⟩ | ⟨e, h2⟩ | ⟨e, h2, _⟩
    · have ch : (nI (lc_ht c i)).toNatClampNeg = lc_ht c i := nI_clamp (by omega)
      have vh : vp_in (nI (lc_ht c i)) 11 := vp_in_nI (by omega) (by omega)
      rw [e, ch]
      rw [e, lc_hs0, if_neg lc_n04] at IH
      refine br_t rfl ⟨vh, nm_e ⟨vi, vh, nm_e ⟨vi, vh, nm_e (nm_r (nI_1 _) (nm_r (nI_1 _) (IH _ _ _ (fun p hp => ?_))))⟩⟩⟩
      rw [lc_st0]
      by_cases y : p = lc_ht c i
      · subst y; unfold lc_bx; rw [pk_us, pk_us, pk_us, if_pos rfl]
      · rw [if_neg y, ← hI p (by omega)]; unfold lc_bx; rw [pk_un y, pk_un y, pk_un y]
    · obtain ⟨k, hk⟩ : ∃ k, lc_ht c i = k + 1 := ⟨lc_ht c i - 1, by omega⟩
      have ch : (nI k).toNatClampNeg = k := nI_clamp (by omega)
      have vh : vp_in (nI k) 11 := vp_in_nI (by omega) (by omega)
      rw [e, lc_hs3, if_neg lc_n34, hk] at IH
      rw [e, hk, nI_pred, ch]
      refine br_f (by decide) (br_t rfl ⟨vh, vi, vh, nm_e ⟨vh, vi, vh, nm_e (nm_r (nI_1 _) (IH _ _ _ (fun p hp => ?_)))⟩⟩)
      rw [lc_st3]
      by_cases y : p = k
      · subst y; rw [if_pos rfl, ← hI p (by omega)]; unfold lc_bx; rw [pk_us, pk_us]; rfl
      · rw [if_neg (by omega), ← hI p (by omega)]; unfold lc_bx; rw [pk_un y, pk_un y]
    · rw [e]
      exact br_f (by decide) (br_f (by decide) (jn2 1 e (by decide) (by decide) (Or.inl rfl) h2 lc_hs1 (fun up n f p => (if_neg lc_n10).trans (if_neg lc_n13))))
    · rw [e]
      exact br_f (by decide) (br_f (by decide) (jn2 2 e (by decide) (by decide) (Or.inr (Or.inl rfl)) h2 lc_hs2 (fun up n f p => (if_neg lc_n20).trans (if_neg lc_n23))))
    · rw [e]
      exact br_f (by decide) (br_f (by decide) (jn2 4 e (by decide) (by decide) (Or.inr (Or.inr rfl)) h2 lc_hs4 (fun up n f p => (if_neg lc_n40).trans (if_neg lc_n43))))
theorem lc_make {post : SY → Prop} {H E d : Int32} {c a en wi la be bw bl : Nat → Int32} {T w : Nat} (V : lc_VT c a T) (hT : T ≤ 48) (hw : w < 64) (h : ∀ en wi la, (∀ p, p < lc_ht c T → lc_bx en wi la p = lc_pf c a w T p) → post (nI T, H, E, nI (lc_ht c T), c, a, en, wi, la, be, bw, bl)) : wpY_make post (nI T, H, E, d, c, a, en, wi, la, be, bw, bl) (nI w) :=
  ⟨T + 1, lc_make_l V hT hw h T 0 (by omega) en wi la (fun p hp => absurd hp (Nat.not_lt_zero p))⟩
theorem lc_makeAll_l {post : Int32 → SY → Prop} {c a : Nat → Int32} {T k N : Nat} (V : lc_VT c a T) (hT : T ≤ 48) (hk : k < lc_ht c T) (hN : N ≤ 64) (h : ∀ d en wi la be bw bl, (∀ w, w < N → lc_bx be bw bl w = lc_pf c a w T (lc_ht c T - 1 - k)) → post (nI N) (nI T, nI (lc_ht c T), nI (lc_ec c T), d, c, a, en, wi, la, be, bw, bl)) : ∀ d i, i + d = N → ∀ dd en wi la be bw bl, (∀ w, w < i → lc_bx be bw bl w = lc_pf c a w T (lc_ht c T - 1 - k)) → wY_makeAll_9 post (nI k) (nI N) (d + 1) (nI i) (nI T) (nI (lc_ht c T)) (nI (lc_ec c T)) dd c a en wi la be bw bl := by
  have lh := (lc_lim V T (Nat.le_refl _)).1
  have ek : nI (lc_ht c T) - 1 - nI k = nI (lc_ht c T - 1 - k) := by
    obtain ⟨m, hm⟩ : ∃ m, lc_ht c T = m + 1 := ⟨lc_ht c T - 1, by omega⟩
    rw [hm, nI_pred, pk_sub (by omega)]; rfl
  have ck : (nI (lc_ht c T - 1 - k)).toNatClampNeg = lc_ht c T - 1 - k := nI_clamp (by omega)
  have vk : vp_in (nI (lc_ht c T - 1 - k)) 11 := vp_in_nI (by omega) (by omega)
  intro d
  induction d with
  | zero =>
    intro i hi dd en wi la be bw bl hI
    obtain rfl : i = N := by omega
    rw [wY_makeAll_9]
    exact br_t (nI_le (Nat.le_refl _) (by omega)) (h _ _ _ _ _ _ _ hI)
  | succ d ih =>
    intro i hi dd en wi la be bw bl hI
    have ci : (nI i).toNatClampNeg = i := nI_clamp (by omega)
    have vi : vp_in (nI i) 64 := vp_in_nI (by omega) (by omega)
    rw [wY_makeAll_9]
    refine br_f (nI_ge (by omega) (by omega)) (lc_make V hT (by omega) (fun en' wi' la' hM => ?_))
    dsimp only
    rw [ek, ck, ci]
    refine ⟨vk, vi, nm_e ⟨vk, vi, nm_e ⟨vk, vi, nm_e (nm_r (nI_1 _) (ih (i + 1) (by omega) _ _ _ _ _ _ _ (fun w hw => ?_)))⟩⟩⟩
    by_cases y : w = i
    · subst y
      rw [← hM _ (by omega)]
      unfold lc_bx
      rw [pk_us, pk_us, pk_us]
    · rw [← hI w (by omega)]
      unfold lc_bx
      rw [pk_un y, pk_un y, pk_un y]
theorem lc_makeAll {post : Int32 → SY → Prop} {d : Int32} {c a en wi la be bw bl : Nat → Int32} {T k : Nat} (V : lc_VT c a T) (hT : T ≤ 48) (hk : k < lc_ht c T) (h : ∀ d en wi la be bw bl, (∀ w, w < 2 ^ lc_ec c T → lc_bx be bw bl w = lc_pf c a w T (lc_ht c T - 1 - k)) → post (nI (2 ^ lc_ec c T)) (nI T, nI (lc_ht c T), nI (lc_ec c T), d, c, a, en, wi, la, be, bw, bl)) : wpY_makeAll post (nI T, nI (lc_ht c T), nI (lc_ec c T), d, c, a, en, wi, la, be, bw, bl) (nI k) := by
  have le := (lc_lim V T (Nat.le_refl _)).2
  unfold wpY_makeAll
  dsimp only
  refine nm_r (lc_shl _ (by omega)) ⟨2 ^ lc_ec c T + 1, ?_⟩
  exact lc_makeAll_l V hT hk (lc_p6 le) h (2 ^ lc_ec c T) 0 (by omega) d en wi la be bw bl (fun w hw => absurd hw (Nat.not_lt_zero w))
end
section
/-! the least queries -/
theorem pk_least (P : Nat → Prop) (h : ∃ k, P k) : ∃ k, P k ∧ ∀ j, j < k → ¬ P j := by
  obtain ⟨k, hk⟩ := h
  induction k using Nat.strongRecOn with
  | ind k ih =>
    by_cases e : ∃ j, j < k ∧ P j
    · obtain ⟨j, hj, pj⟩ := e
      exact ih j hj pj
    · exact ⟨k, hk, fun j hj pj => e ⟨j, hj, pj⟩⟩
def lc_sq (G : Nat → lc_Bx) (i : Nat) : lc_Bx → Prop := fun b => ∃ j, j < i ∧ G j = b
def lc_IsM (P cond : lc_Bx → Prop) (val : lc_Bx → Int32) (r : Int32) : Prop := (r = -1 ∧ ∀ b, P b → ¬ cond b) ∨ (0 ≤ r ∧ (∃ b, P b ∧ cond b ∧ r = val b) ∧ ∀ b, P b → cond b → r ≤ val b)
theorem lc_IsM_i {P P' cond : lc_Bx → Prop} {val : lc_Bx → Int32} {r : Int32} (h : lc_IsM P cond val r) (e : ∀ b, P' b ↔ P b) : lc_IsM P' cond val r := by
  rcases h with ⟨h1, h2⟩ | ⟨h1, ⟨b, h2, h3⟩, h4⟩
  · exact Or.inl ⟨h1, fun b hb => h2 b ((e b).mp hb)⟩
  · exact Or.inr ⟨h1, ⟨b, (e b).mpr h2, h3⟩, fun b hb => h4 b ((e b).mp hb)⟩
theorem lc_IsM_u {P cond : lc_Bx → Prop} {val : lc_Bx → Int32} {r r' : Int32} (h : lc_IsM P cond val r) (h' : lc_IsM P cond val r') : r = r' := by
  rcases h with ⟨h1, h2⟩ | ⟨h1, ⟨b, h2, h3, h5⟩, h4⟩
  · rcases h' with ⟨k1, k2⟩ | ⟨k1, ⟨b, k2, k3, k5⟩, k4⟩
    · rw [h1, k1]
    · exact absurd k3 (h2 b k2)
  · rcases h' with ⟨k1, k2⟩ | ⟨k1, ⟨d, k2, k3, k5⟩, k4⟩
    · exact absurd h3 (k2 b h2)
    · have a1 := h4 d k2 k3
      have a2 := k4 b h2 h3
      rw [← k5] at a1
      rw [← h5] at a2
      exact Int32.le_antisymm a1 a2
theorem lc_IsM_0 {G : Nat → lc_Bx} {cond : lc_Bx → Prop} {val : lc_Bx → Int32} : lc_IsM (lc_sq G 0) cond val (-1) := Or.inl ⟨rfl, fun _ ⟨j, hj, _⟩ => absurd hj (Nat.not_lt_zero j)⟩
theorem lc_sq_s {G : Nat → lc_Bx} {i : Nat} {b : lc_Bx} : lc_sq G (i + 1) b ↔ lc_sq G i b ∨ G i = b := by
  constructor
  · intro ⟨j, hj, e⟩
    by_cases z : j = i
    · right; rw [← z]; exact e
    · exact Or.inl ⟨j, by omega, e⟩
  · rintro (⟨j, hj, e⟩ | e)
    · exact ⟨j, by omega, e⟩
    · exact ⟨i, by omega, e⟩
theorem lc_IsM_k {G : Nat → lc_Bx} {i : Nat} {cond : lc_Bx → Prop} {val : lc_Bx → Int32} {r : Int32} (h : lc_IsM (lc_sq G i) cond val r) (nc : ¬ cond (G i)) : lc_IsM (lc_sq G (i + 1)) cond val r := by
  rcases h with ⟨h1, h2⟩ | ⟨h1, ⟨b, h2, h3⟩, h4⟩
  · refine Or.inl ⟨h1, fun b hb => ?_⟩
    rcases lc_sq_s.mp hb with hb | rfl
    · exact h2 b hb
    · exact nc
  · refine Or.inr ⟨h1, ⟨b, lc_sq_s.mpr (Or.inl h2), h3⟩, fun b hb hc => ?_⟩
    rcases lc_sq_s.mp hb with hb | rfl
    · exact h4 b hb hc
    · exact absurd hc nc
theorem lc_neg1 : ¬ (0 : Int32) ≤ -1 := by decide
theorem lc_neg2 : (-1 : Int32) < 0 := by decide
/-- nothing found yet: the new one -/
theorem lc_IsM_n {G : Nat → lc_Bx} {i : Nat} {cond : lc_Bx → Prop} {val : lc_Bx → Int32} {r : Int32} (h : lc_IsM (lc_sq G i) cond val r) (hc : cond (G i)) (nn : 0 ≤ val (G i)) (hr : ¬ 0 ≤ r) : lc_IsM (lc_sq G (i + 1)) cond val (val (G i)) := by
  rcases h with ⟨h1, h2⟩ | ⟨h1, _⟩
  · refine Or.inr ⟨nn, ⟨_, lc_sq_s.mpr (Or.inr rfl), hc, rfl⟩, fun b hb hcb => ?_⟩
    rcases lc_sq_s.mp hb with hb | rfl
    · exact absurd hcb (h2 b hb)
    · exact Int32.le_refl _
  · exact absurd h1 hr
/-- the old one stays -/
theorem lc_IsM_o {G : Nat → lc_Bx} {i : Nat} {cond : lc_Bx → Prop} {val : lc_Bx → Int32} {r : Int32} (h : lc_IsM (lc_sq G i) cond val r) (hr : 0 ≤ r) (hle : r ≤ val (G i)) : lc_IsM (lc_sq G (i + 1)) cond val r := by
  rcases h with ⟨h1, h2⟩ | ⟨h1, ⟨b, h2, h3⟩, h4⟩
  · rw [h1] at hr; exact absurd hr lc_neg1
  · refine Or.inr ⟨h1, ⟨b, lc_sq_s.mpr (Or.inl h2), h3⟩, fun b hb hcb => ?_⟩
    rcases lc_sq_s.mp hb with hb | rfl
    · exact h4 b hb hcb
    · exact hle
/-- the new one is less -/
theorem lc_IsM_l {G : Nat → lc_Bx} {i : Nat} {cond : lc_Bx → Prop} {val : lc_Bx → Int32} {r : Int32} (h : lc_IsM (lc_sq G i) cond val r) (hc : cond (G i)) (nn : 0 ≤ val (G i)) (hr : 0 ≤ r) (hlt : ¬ r ≤ val (G i)) : lc_IsM (lc_sq G (i + 1)) cond val (val (G i)) := by
  have hl := Int32.le_of_lt (Int32.not_le.mp hlt)
  rcases h with ⟨h1, h2⟩ | ⟨h1, ⟨b, h2, h3⟩, h4⟩
  · rw [h1] at hr; exact absurd hr lc_neg1
  · refine Or.inr ⟨nn, ⟨_, lc_sq_s.mpr (Or.inr rfl), hc, rfl⟩, fun b hb hcb => ?_⟩
    rcases lc_sq_s.mp hb with hb | rfl
    · exact Int32.le_trans hl (h4 b hb hcb)
    · exact Int32.le_refl _
theorem lc_IsM_m {G : Nat → lc_Bx} {i : Nat} {cond : lc_Bx → Prop} {val : lc_Bx → Int32} {r : Int32} (h : lc_IsM (lc_sq G i) cond val r) : r = -1 ∨ 0 ≤ r := h.elim (fun z => Or.inl z.1) (fun z => Or.inr z.1)
theorem lc_lesser {post : Int32 → Prop} {G : Nat → lc_Bx} {i : Nat} {cond : lc_Bx → Prop} {val : lc_Bx → Int32} {r : Int32} (h : lc_IsM (lc_sq G i) cond val r) (hc : cond (G i)) (nn : 0 ≤ val (G i)) (k : ∀ r', lc_IsM (lc_sq G (i + 1)) cond val r' → post r') : wpX_lesser post r (val (G i)) := by
  unfold wpX_lesser
  refine br_c (fun z => k _ (lc_IsM_n h hc nn (by rw [z]; exact lc_neg1))) (fun z => ?_)
  have hr : 0 ≤ r := (lc_IsM_m h).resolve_left z
  exact br_c (fun y => k _ (lc_IsM_o h hr y)) (fun y => k _ (lc_IsM_l h hc nn hr y))
theorem lc_isDoc {post : Int32 → Prop} {v T E : Int32} {h : Nat} {L W X C : Nat → Int32} (hh : h ≤ 10) (no : (∀ k, k < h → ¬ v = nI k) → post 0) (yes : ∀ k, k < h → v = nI k → post 1) : wpX_isDocument post (nI h, T, E, L, W, X, C) v := by
  unfold wpX_isDocument
  dsimp only
  refine br_c (fun z => no (fun k hk e => ?_)) (fun z => br_c (fun y => no (fun k hk e => ?_)) (fun y => ?_))
  · rw [e] at z; exact nI_pos (by omega) z
  · rw [e] at y; exact nI_ge hk (by omega) y
  · obtain ⟨k, hk, rfl⟩ := nI_of z
    exact yes k (Nat.lt_of_not_le (fun q => y (nI_le q hk))) rfl
theorem lc_missing {post : Int32 → Prop} {v T E d : Int32} {h : Nat} {c a en wi la be bw bl : Nat → Int32} (hh : h ≤ 10) (no : (∀ k, k < h → ¬ v = nI k) → post 1) (yes : ∀ k, k < h → v = nI k → post 0) : wpY_missing post (T, nI h, E, d, c, a, en, wi, la, be, bw, bl) v := by
  unfold wpY_missing
  dsimp only
  refine br_c (fun z => no (fun k hk e => ?_)) (fun z => br_c (fun y => ?_) (fun y => no (fun k hk e => ?_)))
  · rw [e] at z; exact nI_pos (by omega) z
  · obtain ⟨k, hk, rfl⟩ := nI_of z
    exact yes k ((nI_ltI hk (by omega)).mp y) rfl
  · rw [e] at y; exact y (nI_lt hk (by omega))
theorem lc_pk {h k : Nat} (hk : k < h) : nI h - 1 - nI k = nI (h - 1 - k) := by
  obtain ⟨m, rfl⟩ : ∃ m, h = m + 1 := ⟨h - 1, by omega⟩
  rw [nI_pred, pk_sub (by omega)]; rfl
def lc_ov (x : Int32) (b : lc_Bx) : Int32 := if b.2.1 ≤ x then 0 else b.2.1 - x
def lc_co (p x : Int32) (b : lc_Bx) : Int32 := p * b.1 + lc_ov x b * lc_ov x b
theorem lc_gb1 {b : lc_Bx} (h : lc_GB b) : 0 ≤ b.1 := by
  obtain ⟨e, v, l, h1, h2, h3, rfl⟩ := h
  exact nI_pos' (by omega)
theorem lc_gb2 {b : lc_Bx} (h : lc_GB b) : 0 ≤ b.2.1 := by
  obtain ⟨e, v, l, h1, h2, h3, rfl⟩ := h
  exact nI_pos' (by omega)
theorem lc_gb3 {b : lc_Bx} (h : lc_GB b) : 0 ≤ b.2.2 := by
  obtain ⟨e, v, l, h1, h2, h3, rfl⟩ := h
  exact nI_pos' (by omega)
theorem lc_gbc {b : lc_Bx} (h : lc_GB b) {p r : Nat} (hp : p ≤ 100) (hr : r ≤ 200) : 0 ≤ lc_co (nI p) (nI r) b := by
  obtain ⟨e, v, l, h1, h2, h3, rfl⟩ := h
  have ho : ∃ o, o ≤ 1920 ∧ lc_ov (nI r) (nI e, nI v, nI l) = nI o := by
    unfold lc_ov
    by_cases z : v ≤ r
    · exact ⟨0, by omega, if_pos ((nI_leI (by omega) (by omega)).mpr z)⟩
    · exact ⟨v - r, by omega, by rw [if_neg (fun q => z ((nI_leI (by omega) (by omega)).mp q))]; exact pk_sub (by omega)⟩
  obtain ⟨o, h4, h5⟩ := ho
  unfold lc_co
  rw [h5]
  show 0 ≤ nI p * nI e + nI o * nI o
  rw [pk_mul, pk_mul, nI_add]
  have a1 : p * e ≤ 100 * 48 := Nat.mul_le_mul hp h1
  have a2 : o * o ≤ 1920 * 1920 := Nat.mul_le_mul h4 h4
  exact nI_pos' (by omega)

theorem lc_xlines_l {post : Int32 → Prop} {x2 D K E : Int32} {L W X C : Nat → Int32} {q n : Nat} (hq : q ≤ 10) (hn : n ≤ 64) (nn : ∀ i, i < n → 0 ≤ (fun b => b.1) (lc_bx L W X (q * 64 + i))) (h : ∀ r, lc_IsM (lc_sq (fun i => lc_bx L W X (q * 64 + i)) n) (fun b => ¬ x2 < b.2.1) (fun b => b.1) r → post r) : ∀ d i, i + d = n → ∀ r, lc_IsM (lc_sq (fun i => lc_bx L W X (q * 64 + i)) i) (fun b => ¬ x2 < b.2.1) (fun b => b.1) r → wX_lines_29 post x2 (nI (q * 64 + n)) D K E L W X C (d + 1) r (nI (q * 64 + i)) := by
  intro d
  induction d with
  | zero =>
    intro i hi r hI
    obtain rfl : i = n := by omega
    rw [wX_lines_29]
    exact br_t (nI_le (Nat.le_refl _) (by omega)) (h _ hI)
  | succ d ih =>
    intro i hi r hI
    have c2 : (nI (q * 64 + i)).toNatClampNeg = q * 64 + i := nI_clamp (by omega)
    have v2 : vp_in (nI (q * 64 + i)) 704 := vp_in_nI (by omega) (by omega)
    have go : ∀ r', lc_IsM (lc_sq (fun i => lc_bx L W X (q * 64 + i)) (i + 1)) (fun b => ¬ x2 < b.2.1) (fun b => b.1) r' → ∀ y, y = nI (q * 64 + i) + 1 → wX_lines_29 post x2 (nI (q * 64 + n)) D K E L W X C (d + 1) r' y := fun r' hr' => nm_r (nI_1 _) (ih (i + 1) (by omega) r' hr')
    rw [wX_lines_29]; dsimp only; rw [c2]
    exact br_f (nI_ge (by omega) (by omega)) ⟨v2, br_c (fun z => go r (lc_IsM_k hI (fun y => y z))) (fun z => ⟨v2, lc_lesser hI z (nn i (by omega)) go⟩)⟩

theorem lc_xwidth_l {post : Int32 → Prop} {x2 D K E : Int32} {L W X C : Nat → Int32} {q n : Nat} (hq : q ≤ 10) (hn : n ≤ 64) (nn : ∀ i, i < n → 0 ≤ (fun b => b.2.1) (lc_bx L W X (q * 64 + i))) (h : ∀ r, lc_IsM (lc_sq (fun i => lc_bx L W X (q * 64 + i)) n) (fun b => ¬ x2 < b.1) (fun b => b.2.1) r → post r) : ∀ d i, i + d = n → ∀ r, lc_IsM (lc_sq (fun i => lc_bx L W X (q * 64 + i)) i) (fun b => ¬ x2 < b.1) (fun b => b.2.1) r → wX_width_29 post x2 (nI (q * 64 + n)) D K E L W X C (d + 1) r (nI (q * 64 + i)) := by
  intro d
  induction d with
  | zero =>
    intro i hi r hI
    obtain rfl : i = n := by omega
    rw [wX_width_29]
    exact br_t (nI_le (Nat.le_refl _) (by omega)) (h _ hI)
  | succ d ih =>
    intro i hi r hI
    have c2 : (nI (q * 64 + i)).toNatClampNeg = q * 64 + i := nI_clamp (by omega)
    have v2 : vp_in (nI (q * 64 + i)) 704 := vp_in_nI (by omega) (by omega)
    have go : ∀ r', lc_IsM (lc_sq (fun i => lc_bx L W X (q * 64 + i)) (i + 1)) (fun b => ¬ x2 < b.1) (fun b => b.2.1) r' → ∀ y, y = nI (q * 64 + i) + 1 → wX_width_29 post x2 (nI (q * 64 + n)) D K E L W X C (d + 1) r' y := fun r' hr' => nm_r (nI_1 _) (ih (i + 1) (by omega) r' hr')
    rw [wX_width_29]; dsimp only; rw [c2]
    exact br_f (nI_ge (by omega) (by omega)) ⟨v2, br_c (fun z => go r (lc_IsM_k hI (fun y => y z))) (fun z => ⟨v2, lc_lesser hI z (nn i (by omega)) go⟩)⟩

theorem lc_xlast_l {post : Int32 → Prop} {x2 x3 D K E : Int32} {L W X C : Nat → Int32} {q n : Nat} (hq : q ≤ 10) (hn : n ≤ 64) (nn : ∀ i, i < n → 0 ≤ (fun b => b.2.2) (lc_bx L W X (q * 64 + i))) (h : ∀ r, lc_IsM (lc_sq (fun i => lc_bx L W X (q * 64 + i)) n) (fun b => ¬ x2 < b.1 ∧ ¬ x3 < b.2.1) (fun b => b.2.2) r → post r) : ∀ d i, i + d = n → ∀ r, lc_IsM (lc_sq (fun i => lc_bx L W X (q * 64 + i)) i) (fun b => ¬ x2 < b.1 ∧ ¬ x3 < b.2.1) (fun b => b.2.2) r → wX_last_31 post x2 x3 (nI (q * 64 + n)) D K E L W X C (d + 1) r (nI (q * 64 + i)) := by
  intro d
  induction d with
  | zero =>
    intro i hi r hI
    obtain rfl : i = n := by omega
    rw [wX_last_31]
    exact br_t (nI_le (Nat.le_refl _) (by omega)) (h _ hI)
  | succ d ih =>
    intro i hi r hI
    have c2 : (nI (q * 64 + i)).toNatClampNeg = q * 64 + i := nI_clamp (by omega)
    have v2 : vp_in (nI (q * 64 + i)) 704 := vp_in_nI (by omega) (by omega)
    have go : ∀ r', lc_IsM (lc_sq (fun i => lc_bx L W X (q * 64 + i)) (i + 1)) (fun b => ¬ x2 < b.1 ∧ ¬ x3 < b.2.1) (fun b => b.2.2) r' → ∀ y, y = nI (q * 64 + i) + 1 → wX_last_31 post x2 x3 (nI (q * 64 + n)) D K E L W X C (d + 1) r' y := fun r' hr' => nm_r (nI_1 _) (ih (i + 1) (by omega) r' hr')
    rw [wX_last_31]; dsimp only; rw [c2]
    exact br_f (nI_ge (by omega) (by omega)) ⟨v2, br_c (fun z => go r (lc_IsM_k hI (fun y => y.1 z))) (fun z => ⟨v2, br_c (fun z' => go r (lc_IsM_k hI (fun y => y.2 z'))) (fun z' => ⟨v2, lc_lesser hI ⟨z, z'⟩ (nn i (by omega)) go⟩)⟩)⟩

theorem lc_xcost_l {post : Int32 → Prop} {x4 x5 D K E : Int32} {L W X C : Nat → Int32} {q n : Nat} (hq : q ≤ 10) (hn : n ≤ 64) (nn : ∀ i, i < n → 0 ≤ (lc_co x4 x5) (lc_bx L W X (q * 64 + i))) (h : ∀ r, lc_IsM (lc_sq (fun i => lc_bx L W X (q * 64 + i)) n) (fun _ => True) (lc_co x4 x5) r → post r) : ∀ d i, i + d = n → ∀ r, lc_IsM (lc_sq (fun i => lc_bx L W X (q * 64 + i)) i) (fun _ => True) (lc_co x4 x5) r → wX_cost_48 post x4 x5 (nI (q * 64 + n)) D K E L W X C (d + 1) r (nI (q * 64 + i)) := by
  intro d
  induction d with
  | zero =>
    intro i hi r hI
    obtain rfl : i = n := by omega
    rw [wX_cost_48]
    exact br_t (nI_le (Nat.le_refl _) (by omega)) (h _ hI)
  | succ d ih =>
    intro i hi r hI
    have c2 : (nI (q * 64 + i)).toNatClampNeg = q * 64 + i := nI_clamp (by omega)
    have v2 : vp_in (nI (q * 64 + i)) 704 := vp_in_nI (by omega) (by omega)
    have go : ∀ r', lc_IsM (lc_sq (fun i => lc_bx L W X (q * 64 + i)) (i + 1)) (fun _ => True) (lc_co x4 x5) r' → ∀ y, y = nI (q * 64 + i) + 1 → wX_cost_48 post x4 x5 (nI (q * 64 + n)) D K E L W X C (d + 1) r' y := fun r' hr' => nm_r (nI_1 _) (ih (i + 1) (by omega) r' hr')
    rw [wX_cost_48]; dsimp only; unfold wX_cost_81; rw [c2]
    have key := lc_lesser hI trivial (nn i (by omega)) go
    refine br_f (nI_ge (by omega) (by omega)) ⟨v2, br_c (fun z => ⟨v2, ?_⟩) (fun z => ⟨v2, v2, ?_⟩)⟩
    · have e : lc_co x4 x5 (lc_bx L W X (q * 64 + i)) = x4 * L (q * 64 + i) + 0 * 0 := by
        unfold lc_co lc_ov; rw [if_pos (show (lc_bx L W X (q * 64 + i)).2.1 ≤ x5 from z)]; rfl
      rw [e] at key
      exact key
    · have e : lc_co x4 x5 (lc_bx L W X (q * 64 + i)) = x4 * L (q * 64 + i) + (W (q * 64 + i) - x5) * (W (q * 64 + i) - x5) := by
        unfold lc_co lc_ov; rw [if_neg (show ¬ (lc_bx L W X (q * 64 + i)).2.1 ≤ x5 from z)]; rfl
      rw [e] at key
      exact key

theorem lc_ylines_l {post : Int32 → SY → Prop} {x2 T H E d : Int32} {c a en wi la be bw bl : Nat → Int32} {N : Nat} (hN : N ≤ 64) (nn : ∀ i, i < N → 0 ≤ (fun b => b.1) (lc_bx be bw bl i)) (h : ∀ r, lc_IsM (lc_sq (fun i => lc_bx be bw bl i) N) (fun b => ¬ x2 < b.2.1) (fun b => b.1) r → post r (T, H, E, d, c, a, en, wi, la, be, bw, bl)) : ∀ s i, i + s = N → ∀ r, lc_IsM (lc_sq (fun i => lc_bx be bw bl i) i) (fun b => ¬ x2 < b.2.1) (fun b => b.1) r → wY_lines_22 post x2 (nI N) T H E d c a en wi la be bw bl (s + 1) r (nI i) := by
  intro s
  induction s with
  | zero =>
    intro i hi r hI
    obtain rfl : i = N := by omega
    rw [wY_lines_22]
    exact br_t (nI_le (Nat.le_refl _) (by omega)) (h _ hI)
  | succ s ih =>
    intro i hi r hI
    have c2 : (nI i).toNatClampNeg = i := nI_clamp (by omega)
    have v2 : vp_in (nI i) 64 := vp_in_nI (by omega) (by omega)
    have go : ∀ r', lc_IsM (lc_sq (fun i => lc_bx be bw bl i) (i + 1)) (fun b => ¬ x2 < b.2.1) (fun b => b.1) r' → ∀ y, y = nI i + 1 → wY_lines_22 post x2 (nI N) T H E d c a en wi la be bw bl (s + 1) r' y := fun r' hr' => nm_r (nI_1 _) (ih (i + 1) (by omega) r' hr')
    have ng : r < 0 → ¬ 0 ≤ r := fun z y => Int32.not_lt.mpr y z
    have ps : ¬ r < 0 → 0 ≤ r := fun z => Int32.not_lt.mp z
    have n1 := nn i (by omega)
    rw [wY_lines_22]; dsimp only; rw [c2]
    exact br_f (nI_ge (by omega) (by omega)) ⟨v2, br_c (fun z => go r (lc_IsM_k hI (fun y => y z))) (fun z => br_c (fun y => ⟨v2, nm_e (go _ (lc_IsM_n hI z n1 (ng y)))⟩) (fun y => ⟨v2, br_c (fun q => go _ (lc_IsM_o hI (ps y) q)) (fun q => ⟨v2, nm_e (go _ (lc_IsM_l hI z n1 (ps y) q))⟩)⟩))⟩

theorem lc_ywidth_l {post : Int32 → SY → Prop} {x2 T H E d : Int32} {c a en wi la be bw bl : Nat → Int32} {N : Nat} (hN : N ≤ 64) (nn : ∀ i, i < N → 0 ≤ (fun b => b.2.1) (lc_bx be bw bl i)) (h : ∀ r, lc_IsM (lc_sq (fun i => lc_bx be bw bl i) N) (fun b => ¬ x2 < b.1) (fun b => b.2.1) r → post r (T, H, E, d, c, a, en, wi, la, be, bw, bl)) : ∀ s i, i + s = N → ∀ r, lc_IsM (lc_sq (fun i => lc_bx be bw bl i) i) (fun b => ¬ x2 < b.1) (fun b => b.2.1) r → wY_width_22 post x2 (nI N) T H E d c a en wi la be bw bl (s + 1) r (nI i) := by
  intro s
  induction s with
  | zero =>
    intro i hi r hI
    obtain rfl : i = N := by omega
    rw [wY_width_22]
    exact br_t (nI_le (Nat.le_refl _) (by omega)) (h _ hI)
  | succ s ih =>
    intro i hi r hI
    have c2 : (nI i).toNatClampNeg = i := nI_clamp (by omega)
    have v2 : vp_in (nI i) 64 := vp_in_nI (by omega) (by omega)
    have go : ∀ r', lc_IsM (lc_sq (fun i => lc_bx be bw bl i) (i + 1)) (fun b => ¬ x2 < b.1) (fun b => b.2.1) r' → ∀ y, y = nI i + 1 → wY_width_22 post x2 (nI N) T H E d c a en wi la be bw bl (s + 1) r' y := fun r' hr' => nm_r (nI_1 _) (ih (i + 1) (by omega) r' hr')
    have ng : r < 0 → ¬ 0 ≤ r := fun z y => Int32.not_lt.mpr y z
    have ps : ¬ r < 0 → 0 ≤ r := fun z => Int32.not_lt.mp z
    have n1 := nn i (by omega)
    rw [wY_width_22]; dsimp only; rw [c2]
    exact br_f (nI_ge (by omega) (by omega)) ⟨v2, br_c (fun z => go r (lc_IsM_k hI (fun y => y z))) (fun z => br_c (fun y => ⟨v2, nm_e (go _ (lc_IsM_n hI z n1 (ng y)))⟩) (fun y => ⟨v2, br_c (fun q => go _ (lc_IsM_o hI (ps y) q)) (fun q => ⟨v2, nm_e (go _ (lc_IsM_l hI z n1 (ps y) q))⟩)⟩))⟩

theorem lc_ylast_l {post : Int32 → SY → Prop} {x2 x3 T H E d : Int32} {c a en wi la be bw bl : Nat → Int32} {N : Nat} (hN : N ≤ 64) (nn : ∀ i, i < N → 0 ≤ (fun b => b.2.2) (lc_bx be bw bl i)) (h : ∀ r, lc_IsM (lc_sq (fun i => lc_bx be bw bl i) N) (fun b => ¬ x2 < b.1 ∧ ¬ x3 < b.2.1) (fun b => b.2.2) r → post r (T, H, E, d, c, a, en, wi, la, be, bw, bl)) : ∀ s i, i + s = N → ∀ r, lc_IsM (lc_sq (fun i => lc_bx be bw bl i) i) (fun b => ¬ x2 < b.1 ∧ ¬ x3 < b.2.1) (fun b => b.2.2) r → wY_last_23 post x2 x3 (nI N) T H E d c a en wi la be bw bl (s + 1) r (nI i) := by
  intro s
  induction s with
  | zero =>
    intro i hi r hI
    obtain rfl : i = N := by omega
    rw [wY_last_23]
    exact br_t (nI_le (Nat.le_refl _) (by omega)) (h _ hI)
  | succ s ih =>
    intro i hi r hI
    have c2 : (nI i).toNatClampNeg = i := nI_clamp (by omega)
    have v2 : vp_in (nI i) 64 := vp_in_nI (by omega) (by omega)
    have go : ∀ r', lc_IsM (lc_sq (fun i => lc_bx be bw bl i) (i + 1)) (fun b => ¬ x2 < b.1 ∧ ¬ x3 < b.2.1) (fun b => b.2.2) r' → ∀ y, y = nI i + 1 → wY_last_23 post x2 x3 (nI N) T H E d c a en wi la be bw bl (s + 1) r' y := fun r' hr' => nm_r (nI_1 _) (ih (i + 1) (by omega) r' hr')
    have ng : r < 0 → ¬ 0 ≤ r := fun z y => Int32.not_lt.mpr y z
    have ps : ¬ r < 0 → 0 ≤ r := fun z => Int32.not_lt.mp z
    have n1 := nn i (by omega)
    rw [wY_last_23]; dsimp only; unfold wY_last_56 wY_last_57; rw [c2]
    exact br_f (nI_ge (by omega) (by omega)) ⟨v2, br_c (fun z => br_t rfl (go r (lc_IsM_k hI (fun y => y.1 z)))) (fun z => ⟨v2, br_c (fun z' => br_t rfl (go r (lc_IsM_k hI (fun y => y.2 z')))) (fun z' => br_f (by decide) (br_c (fun y => ⟨v2, nm_e (go _ (lc_IsM_n hI ⟨z, z'⟩ n1 (ng y)))⟩) (fun y => ⟨v2, br_c (fun q => go _ (lc_IsM_o hI (ps y) q)) (fun q => ⟨v2, nm_e (go _ (lc_IsM_l hI ⟨z, z'⟩ n1 (ps y) q))⟩)⟩)))⟩)⟩

theorem lc_ycost_l {post : Int32 → SY → Prop} {x4 x5 T H E d : Int32} {c a en wi la be bw bl : Nat → Int32} {N : Nat} (hN : N ≤ 64) (nn : ∀ i, i < N → 0 ≤ (lc_co x4 x5) (lc_bx be bw bl i)) (h : ∀ r, lc_IsM (lc_sq (fun i => lc_bx be bw bl i) N) (fun _ => True) (lc_co x4 x5) r → post r (T, H, E, d, c, a, en, wi, la, be, bw, bl)) : ∀ s i, i + s = N → ∀ r, lc_IsM (lc_sq (fun i => lc_bx be bw bl i) i) (fun _ => True) (lc_co x4 x5) r → wY_cost_40 post x4 x5 (nI N) T H E d c a en wi la be bw bl (s + 1) r (nI i) := by
  intro s
  induction s with
  | zero =>
    intro i hi r hI
    obtain rfl : i = N := by omega
    rw [wY_cost_40]
    exact br_t (nI_le (Nat.le_refl _) (by omega)) (h _ hI)
  | succ s ih =>
    intro i hi r hI
    have c2 : (nI i).toNatClampNeg = i := nI_clamp (by omega)
    have v2 : vp_in (nI i) 64 := vp_in_nI (by omega) (by omega)
    have go : ∀ r', lc_IsM (lc_sq (fun i => lc_bx be bw bl i) (i + 1)) (fun _ => True) (lc_co x4 x5) r' → ∀ y, y = nI i + 1 → wY_cost_40 post x4 x5 (nI N) T H E d c a en wi la be bw bl (s + 1) r' y := fun r' hr' => nm_r (nI_1 _) (ih (i + 1) (by omega) r' hr')
    have ng : r < 0 → ¬ 0 ≤ r := fun z y => Int32.not_lt.mpr y z
    have ps : ¬ r < 0 → 0 ≤ r := fun z => Int32.not_lt.mp z
    have n1 := nn i (by omega)
    rw [wY_cost_40]; dsimp only; unfold wY_cost_73; rw [c2]
    have k1 := fun y => go _ (lc_IsM_n hI trivial n1 (ng y))
    have k2 := fun y q => go _ (lc_IsM_o hI (ps y) q)
    have k3 := fun y q => go _ (lc_IsM_l hI trivial n1 (ps y) q)
    refine br_f (nI_ge (by omega) (by omega)) ⟨v2, br_c (fun z => ⟨v2, ?_⟩) (fun z => ⟨v2, v2, ?_⟩)⟩
    · have e : lc_co x4 x5 (lc_bx be bw bl i) = x4 * be i + 0 * 0 := by
        unfold lc_co lc_ov; rw [if_pos (show (lc_bx be bw bl i).2.1 ≤ x5 from z)]; rfl
      rw [e] at k1 k2 k3
      exact nm_e (br_c k1 (fun y => br_c (k2 y) (k3 y)))
    · have e : lc_co x4 x5 (lc_bx be bw bl i) = x4 * be i + (bw i - x5) * (bw i - x5) := by
        unfold lc_co lc_ov; rw [if_neg (show ¬ (lc_bx be bw bl i).2.1 ≤ x5 from z)]; rfl
      rw [e] at k1 k2 k3
      exact nm_e (br_c k1 (fun y => br_c (k2 y) (k3 y)))
end
section
/-! best: counts of the boxes that none beats -/
def lc_le (b d : lc_Bx) : Prop := ¬ d.1 < b.1 ∧ ¬ d.2.1 < b.2.1 ∧ ¬ d.2.2 < b.2.2
def lc_BX (G : Nat → lc_Bx) (n i : Nat) : Prop := ¬ ∃ j, j < n ∧ j ≠ i ∧ lc_le (G j) (G i)
def lc_gd (G : Nat → lc_Bx) (w v : Nat) : Prop := (G v = G w → ¬ v < w) ∧ (¬ G v = G w → ¬ lc_le (G v) (G w))
def lc_BY (G : Nat → lc_Bx) (N w : Nat) : Prop := ∀ v, v < N → lc_gd G w v
theorem lc_count {G F : Nat → lc_Bx} {n N : Nat} (hd : ∀ i j, i < n → j < n → G i = G j → i = j) (hs : ∀ b, (∃ w, w < N ∧ F w = b) ↔ ∃ i, i < n ∧ G i = b) : lc_cn (lc_BX G n) n = lc_cn (lc_BY F N) N := by
  apply Nat.le_antisymm
  · refine lc_php (fun i w => G i = F w) (lc_BX G n) N n (lc_BY F N) (fun i hi q => ?_) (fun i i' w hi hi' _ _ e e' => hd i i' hi hi' (e.trans e'.symm))
    obtain ⟨w, ⟨hw, ew⟩, hl⟩ := pk_least (fun w => w < N ∧ F w = G i) ((hs (G i)).mpr ⟨i, hi, rfl⟩)
    refine ⟨w, hw, fun v hv => ⟨fun e z => hl v z ⟨hv, e.trans ew⟩, fun e z => ?_⟩, ew.symm⟩
    obtain ⟨j, hj, ej⟩ := (hs (F v)).mp ⟨v, hv, rfl⟩
    refine q ⟨j, hj, fun y => e ?_, ?_⟩
    · rw [← ej, y, ew]
    · rw [ej, ← ew]; exact z
  · refine lc_php (fun w i => G i = F w) (lc_BY F N) n N (lc_BX G n) (fun w hw q => ?_) (fun w w' i hw hw' q q' e e' => ?_)
    · obtain ⟨i, hi, ei⟩ := (hs (F w)).mp ⟨w, hw, rfl⟩
      refine ⟨i, hi, fun ⟨j, hj, hne, hle⟩ => ?_, ei⟩
      obtain ⟨v, hv, ev⟩ := (hs (G j)).mpr ⟨j, hj, rfl⟩
      refine (q v hv).2 (fun y => hne (hd j i hj hi ?_)) ?_
      · rw [← ev, y, ei]
      · rw [ev, ← ei]; exact hle
    · have a1 := (q w' hw').1 (e'.symm.trans e)
      have a2 := (q' w hw).1 (e.symm.trans e')
      omega
theorem lc_xbeat_l {post : Int32 → Prop} {D K E : Int32} {L W X C : Nat → Int32} {q n i : Nat} (hq : q ≤ 10) (hn : n ≤ 64) (hi : i < n) (h0 : lc_BX (fun j => lc_bx L W X (q * 64 + j)) n i → post 0) (h1 : ¬ lc_BX (fun j => lc_bx L W X (q * 64 + j)) n i → post 1) : ∀ d j, j + d = n → (∀ j', j' < j → j' ≠ i → ¬ lc_le (lc_bx L W X (q * 64 + j')) (lc_bx L W X (q * 64 + i))) → wX_isBeaten_3 post (nI (q * 64 + i)) (nI (q * 64 + n)) D K E L W X C (d + 1) (nI (q * 64 + j)) := by
  have ci : (nI (q * 64 + i)).toNatClampNeg = q * 64 + i := nI_clamp (by omega)
  have vi : vp_in (nI (q * 64 + i)) 704 := vp_in_nI (by omega) (by omega)
  intro d
  induction d with
  | zero =>
    intro j hj hI
    obtain rfl : j = n := by omega
    rw [wX_isBeaten_3]
    exact br_t (nI_le (Nat.le_refl _) (by omega)) (h0 (fun ⟨j', h2, h3, h4⟩ => hI j' h2 h3 h4))
  | succ d ih =>
    intro j hj hI
    have cj : (nI (q * 64 + j)).toNatClampNeg = q * 64 + j := nI_clamp (by omega)
    have vj : vp_in (nI (q * 64 + j)) 704 := vp_in_nI (by omega) (by omega)
    have go : (j ≠ i → ¬ lc_le (lc_bx L W X (q * 64 + j)) (lc_bx L W X (q * 64 + i))) → ∀ y, y = nI (q * 64 + j) + 1 → wX_isBeaten_3 post (nI (q * 64 + i)) (nI (q * 64 + n)) D K E L W X C (d + 1) y := by
      intro hz
      refine nm_r (nI_1 _) (ih (j + 1) (by omega) (fun j' h2 => ?_))
      by_cases y : j' = j
      · rw [y]; exact hz
      · exact hI j' (by omega)
    have ie : nI (q * 64 + j) = nI (q * 64 + i) ↔ j = i := by
      rw [nI_eq (by omega) (by omega)]; omega
    rw [wX_isBeaten_3]; dsimp only; rw [ie, ci, cj]
    exact br_f (nI_ge (by omega) (by omega)) (br_c (fun z => go (fun y => absurd z y)) (fun z => ⟨vj, vi, br_c (fun y => go (fun _ l => l.1 y)) (fun y1 => ⟨vj, vi, br_c (fun y => go (fun _ l => l.2.1 y)) (fun y2 => ⟨vj, vi, br_c (fun y => go (fun _ l => l.2.2 y)) (fun y3 => h1 (fun b => b ⟨j, by omega, z, y1, y2, y3⟩))⟩)⟩)⟩))
theorem lc_xbest_l {post : Int32 → Prop} {D K E : Int32} {L W X C : Nat → Int32} {q n : Nat} (hq : q ≤ 10) (hn : n ≤ 64) (h : post (nI (lc_cn (lc_BX (fun j => lc_bx L W X (q * 64 + j)) n) n))) : ∀ d i, i + d = n → wX_best_28 post (nI (q * 64)) (nI (q * 64 + n)) D K E L W X C (d + 1) (nI (lc_cn (lc_BX (fun j => lc_bx L W X (q * 64 + j)) n) i)) (nI (q * 64 + i)) := by
  intro d
  induction d with
  | zero =>
    intro i hi
    obtain rfl : i = n := by omega
    rw [wX_best_28]
    exact br_t (nI_le (Nat.le_refl _) (by omega)) h
  | succ d ih =>
    intro i hi
    rw [wX_best_28]
    have IH := ih (i + 1) (by omega)
    refine br_f (nI_ge (by omega) (by omega)) ⟨n + 1, lc_xbeat_l (i := i) hq hn (by omega) (fun b => br_t rfl (nm_r (nI_1 _) (nm_r (nI_1 _) ?_))) (fun b => br_f (by decide) (nm_r (nI_1 _) ?_)) n 0 (by omega) (fun j' hj' => absurd hj' (Nat.not_lt_zero j'))⟩
    · rw [lc_cn_t b] at IH; exact IH
    · rw [lc_cn_f b] at IH; exact IH
theorem lc_same {post : Int32 → Prop} {T H E d : Int32} {c a en wi la be bw bl : Nat → Int32} {v w : Nat} (hv : v < 64) (hw : w < 64) (h1 : lc_bx be bw bl v = lc_bx be bw bl w → post 1) (h0 : ¬ lc_bx be bw bl v = lc_bx be bw bl w → post 0) : wpY_same post (T, H, E, d, c, a, en, wi, la, be, bw, bl) (nI v) (nI w) := by
  have cv : (nI v).toNatClampNeg = v := nI_clamp (by omega)
  have cw : (nI w).toNatClampNeg = w := nI_clamp (by omega)
  have vv : vp_in (nI v) 64 := vp_in_nI hv (by omega)
  have vw : vp_in (nI w) 64 := vp_in_nI hw (by omega)
  unfold wpY_same
  dsimp only
  rw [cv, cw]
  refine ⟨vv, vw, br_c (fun z1 => ⟨vv, vw, br_c (fun z2 => ⟨vv, vw, br_c (fun z3 => h1 ?_) (fun z3 => h0 (fun q => z3 ?_))⟩) (fun z2 => h0 (fun q => z2 ?_))⟩) (fun z1 => h0 (fun q => z1 ?_))⟩
  · unfold lc_bx; rw [z1, z2, z3]
  · exact congrArg (fun b => b.2.2) q
  · exact congrArg (fun b => b.2.1) q
  · exact congrArg (fun b => b.1) q
theorem lc_y57 {post : Int32 → Prop} {J : Int32 → Prop} {x2 z0 T H E d : Int32} {c a en wi la be bw bl : Nat → Int32} {v w : Nat} (hv : v < 64) (hw : w < 64) (hz : z0 = 0 ↔ ¬ lc_le (lc_bx be bw bl v) (lc_bx be bw bl w)) (next : lc_gd (fun j => lc_bx be bw bl j) w v → J (nI (v + 1))) (bad : ¬ lc_gd (fun j => lc_bx be bw bl j) w v → post 0) : wY_isBest_57 post J (nI w) x2 (nI v) z0 T H E d c a en wi la be bw bl := by
  have il : nI w ≤ nI v ↔ w ≤ v := nI_leI (by omega) (by omega)
  unfold wY_isBest_57
  refine lc_same hv hw (fun e => br_f (by decide) ?_) (fun e => br_t rfl ?_)
  · rw [il]
    exact br_c (fun z => nm_r (nI_1 _) (next ⟨fun _ => by omega, fun q => absurd e q⟩)) (fun z => bad (fun q => q.1 e (by omega)))
  · exact br_c (fun z => nm_r (nI_1 _) (next ⟨fun q => absurd q e, fun _ => hz.mp z⟩)) (fun z => bad (fun q => z (hz.mpr (q.2 e))))
theorem lc_yisb_l {post : Int32 → Prop} {T H E d : Int32} {c a en wi la be bw bl : Nat → Int32} {N w : Nat} (hN : N ≤ 64) (hw : w < N) (h1 : lc_BY (fun j => lc_bx be bw bl j) N w → post 1) (h0 : ¬ lc_BY (fun j => lc_bx be bw bl j) N w → post 0) : ∀ s v, v + s = N → (∀ v', v' < v → lc_gd (fun j => lc_bx be bw bl j) w v') → wY_isBest_2 post (nI w) (nI N) T H E d c a en wi la be bw bl (s + 1) (nI v) := by
  have cw : (nI w).toNatClampNeg = w := nI_clamp (by omega)
  have vw : vp_in (nI w) 64 := vp_in_nI (by omega) (by omega)
  intro s
  induction s with
  | zero =>
    intro v hv hI
    obtain rfl : v = N := by omega
    rw [wY_isBest_2]
    exact br_t (nI_le (Nat.le_refl _) (by omega)) (h1 hI)
  | succ s ih =>
    intro v hv hI
    have cv : (nI v).toNatClampNeg = v := nI_clamp (by omega)
    have vv : vp_in (nI v) 64 := vp_in_nI (by omega) (by omega)
    have key : ∀ z0 : Int32, (z0 = 0 ↔ ¬ lc_le (lc_bx be bw bl v) (lc_bx be bw bl w)) → wY_isBest_57 post (wY_isBest_2 post (nI w) (nI N) T H E d c a en wi la be bw bl (s + 1)) (nI w) (nI N) (nI v) z0 T H E d c a en wi la be bw bl := by
      intro z0 hz
      refine lc_y57 (by omega) (by omega) hz (fun g => ih (v + 1) (by omega) (fun v' h2 => ?_)) (fun g => h0 (fun q => g (q v (by omega))))
      by_cases y : v' = v
      · rw [y]; exact g
      · exact hI v' (by omega)
    have k0 := key 0
    have k1 := key 1
    rw [wY_isBest_2]; dsimp only; unfold wY_isBest_56; rw [cv, cw]
    exact br_f (nI_ge (by omega) (by omega)) ⟨vv, vw, br_c (fun y => k0 ⟨fun _ l => l.1 y, fun _ => rfl⟩) (fun y1 => ⟨vv, vw, br_c (fun y => k0 ⟨fun _ l => l.2.1 y, fun _ => rfl⟩) (fun y2 => ⟨vv, vw, br_c (fun y => k0 ⟨fun _ l => l.2.2 y, fun _ => rfl⟩) (fun y3 => k1 ⟨fun q => absurd q (by decide), fun q => absurd ⟨y1, y2, y3⟩ q⟩)⟩)⟩)⟩
theorem lc_ybest_l {post : Int32 → SY → Prop} {T H E d : Int32} {c a en wi la be bw bl : Nat → Int32} {N : Nat} (hN : N ≤ 64) (h : post (nI (lc_cn (lc_BY (fun j => lc_bx be bw bl j) N) N)) (T, H, E, d, c, a, en, wi, la, be, bw, bl)) : ∀ s i, i + s = N → wY_best_21 post (nI N) T H E d c a en wi la be bw bl (s + 1) (nI (lc_cn (lc_BY (fun j => lc_bx be bw bl j) N) i)) (nI i) := by
  intro s
  induction s with
  | zero =>
    intro i hi
    obtain rfl : i = N := by omega
    rw [wY_best_21]
    exact br_t (nI_le (Nat.le_refl _) (by omega)) h
  | succ s ih =>
    intro i hi
    rw [wY_best_21]
    have IH := ih (i + 1) (by omega)
    refine br_f (nI_ge (by omega) (by omega)) ⟨N + 1, lc_yisb_l (w := i) hN (by omega) (fun b => br_f (by decide) (nm_r (nI_1 _) (nm_r (nI_1 _) ?_))) (fun b => br_t rfl (nm_r (nI_1 _) ?_)) N 0 (by omega) (fun v' hv' => absurd hv' (Nat.not_lt_zero v'))⟩
    · rw [lc_cn_t b] at IH; exact IH
    · rw [lc_cn_f b] at IH; exact IH
end
section
/-! the queries on both sides, and what is owed of them -/
theorem lc_near (v : Int32) (M : Nat) (hM : M < 2 ^ 31) : ∃ m, m ≤ M ∧ (∀ post : Int32 → Prop, post (nI m) → wpX_nearest post v (nI M)) ∧ (∀ post : Int32 → Prop, post (nI m) → wpY_within post v (nI M)) := by
  by_cases z : 0 ≤ v
  · obtain ⟨j, hj, rfl⟩ := nI_of (Int32.not_lt.mpr z)
    by_cases y : j ≤ M
    · have y' : nI j ≤ nI M := nI_le y hM
      exact ⟨j, y, fun _ h => br_t z (br_t y' h), fun _ h => br_t z (br_t y' h)⟩
    · have y' : ¬ nI j ≤ nI M := nI_ge (by omega) hj
      exact ⟨M, Nat.le_refl _, fun _ h => br_t z (br_f y' h), fun _ h => br_t z (br_f y' h)⟩
  · exact ⟨0, Nat.zero_le _, fun _ h => br_f z h, fun _ h => br_f z h⟩
theorem lc_setE {c a be bw bl : Nat → Int32} {T p : Nat} (hM : ∀ w, w < 2 ^ lc_ec c T → lc_bx be bw bl w = lc_pf c a w T p) (b : lc_Bx) : lc_Set c a T p b ↔ lc_sq (fun i => lc_bx be bw bl i) (2 ^ lc_ec c T) b :=
  ⟨fun ⟨w, hw, e⟩ => ⟨w, hw, (hM w hw).trans e⟩, fun ⟨w, hw, e⟩ => ⟨w, hw, (hM w hw).symm.trans e⟩⟩
theorem lc_xlines {post : Int32 → Prop} {v1 v2 : Int32} {T : Nat} {L W X C c a : Nat → Int32} (hT : T ≤ 48) (V : lc_VT c a T) (R : lc_R c a T L W X C) (no : (∀ k, k < lc_ht c T → ¬ v1 = nI k) → post (-1)) (yes : ∀ k, k < lc_ht c T → v1 = nI k → ∀ r, lc_IsM (lc_Set c a T (lc_ht c T - 1 - k)) (fun b => ¬ v2 < b.2.1) (fun b => b.1) r → post r) : wpX_lines post (nI (lc_ht c T), nI T, nI (lc_ec c T), L, W, X, C) v1 v2 := by
  have lh := (lc_lim V T (Nat.le_refl _)).1
  unfold wpX_lines
  dsimp only
  refine lc_isDoc lh (fun z => br_t rfl (no z)) (fun k hk e => br_f (by decide) ?_)
  subst e
  obtain ⟨n, hn⟩ := R (lc_ht c T - 1 - k) (by omega)
  have ck : (nI (lc_ht c T - 1 - k)).toNatClampNeg = lc_ht c T - 1 - k := nI_clamp (by omega)
  have e2 : nI (lc_ht c T - 1 - k) * 64 = nI ((lc_ht c T - 1 - k) * 64) := pk_mul _ 64
  unfold wpX_firstCell wpX_endCell
  dsimp only
  rw [lc_pk hk]
  intro x2 ex2
  rw [ex2, ck, hn.2.1, e2, nI_add]
  exact ⟨vp_in_nI (by omega) (by omega), n + 1, lc_xlines_l (by omega) hn.1 (fun i hi => lc_gb1 (lc_gb V hT (by omega) ((hn.2.2.2 _).mpr ⟨i, hi, rfl⟩))) (fun r hr => yes k hk rfl r (lc_IsM_i hr hn.2.2.2)) n 0 (by omega) (-1) lc_IsM_0⟩
theorem lc_ylines {post : Int32 → SY → Prop} {v1 v2 d : Int32} {T : Nat} {c a en wi la be bw bl : Nat → Int32} (hT : T ≤ 48) (V : lc_VT c a T) (no : (∀ k, k < lc_ht c T → ¬ v1 = nI k) → post (-1) (nI T, nI (lc_ht c T), nI (lc_ec c T), d, c, a, en, wi, la, be, bw, bl)) (yes : ∀ k, k < lc_ht c T → v1 = nI k → ∀ r d en wi la be bw bl, lc_IsM (lc_Set c a T (lc_ht c T - 1 - k)) (fun b => ¬ v2 < b.2.1) (fun b => b.1) r → post r (nI T, nI (lc_ht c T), nI (lc_ec c T), d, c, a, en, wi, la, be, bw, bl)) : wpY_lines post (nI T, nI (lc_ht c T), nI (lc_ec c T), d, c, a, en, wi, la, be, bw, bl) v1 v2 := by
  obtain ⟨lh, le⟩ := lc_lim V T (Nat.le_refl _)
  unfold wpY_lines
  dsimp only
  refine lc_missing lh (fun z => br_f (by decide) (no z)) (fun k hk e => br_t rfl ?_)
  subst e
  refine lc_makeAll V hT hk (fun d en wi la be bw bl hM => ⟨2 ^ lc_ec c T + 1, ?_⟩)
  exact lc_ylines_l (lc_p6 le) (fun i hi => lc_gb1 (lc_gb V hT (p := lc_ht c T - 1 - k) (by omega) ((lc_setE hM _).mpr ⟨i, hi, rfl⟩))) (fun r hr => yes k hk rfl r _ _ _ _ _ _ _ (lc_IsM_i hr (lc_setE hM))) (2 ^ lc_ec c T) 0 (by omega) (-1) lc_IsM_0
theorem i_vc_lines {k : Nat} {u : SX} {v : SY} (I : i_Rel k u v) (hk : k + 4 ≤ 2048) (v1 : Int32) (v2 : Int32) : wpX_lines (fun r => wpY_lines (fun r' v' => r' = r ∧ i_Rel (k + 4) u v') v v1 v2) u v1 v2 := by
  obtain ⟨T, L, W, X, C, d, c, a, en, wi, la, be, bw, bl, hT, V, R, rfl, rfl⟩ := I
  have lh := (lc_lim V T (Nat.le_refl _)).1
  refine lc_xlines hT V R (fun z => lc_ylines hT V (fun _ => ⟨rfl, T, L, W, X, C, d, c, a, en, wi, la, be, bw, bl, hT, V, R, rfl, rfl⟩) (fun k hk e => absurd e (z k hk))) (fun k hk e s hs => lc_ylines hT V (fun z => absurd e (z k hk)) (fun k' hk' e' s' d' en' wi' la' be' bw' bl' hs' => ⟨?_, T, L, W, X, C, d', c, a, en', wi', la', be', bw', bl', hT, V, R, rfl, rfl⟩))
  obtain rfl : k = k' := (nI_eq (by omega) (by omega)).mp (e.symm.trans e')
  exact lc_IsM_u hs' hs
theorem lc_xwidth {post : Int32 → Prop} {v1 v2 : Int32} {T : Nat} {L W X C c a : Nat → Int32} (hT : T ≤ 48) (V : lc_VT c a T) (R : lc_R c a T L W X C) (no : (∀ k, k < lc_ht c T → ¬ v1 = nI k) → post (-1)) (yes : ∀ k, k < lc_ht c T → v1 = nI k → ∀ r, lc_IsM (lc_Set c a T (lc_ht c T - 1 - k)) (fun b => ¬ v2 < b.1) (fun b => b.2.1) r → post r) : wpX_width post (nI (lc_ht c T), nI T, nI (lc_ec c T), L, W, X, C) v1 v2 := by
  have lh := (lc_lim V T (Nat.le_refl _)).1
  unfold wpX_width
  dsimp only
  refine lc_isDoc lh (fun z => br_t rfl (no z)) (fun k hk e => br_f (by decide) ?_)
  subst e
  obtain ⟨n, hn⟩ := R (lc_ht c T - 1 - k) (by omega)
  have ck : (nI (lc_ht c T - 1 - k)).toNatClampNeg = lc_ht c T - 1 - k := nI_clamp (by omega)
  have e2 : nI (lc_ht c T - 1 - k) * 64 = nI ((lc_ht c T - 1 - k) * 64) := pk_mul _ 64
  unfold wpX_firstCell wpX_endCell
  dsimp only
  rw [lc_pk hk]
  intro x2 ex2
  rw [ex2, ck, hn.2.1, e2, nI_add]
  exact ⟨vp_in_nI (by omega) (by omega), n + 1, lc_xwidth_l (by omega) hn.1 (fun i hi => lc_gb2 (lc_gb V hT (by omega) ((hn.2.2.2 _).mpr ⟨i, hi, rfl⟩))) (fun r hr => yes k hk rfl r (lc_IsM_i hr hn.2.2.2)) n 0 (by omega) (-1) lc_IsM_0⟩
theorem lc_ywidth {post : Int32 → SY → Prop} {v1 v2 d : Int32} {T : Nat} {c a en wi la be bw bl : Nat → Int32} (hT : T ≤ 48) (V : lc_VT c a T) (no : (∀ k, k < lc_ht c T → ¬ v1 = nI k) → post (-1) (nI T, nI (lc_ht c T), nI (lc_ec c T), d, c, a, en, wi, la, be, bw, bl)) (yes : ∀ k, k < lc_ht c T → v1 = nI k → ∀ r d en wi la be bw bl, lc_IsM (lc_Set c a T (lc_ht c T - 1 - k)) (fun b => ¬ v2 < b.1) (fun b => b.2.1) r → post r (nI T, nI (lc_ht c T), nI (lc_ec c T), d, c, a, en, wi, la, be, bw, bl)) : wpY_width post (nI T, nI (lc_ht c T), nI (lc_ec c T), d, c, a, en, wi, la, be, bw, bl) v1 v2 := by
  obtain ⟨lh, le⟩ := lc_lim V T (Nat.le_refl _)
  unfold wpY_width
  dsimp only
  refine lc_missing lh (fun z => br_f (by decide) (no z)) (fun k hk e => br_t rfl ?_)
  subst e
  refine lc_makeAll V hT hk (fun d en wi la be bw bl hM => ⟨2 ^ lc_ec c T + 1, ?_⟩)
  exact lc_ywidth_l (lc_p6 le) (fun i hi => lc_gb2 (lc_gb V hT (p := lc_ht c T - 1 - k) (by omega) ((lc_setE hM _).mpr ⟨i, hi, rfl⟩))) (fun r hr => yes k hk rfl r _ _ _ _ _ _ _ (lc_IsM_i hr (lc_setE hM))) (2 ^ lc_ec c T) 0 (by omega) (-1) lc_IsM_0
theorem i_vc_width {k : Nat} {u : SX} {v : SY} (I : i_Rel k u v) (hk : k + 4 ≤ 2048) (v1 : Int32) (v2 : Int32) : wpX_width (fun r => wpY_width (fun r' v' => r' = r ∧ i_Rel (k + 4) u v') v v1 v2) u v1 v2 := by
  obtain ⟨T, L, W, X, C, d, c, a, en, wi, la, be, bw, bl, hT, V, R, rfl, rfl⟩ := I
  have lh := (lc_lim V T (Nat.le_refl _)).1
  refine lc_xwidth hT V R (fun z => lc_ywidth hT V (fun _ => ⟨rfl, T, L, W, X, C, d, c, a, en, wi, la, be, bw, bl, hT, V, R, rfl, rfl⟩) (fun k hk e => absurd e (z k hk))) (fun k hk e s hs => lc_ywidth hT V (fun z => absurd e (z k hk)) (fun k' hk' e' s' d' en' wi' la' be' bw' bl' hs' => ⟨?_, T, L, W, X, C, d', c, a, en', wi', la', be', bw', bl', hT, V, R, rfl, rfl⟩))
  obtain rfl : k = k' := (nI_eq (by omega) (by omega)).mp (e.symm.trans e')
  exact lc_IsM_u hs' hs
theorem lc_xlast {post : Int32 → Prop} {v1 v2 v3 : Int32} {T : Nat} {L W X C c a : Nat → Int32} (hT : T ≤ 48) (V : lc_VT c a T) (R : lc_R c a T L W X C) (no : (∀ k, k < lc_ht c T → ¬ v1 = nI k) → post (-1)) (yes : ∀ k, k < lc_ht c T → v1 = nI k → ∀ r, lc_IsM (lc_Set c a T (lc_ht c T - 1 - k)) (fun b => ¬ v2 < b.1 ∧ ¬ v3 < b.2.1) (fun b => b.2.2) r → post r) : wpX_last post (nI (lc_ht c T), nI T, nI (lc_ec c T), L, W, X, C) v1 v2 v3 := by
  have lh := (lc_lim V T (Nat.le_refl _)).1
  unfold wpX_last
  dsimp only
  refine lc_isDoc lh (fun z => br_t rfl (no z)) (fun k hk e => br_f (by decide) ?_)
  subst e
  obtain ⟨n, hn⟩ := R (lc_ht c T - 1 - k) (by omega)
  have ck : (nI (lc_ht c T - 1 - k)).toNatClampNeg = lc_ht c T - 1 - k := nI_clamp (by omega)
  have e2 : nI (lc_ht c T - 1 - k) * 64 = nI ((lc_ht c T - 1 - k) * 64) := pk_mul _ 64
  unfold wpX_firstCell wpX_endCell
  dsimp only
  rw [lc_pk hk]
  intro x2 ex2
  rw [ex2, ck, hn.2.1, e2, nI_add]
  exact ⟨vp_in_nI (by omega) (by omega), n + 1, lc_xlast_l (by omega) hn.1 (fun i hi => lc_gb3 (lc_gb V hT (by omega) ((hn.2.2.2 _).mpr ⟨i, hi, rfl⟩))) (fun r hr => yes k hk rfl r (lc_IsM_i hr hn.2.2.2)) n 0 (by omega) (-1) lc_IsM_0⟩
theorem lc_ylast {post : Int32 → SY → Prop} {v1 v2 v3 d : Int32} {T : Nat} {c a en wi la be bw bl : Nat → Int32} (hT : T ≤ 48) (V : lc_VT c a T) (no : (∀ k, k < lc_ht c T → ¬ v1 = nI k) → post (-1) (nI T, nI (lc_ht c T), nI (lc_ec c T), d, c, a, en, wi, la, be, bw, bl)) (yes : ∀ k, k < lc_ht c T → v1 = nI k → ∀ r d en wi la be bw bl, lc_IsM (lc_Set c a T (lc_ht c T - 1 - k)) (fun b => ¬ v2 < b.1 ∧ ¬ v3 < b.2.1) (fun b => b.2.2) r → post r (nI T, nI (lc_ht c T), nI (lc_ec c T), d, c, a, en, wi, la, be, bw, bl)) : wpY_last post (nI T, nI (lc_ht c T), nI (lc_ec c T), d, c, a, en, wi, la, be, bw, bl) v1 v2 v3 := by
  obtain ⟨lh, le⟩ := lc_lim V T (Nat.le_refl _)
  unfold wpY_last
  dsimp only
  refine lc_missing lh (fun z => br_f (by decide) (no z)) (fun k hk e => br_t rfl ?_)
  subst e
  refine lc_makeAll V hT hk (fun d en wi la be bw bl hM => ⟨2 ^ lc_ec c T + 1, ?_⟩)
  exact lc_ylast_l (lc_p6 le) (fun i hi => lc_gb3 (lc_gb V hT (p := lc_ht c T - 1 - k) (by omega) ((lc_setE hM _).mpr ⟨i, hi, rfl⟩))) (fun r hr => yes k hk rfl r _ _ _ _ _ _ _ (lc_IsM_i hr (lc_setE hM))) (2 ^ lc_ec c T) 0 (by omega) (-1) lc_IsM_0
theorem i_vc_last {k : Nat} {u : SX} {v : SY} (I : i_Rel k u v) (hk : k + 4 ≤ 2048) (v1 : Int32) (v2 : Int32) (v3 : Int32) : wpX_last (fun r => wpY_last (fun r' v' => r' = r ∧ i_Rel (k + 4) u v') v v1 v2 v3) u v1 v2 v3 := by
  obtain ⟨T, L, W, X, C, d, c, a, en, wi, la, be, bw, bl, hT, V, R, rfl, rfl⟩ := I
  have lh := (lc_lim V T (Nat.le_refl _)).1
  refine lc_xlast hT V R (fun z => lc_ylast hT V (fun _ => ⟨rfl, T, L, W, X, C, d, c, a, en, wi, la, be, bw, bl, hT, V, R, rfl, rfl⟩) (fun k hk e => absurd e (z k hk))) (fun k hk e s hs => lc_ylast hT V (fun z => absurd e (z k hk)) (fun k' hk' e' s' d' en' wi' la' be' bw' bl' hs' => ⟨?_, T, L, W, X, C, d', c, a, en', wi', la', be', bw', bl', hT, V, R, rfl, rfl⟩))
  obtain rfl : k = k' := (nI_eq (by omega) (by omega)).mp (e.symm.trans e')
  exact lc_IsM_u hs' hs
theorem lc_xcost {post : Int32 → Prop} {v1 v2 v3 : Int32} {T : Nat} {L W X C c a : Nat → Int32} {p ro : Nat} (hp : p ≤ 100) (ho : ro ≤ 200) (np : ∀ post : Int32 → Prop, post (nI p) → wpX_nearest post v2 (nI 100)) (nr : ∀ post : Int32 → Prop, post (nI ro) → wpX_nearest post v3 (nI 200)) (hT : T ≤ 48) (V : lc_VT c a T) (R : lc_R c a T L W X C) (no : (∀ k, k < lc_ht c T → ¬ v1 = nI k) → post (-1)) (yes : ∀ k, k < lc_ht c T → v1 = nI k → ∀ r, lc_IsM (lc_Set c a T (lc_ht c T - 1 - k)) (fun _ => True) (lc_co (nI p) (nI ro)) r → post r) : wpX_cost post (nI (lc_ht c T), nI T, nI (lc_ec c T), L, W, X, C) v1 v2 v3 := by
  have lh := (lc_lim V T (Nat.le_refl _)).1
  unfold wpX_cost
  dsimp only
  refine lc_isDoc lh (fun z => br_t rfl (no z)) (fun k hk e => br_f (by decide) ?_)
  subst e
  obtain ⟨n, hn⟩ := R (lc_ht c T - 1 - k) (by omega)
  have ck : (nI (lc_ht c T - 1 - k)).toNatClampNeg = lc_ht c T - 1 - k := nI_clamp (by omega)
  have e2 : nI (lc_ht c T - 1 - k) * 64 = nI ((lc_ht c T - 1 - k) * 64) := pk_mul _ 64
  refine np _ (nr _ ?_)
  unfold wpX_firstCell wpX_endCell
  dsimp only
  rw [lc_pk hk]
  intro x2 ex2
  rw [ex2, ck, hn.2.1, e2, nI_add]
  exact ⟨vp_in_nI (by omega) (by omega), n + 1, lc_xcost_l (by omega) hn.1 (fun i hi => lc_gbc (lc_gb V hT (by omega) ((hn.2.2.2 _).mpr ⟨i, hi, rfl⟩)) hp ho) (fun r hr => yes k hk rfl r (lc_IsM_i hr hn.2.2.2)) n 0 (by omega) (-1) lc_IsM_0⟩
theorem lc_ycost {post : Int32 → SY → Prop} {v1 v2 v3 d : Int32} {T : Nat} {c a en wi la be bw bl : Nat → Int32} {p ro : Nat} (hp : p ≤ 100) (ho : ro ≤ 200) (np : ∀ post : Int32 → Prop, post (nI p) → wpY_within post v2 (nI 100)) (nr : ∀ post : Int32 → Prop, post (nI ro) → wpY_within post v3 (nI 200)) (hT : T ≤ 48) (V : lc_VT c a T) (no : (∀ k, k < lc_ht c T → ¬ v1 = nI k) → post (-1) (nI T, nI (lc_ht c T), nI (lc_ec c T), d, c, a, en, wi, la, be, bw, bl)) (yes : ∀ k, k < lc_ht c T → v1 = nI k → ∀ r d en wi la be bw bl, lc_IsM (lc_Set c a T (lc_ht c T - 1 - k)) (fun _ => True) (lc_co (nI p) (nI ro)) r → post r (nI T, nI (lc_ht c T), nI (lc_ec c T), d, c, a, en, wi, la, be, bw, bl)) : wpY_cost post (nI T, nI (lc_ht c T), nI (lc_ec c T), d, c, a, en, wi, la, be, bw, bl) v1 v2 v3 := by
  obtain ⟨lh, le⟩ := lc_lim V T (Nat.le_refl _)
  unfold wpY_cost
  dsimp only
  refine lc_missing lh (fun z => br_f (by decide) (no z)) (fun k hk e => br_t rfl ?_)
  subst e
  refine np _ (nr _ ?_)
  refine lc_makeAll V hT hk (fun d en wi la be bw bl hM => ⟨2 ^ lc_ec c T + 1, ?_⟩)
  exact lc_ycost_l (lc_p6 le) (fun i hi => lc_gbc (lc_gb V hT (p := lc_ht c T - 1 - k) (by omega) ((lc_setE hM _).mpr ⟨i, hi, rfl⟩)) hp ho) (fun r hr => yes k hk rfl r _ _ _ _ _ _ _ (lc_IsM_i hr (lc_setE hM))) (2 ^ lc_ec c T) 0 (by omega) (-1) lc_IsM_0
theorem i_vc_cost {k : Nat} {u : SX} {v : SY} (I : i_Rel k u v) (hk : k + 4 ≤ 2048) (v1 : Int32) (v2 : Int32) (v3 : Int32) : wpX_cost (fun r => wpY_cost (fun r' v' => r' = r ∧ i_Rel (k + 4) u v') v v1 v2 v3) u v1 v2 v3 := by
  obtain ⟨T, L, W, X, C, d, c, a, en, wi, la, be, bw, bl, hT, V, R, rfl, rfl⟩ := I
  have lh := (lc_lim V T (Nat.le_refl _)).1
  obtain ⟨p, hp, px, py⟩ := lc_near v2 100 (by decide)
  obtain ⟨r, hr, rx, ry⟩ := lc_near v3 200 (by decide)
  refine lc_xcost hp hr px rx hT V R (fun z => lc_ycost hp hr py ry hT V (fun _ => ⟨rfl, T, L, W, X, C, d, c, a, en, wi, la, be, bw, bl, hT, V, R, rfl, rfl⟩) (fun k hk e => absurd e (z k hk))) (fun k hk e s hs => lc_ycost hp hr py ry hT V (fun z => absurd e (z k hk)) (fun k' hk' e' s' d' en' wi' la' be' bw' bl' hs' => ⟨?_, T, L, W, X, C, d', c, a, en', wi', la', be', bw', bl', hT, V, R, rfl, rfl⟩))
  obtain rfl : k = k' := (nI_eq (by omega) (by omega)).mp (e.symm.trans e')
  exact lc_IsM_u hs' hs
end
section
/-! best on both sides -/
theorem lc_xbest {post : Int32 → Prop} {v1 : Int32} {T : Nat} {L W X C c a : Nat → Int32} (V : lc_VT c a T) (R : lc_R c a T L W X C) (no : (∀ k, k < lc_ht c T → ¬ v1 = nI k) → post (-1)) (yes : ∀ k, k < lc_ht c T → v1 = nI k → ∀ (n : Nat) (G : Nat → lc_Bx), (∀ i j, i < n → j < n → G i = G j → i = j) → (∀ b, lc_Set c a T (lc_ht c T - 1 - k) b ↔ ∃ i, i < n ∧ G i = b) → post (nI (lc_cn (lc_BX G n) n))) : wpX_best post (nI (lc_ht c T), nI T, nI (lc_ec c T), L, W, X, C) v1 := by
  have lh := (lc_lim V T (Nat.le_refl _)).1
  unfold wpX_best
  dsimp only
  refine lc_isDoc lh (fun z => br_t rfl (no z)) (fun k hk e => br_f (by decide) ?_)
  subst e
  obtain ⟨n, hn⟩ := R (lc_ht c T - 1 - k) (by omega)
  have ck : (nI (lc_ht c T - 1 - k)).toNatClampNeg = lc_ht c T - 1 - k := nI_clamp (by omega)
  have e2 : nI (lc_ht c T - 1 - k) * 64 = nI ((lc_ht c T - 1 - k) * 64) := pk_mul _ 64
  unfold wpX_firstCell wpX_endCell
  dsimp only
  rw [lc_pk hk]
  intro x2 ex2
  rw [ex2, ck, hn.2.1, e2, nI_add]
  exact ⟨vp_in_nI (by omega) (by omega), n + 1, lc_xbest_l (by omega) hn.1 (yes k hk rfl n _ hn.2.2.1 hn.2.2.2) n 0 (by omega)⟩
theorem lc_ybest {post : Int32 → SY → Prop} {v1 d : Int32} {T : Nat} {c a en wi la be bw bl : Nat → Int32} (hT : T ≤ 48) (V : lc_VT c a T) (no : (∀ k, k < lc_ht c T → ¬ v1 = nI k) → post (-1) (nI T, nI (lc_ht c T), nI (lc_ec c T), d, c, a, en, wi, la, be, bw, bl)) (yes : ∀ k, k < lc_ht c T → v1 = nI k → ∀ (N : Nat) (F : Nat → lc_Bx) d en wi la be bw bl, (∀ b, lc_Set c a T (lc_ht c T - 1 - k) b ↔ ∃ w, w < N ∧ F w = b) → post (nI (lc_cn (lc_BY F N) N)) (nI T, nI (lc_ht c T), nI (lc_ec c T), d, c, a, en, wi, la, be, bw, bl)) : wpY_best post (nI T, nI (lc_ht c T), nI (lc_ec c T), d, c, a, en, wi, la, be, bw, bl) v1 := by
  obtain ⟨lh, le⟩ := lc_lim V T (Nat.le_refl _)
  unfold wpY_best
  dsimp only
  refine lc_missing lh (fun z => br_f (by decide) (no z)) (fun k hk e => br_t rfl ?_)
  subst e
  refine lc_makeAll V hT hk (fun d en wi la be bw bl hM => ⟨2 ^ lc_ec c T + 1, ?_⟩)
  exact lc_ybest_l (lc_p6 le) (yes k hk rfl _ _ _ _ _ _ _ _ _ (lc_setE hM)) (2 ^ lc_ec c T) 0 (by omega)
theorem i_vc_best {k : Nat} {u : SX} {v : SY} (I : i_Rel k u v) (hk : k + 4 ≤ 2048) (v1 : Int32) : wpX_best (fun r => wpY_best (fun r' v' => r' = r ∧ i_Rel (k + 4) u v') v v1) u v1 := by
  obtain ⟨T, L, W, X, C, d, c, a, en, wi, la, be, bw, bl, hT, V, R, rfl, rfl⟩ := I
  have lh := (lc_lim V T (Nat.le_refl _)).1
  refine lc_xbest V R (fun z => lc_ybest hT V (fun _ => ⟨rfl, T, L, W, X, C, d, c, a, en, wi, la, be, bw, bl, hT, V, R, rfl, rfl⟩) (fun k hk e => absurd e (z k hk))) (fun k hk e n G hd hG => lc_ybest hT V (fun z => absurd e (z k hk)) (fun k' hk' e' N F d' en' wi' la' be' bw' bl' hF => ⟨?_, T, L, W, X, C, d', c, a, en', wi', la', be', bw', bl', hT, V, R, rfl, rfl⟩))
  obtain rfl : k = k' := (nI_eq (by omega) (by omega)).mp (e.symm.trans e')
  rw [lc_count hd (fun b => (hF b).symm.trans (hG b))]
end
