section
/-! rows pasted from kit/rows (PURE-ROWS) -/
theorem pk_us {f : Nat → Int32} {k : Nat} {x : Int32} : upd f k x k = x := if_pos rfl
theorem pk_un {f : Nat → Int32} {k j : Nat} {x : Int32} (h : j ≠ k) : upd f k x j = f j := if_neg h
theorem pk_sub {a b : Nat} (h : b ≤ a) : nI a - nI b = nI (a - b) := by
  obtain ⟨c, rfl⟩ : ∃ c, a = c + b := ⟨a - b, by omega⟩
  rw [← nI_add, Int32.add_sub_cancel, Nat.add_sub_cancel]
theorem pk_mul (a b : Nat) : nI a * nI b = nI (a * b) := (Int32.ofNat_mul a b).symm
theorem pk_le {x y : Int32} {A B : Prop} (a b : Nat) (f : a ≤ b → A) (g : b < a → B) (hx : x = nI a := by rfl) (hy : y = nI b := by rfl) (ha : a < 2 ^ 31 := by omega) (hb : b < 2 ^ 31 := by omega) : (x ≤ y → A) ∧ (¬ x ≤ y → B) := by
  subst hx hy
  rw [nI_leI ha hb]
  exact ⟨f, fun z => g (by omega)⟩
theorem pk_lt {x y : Int32} {A B : Prop} (a b : Nat) (f : a < b → A) (g : b ≤ a → B) (hx : x = nI a := by rfl) (hy : y = nI b := by rfl) (ha : a < 2 ^ 31 := by omega) (hb : b < 2 ^ 31 := by omega) : (x < y → A) ∧ (¬ x < y → B) := by
  subst hx hy
  rw [nI_ltI ha hb]
  exact ⟨f, fun z => g (by omega)⟩
theorem pk_eq {x y : Int32} {A B : Prop} (a b : Nat) (f : a = b → A) (g : a ≠ b → B) (hx : x = nI a := by rfl) (hy : y = nI b := by rfl) (ha : a < 2 ^ 31 := by omega) (hb : b < 2 ^ 31 := by omega) : (x = y → A) ∧ (¬ x = y → B) := by
  subst hx hy
  rw [nI_eq ha hb]
  exact ⟨f, g⟩
theorem pk_in {x : Int32} (n N : Nat) (h : n < N) (hx : x = nI n := by rfl) (hN : N < 2 ^ 31 := by omega) : vp_in x N := by
  subst hx
  exact vp_in_nI h hN
theorem pk_cl {x : Int32} (n : Nat) (hx : x = nI n := by rfl) (h : n < 2 ^ 31 := by omega) : x.toNatClampNeg = n := by
  subst hx
  exact nI_clamp h
theorem pk_ix (x : Int32) {n : Nat} (hn : n < 2 ^ 31) : x < 0 ∨ nI n ≤ x ∨ ∃ j : Nat, j < n ∧ x = nI j := by
  by_cases h : x < 0
  · exact Or.inl h
  · obtain ⟨j, hj, rfl⟩ := nI_of h
    by_cases h2 : j < n
    · exact Or.inr (Or.inr ⟨j, h2, rfl⟩)
    · exact Or.inr (Or.inl (nI_le (by omega) hj))
/-! counting: how many of 0 .. n-1 have Q; the pigeonholes -/
noncomputable def lc_cn (Q : Nat → Prop) : Nat → Nat
  | 0 => 0
  | n + 1 => lc_cn Q n + @ite Nat (Q n) (Classical.propDecidable _) 1 0
theorem lc_cn_t {Q : Nat → Prop} {n : Nat} (h : Q n) : lc_cn Q (n + 1) = lc_cn Q n + 1 := by
  show lc_cn Q n + @ite Nat (Q n) (Classical.propDecidable _) 1 0 = _
  rw [if_pos h]
theorem lc_cn_f {Q : Nat → Prop} {n : Nat} (h : ¬ Q n) : lc_cn Q (n + 1) = lc_cn Q n := by
  show lc_cn Q n + @ite Nat (Q n) (Classical.propDecidable _) 1 0 = _
  rw [if_neg h, Nat.add_zero]
theorem lc_cn_le (Q : Nat → Prop) : ∀ n, lc_cn Q n ≤ n := by
  intro n
  induction n with
  | zero => exact Nat.le_refl _
  | succ n ih =>
    by_cases h : Q n
    · rw [lc_cn_t h]; omega
    · rw [lc_cn_f h]; omega
theorem lc_cn_all : ∀ n, lc_cn (fun _ => True) n = n := by
  intro n
  induction n with
  | zero => rfl
  | succ n ih => rw [lc_cn_t trivial, ih]
theorem lc_cn_cg {Q Q' : Nat → Prop} : ∀ n, (∀ i, i < n → (Q i ↔ Q' i)) → lc_cn Q n = lc_cn Q' n := by
  intro n
  induction n with
  | zero => intro _; rfl
  | succ n ih =>
    intro h
    have e := ih (fun i hi => h i (by omega))
    by_cases q : Q n
    · rw [lc_cn_t q, lc_cn_t ((h n (by omega)).mp q), e]
    · rw [lc_cn_f q, lc_cn_f (fun z => q ((h n (by omega)).mpr z)), e]
theorem lc_cn_rm {Q : Nat → Prop} {j : Nat} (hQ : Q j) : ∀ m, j < m → lc_cn (fun i => Q i ∧ i ≠ j) m + 1 = lc_cn Q m := by
  intro m
  induction m with
  | zero => intro h; omega
  | succ m ih =>
    intro h
    by_cases e : j = m
    · subst e
      rw [lc_cn_t hQ, lc_cn_f (fun z => z.2 rfl)]
      have := lc_cn_cg (Q := fun i => Q i ∧ i ≠ j) (Q' := Q) j (fun i hi => ⟨fun z => z.1, fun z => ⟨z, by omega⟩⟩)
      rw [this]
    · have i1 := ih (by omega)
      by_cases q : Q m
      · rw [lc_cn_t q, lc_cn_t (Q := fun i => Q i ∧ i ≠ j) ⟨q, fun z => e z.symm⟩]; omega
      · rw [lc_cn_f q, lc_cn_f (Q := fun i => Q i ∧ i ≠ j) (fun z => q z.1)]; omega
theorem lc_php (R : Nat → Nat → Prop) (Q : Nat → Prop) (m : Nat) : ∀ n (Q' : Nat → Prop), (∀ i, i < n → Q i → ∃ j, j < m ∧ Q' j ∧ R i j) → (∀ i i' j, i < n → i' < n → Q i → Q i' → R i j → R i' j → i = i') → lc_cn Q n ≤ lc_cn Q' m := by
  intro n
  induction n with
  | zero => intro Q' _ _; exact Nat.zero_le _
  | succ n ih =>
    intro Q' h1 h2
    by_cases q : Q n
    · obtain ⟨j, hj, qj, rj⟩ := h1 n (by omega) q
      have := ih (fun i => Q' i ∧ i ≠ j) (fun i hi qi => by
        obtain ⟨j', hj', qj', rj'⟩ := h1 i (by omega) qi
        refine ⟨j', hj', ⟨qj', fun e => ?_⟩, rj'⟩
        subst e
        have := h2 i n j' (by omega) (by omega) qi q rj' rj
        omega) (fun i i' j hi hi' => h2 i i' j (by omega) (by omega))
      have e := lc_cn_rm (Q := Q') qj m hj
      rw [lc_cn_t q]; omega
    · rw [lc_cn_f q]
      exact ih Q' (fun i hi => h1 i (by omega)) (fun i i' j hi hi' => h2 i i' j (by omega) (by omega))
theorem lc_ph (R : Nat → Nat → Prop) (n m : Nat) (h1 : ∀ i, i < n → ∃ j, j < m ∧ R i j) (h2 : ∀ i i' j, i < n → i' < n → R i j → R i' j → i = i') : n ≤ m := by
  have := lc_php R (fun _ => True) m n (fun _ => True) (fun i hi _ => by
    obtain ⟨j, hj, r⟩ := h1 i hi
    exact ⟨j, hj, trivial, r⟩) (fun i i' j hi hi' _ _ => h2 i i' j hi hi')
  rw [lc_cn_all, lc_cn_all] at this
  exact this
end
section
/-! the pure machine: a way's stack after i tokens, from the bottom; boxes are triples of Int32 -/
abbrev lc_Bx : Type := Int32 × Int32 × Int32
def lc_jn (x : Int32) (up : Bool) (b d : lc_Bx) : lc_Bx :=
  if x = 1 then (b.1 + d.1, (if b.2.1 ≤ b.2.2 + d.2.1 then b.2.2 + d.2.1 else b.2.1), b.2.2 + d.2.2)
  else if x = 2 then (b.1 + (d.1 + 1), (if b.2.1 ≤ d.2.1 then d.2.1 else b.2.1), d.2.2)
  else if up = true then d else b
def lc_id (n : Int32) (b : lc_Bx) : lc_Bx := (b.1, b.2.1 + n, b.2.2 + n)
def lc_st (x n : Int32) (up : Bool) (h : Nat) (f : Nat → lc_Bx) : Nat → lc_Bx := fun p =>
  if x = 0 then (if p = h then (0, n, n) else f p)
  else if x = 3 then (if p + 1 = h then lc_id n (f p) else f p)
  else (if p + 2 = h then lc_jn x up (f p) (f (p + 1)) else f p)
def lc_ec (c : Nat → Int32) : Nat → Nat
  | 0 => 0
  | i + 1 => if c i = 4 then lc_ec c i + 1 else lc_ec c i
def lc_hs (x : Int32) (h : Nat) : Nat := if x = 0 then h + 1 else if x = 3 then h else h - 1
def lc_ht (c : Nat → Int32) : Nat → Nat
  | 0 => 0
  | i + 1 => lc_hs (c i) (lc_ht c i)
def lc_pf (c a : Nat → Int32) (w : Nat) : Nat → Nat → lc_Bx
  | 0 => fun _ => (0, 0, 0)
  | i + 1 => lc_st (c i) (a i) (w.testBit (lc_ec c i)) (lc_ht c i) (lc_pf c a w i)
/-- a token that is taken -/
def lc_ok (x n : Int32) (h e : Nat) : Prop :=
  (x = 0 ∧ (∃ m, m ≤ 40 ∧ n = nI m) ∧ h < 10) ∨ (x = 3 ∧ (∃ m, m ≤ 20 ∧ n = nI m) ∧ 1 ≤ h) ∨ (x = 1 ∧ 2 ≤ h) ∨ (x = 2 ∧ 2 ≤ h) ∨ (x = 4 ∧ 2 ≤ h ∧ e < 6)
def lc_VT (c a : Nat → Int32) (T : Nat) : Prop := ∀ i, i < T → lc_ok (c i) (a i) (lc_ht c i) (lc_ec c i)
theorem lc_n03 : ¬ (0 : Int32) = 3 := by decide
theorem lc_n04 : ¬ (0 : Int32) = 4 := by decide
theorem lc_n30 : ¬ (3 : Int32) = 0 := by decide
theorem lc_n34 : ¬ (3 : Int32) = 4 := by decide
theorem lc_n10 : ¬ (1 : Int32) = 0 := by decide
theorem lc_n13 : ¬ (1 : Int32) = 3 := by decide
theorem lc_n14 : ¬ (1 : Int32) = 4 := by decide
theorem lc_n20 : ¬ (2 : Int32) = 0 := by decide
theorem lc_n21 : ¬ (2 : Int32) = 1 := by decide
theorem lc_n23 : ¬ (2 : Int32) = 3 := by decide
theorem lc_n24 : ¬ (2 : Int32) = 4 := by decide
theorem lc_n40 : ¬ (4 : Int32) = 0 := by decide
theorem lc_n41 : ¬ (4 : Int32) = 1 := by decide
theorem lc_n42 : ¬ (4 : Int32) = 2 := by decide
theorem lc_n43 : ¬ (4 : Int32) = 3 := by decide
/-- height and eithers stay within -/
theorem lc_lim {c a : Nat → Int32} {T : Nat} (V : lc_VT c a T) : ∀ i, i ≤ T → lc_ht c i ≤ 10 ∧ lc_ec c i ≤ 6 := by
  intro i
  induction i with
  | zero => intro _; exact ⟨Nat.zero_le _, Nat.zero_le _⟩
  | succ i ih =>
    intro hi
    obtain ⟨h1, h2⟩ := ih (by omega)
    show lc_hs (c i) (lc_ht c i) ≤ 10 ∧ (if c i = 4 then lc_ec c i + 1 else lc_ec c i) ≤ 6
    rcases V i (by omega) with ⟨e, _, h⟩ | ⟨e, _, h⟩ | ⟨e, h⟩ | ⟨e, h⟩ | ⟨e, h, h'⟩ <;> rw [e] <;> unfold lc_hs <;> simp [lc_n03, lc_n04, lc_n30, lc_n34, lc_n10, lc_n13, lc_n14, lc_n20, lc_n23, lc_n24, lc_n40, lc_n43] <;> omega
/-- later tokens don't change what earlier ones made -/
theorem lc_cg {c a c' a' : Nat → Int32} : ∀ i, (∀ j, j < i → c' j = c j ∧ a' j = a j) → lc_ht c' i = lc_ht c i ∧ lc_ec c' i = lc_ec c i ∧ ∀ w, lc_pf c' a' w i = lc_pf c a w i := by
  intro i
  induction i with
  | zero => intro _; exact ⟨rfl, rfl, fun _ => rfl⟩
  | succ i ih =>
    intro h
    obtain ⟨h1, h2, h3⟩ := ih (fun j hj => h j (by omega))
    obtain ⟨e1, e2⟩ := h i (by omega)
    refine ⟨?_, ?_, fun w => ?_⟩
    · show lc_hs _ _ = lc_hs _ _; rw [e1, h1]
    · show (if c' i = 4 then lc_ec c' i + 1 else lc_ec c' i) = (if c i = 4 then lc_ec c i + 1 else lc_ec c i); rw [e1, h2]
    · show lc_st _ _ _ _ _ = lc_st _ _ _ _ _; rw [e1, e2, h1, h2, h3]
theorem lc_st0 {n : Int32} {up : Bool} {h : Nat} {f : Nat → lc_Bx} {p : Nat} : lc_st 0 n up h f p = if p = h then (0, n, n) else f p := if_pos rfl
theorem lc_st3 {n : Int32} {up : Bool} {h : Nat} {f : Nat → lc_Bx} {p : Nat} : lc_st 3 n up h f p = if p + 1 = h then lc_id n (f p) else f p := (if_neg lc_n30).trans (if_pos rfl)
theorem lc_st1 {n : Int32} {up : Bool} {h : Nat} {f : Nat → lc_Bx} {p : Nat} : lc_st 1 n up h f p = if p + 2 = h then lc_jn 1 false (f p) (f (p + 1)) else f p := (if_neg lc_n10).trans (if_neg lc_n13)
theorem lc_st2 {n : Int32} {up : Bool} {h : Nat} {f : Nat → lc_Bx} {p : Nat} : lc_st 2 n up h f p = if p + 2 = h then lc_jn 2 false (f p) (f (p + 1)) else f p := (if_neg lc_n20).trans (if_neg lc_n23)
theorem lc_jn4 {up : Bool} {b d : lc_Bx} : lc_jn 4 up b d = if up = true then d else b := (if_neg lc_n41).trans (if_neg lc_n42)
theorem lc_st4 {n : Int32} {up : Bool} {h : Nat} {f : Nat → lc_Bx} {p : Nat} : lc_st 4 n up h f p = if p + 2 = h then (if up = true then f (p + 1) else f p) else f p := by
  refine ((if_neg lc_n40).trans (if_neg lc_n43)).trans ?_
  rw [lc_jn4]
theorem lc_pfs {c a : Nat → Int32} {w i p : Nat} : lc_pf c a w (i + 1) p = lc_st (c i) (a i) (w.testBit (lc_ec c i)) (lc_ht c i) (lc_pf c a w i) p := rfl
theorem lc_ecs {c : Nat → Int32} {i : Nat} : lc_ec c (i + 1) = if c i = 4 then lc_ec c i + 1 else lc_ec c i := rfl
theorem lc_hts {c : Nat → Int32} {i : Nat} : lc_ht c (i + 1) = lc_hs (c i) (lc_ht c i) := rfl
theorem lc_hs0 {h : Nat} : lc_hs 0 h = h + 1 := if_pos rfl
theorem lc_hs3 {h : Nat} : lc_hs 3 h = h := (if_neg lc_n30).trans (if_pos rfl)
theorem lc_hs1 {h : Nat} : lc_hs 1 h = h - 1 := (if_neg lc_n10).trans (if_neg lc_n13)
theorem lc_hs2 {h : Nat} : lc_hs 2 h = h - 1 := (if_neg lc_n20).trans (if_neg lc_n23)
theorem lc_hs4 {h : Nat} : lc_hs 4 h = h - 1 := (if_neg lc_n40).trans (if_neg lc_n43)
/-- only the bits of the eithers taken count -/
theorem lc_bits {c a : Nat → Int32} {T w w' : Nat} (V : lc_VT c a T) : ∀ i, i ≤ T → (∀ j, j < lc_ec c i → w.testBit j = w'.testBit j) → ∀ p, lc_pf c a w i p = lc_pf c a w' i p := by
  intro i
  induction i with
  | zero => intro _ _ _; rfl
  | succ i ih =>
    intro hi h p
    rw [lc_ecs] at h
    rw [lc_pfs, lc_pfs]
    rcases V i (by omega) with ⟨e, _, _⟩ | ⟨e, _, _⟩ | ⟨e, _⟩ | ⟨e, _⟩ | ⟨e, _, _⟩ <;> rw [e] at h ⊢
    · rw [if_neg lc_n04] at h
      rw [lc_st0, lc_st0, ih (by omega) h]
    · rw [if_neg lc_n34] at h
      rw [lc_st3, lc_st3, ih (by omega) h]
    · rw [if_neg lc_n14] at h
      rw [lc_st1, lc_st1, ih (by omega) h, ih (by omega) h]
    · rw [if_neg lc_n24] at h
      rw [lc_st2, lc_st2, ih (by omega) h, ih (by omega) h]
    · rw [if_pos rfl] at h
      have h' : ∀ j, j < lc_ec c i → w.testBit j = w'.testBit j := fun j hj => h j (by omega)
      rw [lc_st4, lc_st4, ih (by omega) h', ih (by omega) h', h _ (Nat.lt_succ_self _)]
theorem lc_low {c a : Nat → Int32} {T w : Nat} (V : lc_VT c a T) {i : Nat} (hi : i ≤ T) (p : Nat) : lc_pf c a (w % 2 ^ lc_ec c i) i p = lc_pf c a w i p := by
  refine lc_bits V i hi (fun j hj => ?_) p
  rw [Nat.testBit_mod_two_pow]
  simp [hj]
theorem lc_hi {c a : Nat → Int32} {T w : Nat} (V : lc_VT c a T) {i : Nat} (hi : i ≤ T) (p : Nat) : lc_pf c a (2 ^ lc_ec c i + w) i p = lc_pf c a w i p := by
  refine lc_bits V i hi (fun j hj => ?_) p
  exact Nat.testBit_two_pow_add_gt hj w
/-- the documents of the stack choose independently of each other -/
theorem lc_ind {c a : Nat → Int32} {T : Nat} (V : lc_VT c a T) : ∀ i, i ≤ T → ∀ g : Nat → Nat, (∀ p, g p < 2 ^ lc_ec c i) → ∃ w, w < 2 ^ lc_ec c i ∧ ∀ p, p < lc_ht c i → lc_pf c a w i p = lc_pf c a (g p) i p := by
  intro i
  induction i with
  | zero => intro _ g hg; exact ⟨g 0, hg 0, fun p hp => rfl⟩
  | succ i ih =>
    intro hi g hg
    have hi' : i ≤ T := by omega
    rw [lc_ecs] at hg ⊢
    rw [lc_hts]
    simp only [lc_pfs]
    rcases V i (by omega) with ⟨e, _, _⟩ | ⟨e, _, _⟩ | ⟨e, h2⟩ | ⟨e, h2⟩ | ⟨e, h2, _⟩ <;> rw [e] at hg ⊢
    · rw [if_neg lc_n04] at hg ⊢
      obtain ⟨w, hw, h⟩ := ih hi' g hg
      refine ⟨w, hw, fun p hp => ?_⟩
      rw [lc_hs0] at hp
      rw [lc_st0, lc_st0]
      by_cases z : p = lc_ht c i
      · rw [if_pos z, if_pos z]
      · rw [if_neg z, if_neg z]; exact h p (by omega)
    · rw [if_neg lc_n34] at hg ⊢
      obtain ⟨w, hw, h⟩ := ih hi' g hg
      refine ⟨w, hw, fun p hp => ?_⟩
      rw [lc_hs3] at hp
      rw [lc_st3, lc_st3, h p hp]
    · rw [if_neg lc_n14] at hg ⊢
      obtain ⟨w, hw, h⟩ := ih hi' (fun p => if p + 1 = lc_ht c i then g (p - 1) else g p) (fun p => by
        by_cases z : p + 1 = lc_ht c i
        · rw [if_pos z]; exact hg _
        · rw [if_neg z]; exact hg _)
      refine ⟨w, hw, fun p hp => ?_⟩
      rw [lc_hs1] at hp
      have h0 := h p (by omega)
      rw [if_neg (by omega)] at h0
      rw [lc_st1, lc_st1]
      by_cases z : p + 2 = lc_ht c i
      · have h1 := h (p + 1) (by omega)
        rw [if_pos (by omega)] at h1
        rw [if_pos z, if_pos z, h0, h1]
        rfl
      · rw [if_neg z, if_neg z, h0]
    · rw [if_neg lc_n24] at hg ⊢
      obtain ⟨w, hw, h⟩ := ih hi' (fun p => if p + 1 = lc_ht c i then g (p - 1) else g p) (fun p => by
        by_cases z : p + 1 = lc_ht c i
        · rw [if_pos z]; exact hg _
        · rw [if_neg z]; exact hg _)
      refine ⟨w, hw, fun p hp => ?_⟩
      rw [lc_hs2] at hp
      have h0 := h p (by omega)
      rw [if_neg (by omega)] at h0
      rw [lc_st2, lc_st2]
      by_cases z : p + 2 = lc_ht c i
      · have h1 := h (p + 1) (by omega)
        rw [if_pos (by omega)] at h1
        rw [if_pos z, if_pos z, h0, h1]
        rfl
      · rw [if_neg z, if_neg z, h0]
    · rw [if_pos rfl] at hg ⊢
      have P := Nat.two_pow_pos (lc_ec c i)
      obtain ⟨w, hw, h⟩ := ih hi' (fun p => (if p + 1 = lc_ht c i then g (p - 1) else g p) % 2 ^ lc_ec c i) (fun p => Nat.mod_lt _ P)
      have K : ∀ b : Bool, ∃ w', w' < 2 ^ (lc_ec c i + 1) ∧ w'.testBit (lc_ec c i) = b ∧ ∀ p, lc_pf c a w' i p = lc_pf c a w i p := by
        intro b
        have ep : 2 ^ (lc_ec c i + 1) = 2 ^ lc_ec c i + 2 ^ lc_ec c i := by rw [Nat.pow_succ]; omega
        cases b with
        | false => exact ⟨w, by omega, Nat.testBit_lt_two_pow hw, fun _ => rfl⟩
        | true =>
          refine ⟨2 ^ lc_ec c i + w, by omega, ?_, fun p => lc_hi V hi' p⟩
          rw [Nat.testBit_two_pow_add_eq, Nat.testBit_lt_two_pow hw]; rfl
      obtain ⟨w', hw', hb, hp'⟩ := K ((g (lc_ht c i - 2)).testBit (lc_ec c i))
      refine ⟨w', hw', fun p hp => ?_⟩
      rw [lc_hs4] at hp
      have h0 := h p (by omega)
      rw [if_neg (by omega), lc_low V hi'] at h0
      rw [lc_st4, lc_st4, hp', hp']
      by_cases z : p + 2 = lc_ht c i
      · have h1 := h (p + 1) (by omega)
        rw [if_pos (by omega), lc_low V hi'] at h1
        have z' : lc_ht c i - 2 = p := by omega
        rw [z'] at hb
        rw [if_pos z, if_pos z, hb, h0, h1]
        rfl
      · rw [if_neg z, if_neg z, h0]
/-- the boxes of document p (from the bottom) after i tokens -/
def lc_Set (c a : Nat → Int32) (i p : Nat) : lc_Bx → Prop := fun b => ∃ w, w < 2 ^ lc_ec c i ∧ lc_pf c a w i p = b
theorem lc_two {c a : Nat → Int32} {T : Nat} (V : lc_VT c a T) {i : Nat} (hi : i ≤ T) {p : Nat} (hp : p + 2 = lc_ht c i) {b d : lc_Bx} (hb : lc_Set c a i p b) (hd : lc_Set c a i (p + 1) d) : ∃ w, w < 2 ^ lc_ec c i ∧ lc_pf c a w i p = b ∧ lc_pf c a w i (p + 1) = d := by
  obtain ⟨w1, h1, e1⟩ := hb
  obtain ⟨w2, h2, e2⟩ := hd
  obtain ⟨w, hw, h⟩ := lc_ind V i hi (fun q => if q = p then w1 else w2) (fun q => by
    by_cases z : q = p
    · rw [if_pos z]; exact h1
    · rw [if_neg z]; exact h2)
  have a1 := h p (by omega)
  have a2 := h (p + 1) (by omega)
  rw [if_pos rfl] at a1
  rw [if_neg (by omega)] at a2
  exact ⟨w, hw, a1.trans e1, a2.trans e2⟩
end
section
theorem lc_dummy : True := trivial
end
