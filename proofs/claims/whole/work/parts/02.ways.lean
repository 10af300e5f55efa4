section FWB
/-! C: ways -/
def fw_W (L : Nat) (f t p q : Nat → Nat) : Nat → Nat → Nat → Nat → Nat → Prop
  | 0, x, y, s, r => x = y ∧ s = 0 ∧ r = 0
  | n + 1, x, y, s, r => ∃ l, l < L ∧ f l = x ∧ ∃ s' r', fw_W L f t p q n (t l) y s' r' ∧ s = p l + s' ∧ r = q l + r'
def fw_V (L : Nat) (f t p q : Nat → Nat) (S : List Nat) : Nat → Nat → Nat → Nat → Nat → Prop
  | 0, x, y, s, r => x ∈ S ∧ x = y ∧ s = 0 ∧ r = 0
  | n + 1, x, y, s, r => x ∈ S ∧ ∃ l, l < L ∧ f l = x ∧ ∃ s' r', fw_V L f t p q S n (t l) y s' r' ∧ s = p l + s' ∧ r = q l + r'
variable {L : Nat} {f t p q : Nat → Nat}
theorem fw_app {l : Nat} (hl : l < L) : ∀ (n x s r : Nat), fw_W L f t p q n x (f l) s r → fw_W L f t p q (n + 1) x (t l) (s + p l) (r + q l) := by
  intro n
  induction n with
  | zero =>
    rintro x s r ⟨h1, h2, h3⟩
    exact ⟨l, hl, h1.symm, 0, 0, ⟨rfl, rfl, rfl⟩, by omega, by omega⟩
  | succ n ih =>
    rintro x s r ⟨l', h1, h2, s', r', h3, h4, h5⟩
    exact ⟨l', h1, h2, s' + p l, r' + q l, ih _ _ _ h3, by omega, by omega⟩
theorem fw_bnd (hp : ∀ i, p i ≤ 3) (hq : ∀ i, q i ≤ 3) : ∀ (n x y s r : Nat), fw_W L f t p q n x y s r → s ≤ 3 * n ∧ r ≤ 3 * n := by
  intro n
  induction n with
  | zero =>
    rintro x y s r ⟨h1, h2, h3⟩
    omega
  | succ n ih =>
    rintro x y s r ⟨l', h1, h2, s', r', h3, h4, h5⟩
    have := ih _ _ _ _ h3
    have := hp l'
    have := hq l'
    omega
theorem fw_toV (S : List Nat) (ht : ∀ i, t i ∈ S) : ∀ (n x y s r : Nat), x ∈ S → fw_W L f t p q n x y s r → fw_V L f t p q S n x y s r := by
  intro n
  induction n with
  | zero =>
    rintro x y s r hx h
    exact ⟨hx, h⟩
  | succ n ih =>
    rintro x y s r hx ⟨l', h1, h2, s', r', h3, h4, h5⟩
    exact ⟨hx, l', h1, h2, s', r', ih _ _ _ _ (ht l') h3, h4, h5⟩
def fw_Q (L : Nat) (f t p q : Nat → Nat) (S : List Nat) (v y s r : Nat) : Prop :=
  v = y ∨ ∃ l, l < L ∧ f l = v ∧ ∃ m s' r', fw_V L f t p q (S.filter (fun z => decide (z ≠ v))) m (t l) y s' r' ∧ p l + s' ≤ s ∧ q l + r' ≤ r
theorem fw_last (S : List Nat) (v : Nat) : ∀ (n x y s r : Nat), fw_V L f t p q S n x y s r → fw_V L f t p q (S.filter (fun z => decide (z ≠ v))) n x y s r ∨ fw_Q L f t p q S v y s r := by
  intro n
  induction n with
  | zero =>
    rintro x y s r ⟨h1, h2, h3⟩
    by_cases e : x = v
    · exact Or.inr (Or.inl (by omega))
    · exact Or.inl ⟨List.mem_filter.mpr ⟨h1, by simp [e]⟩, h2, h3⟩
  | succ n ih =>
    rintro x y s r ⟨hx, l', h1, h2, s', r', h3, h4, h5⟩
    cases ih _ _ _ _ h3 with
    | inl h =>
      by_cases e : x = v
      · exact Or.inr (Or.inr ⟨l', h1, by omega, n, s', r', h, by omega, by omega⟩)
      · exact Or.inl ⟨List.mem_filter.mpr ⟨hx, by simp [e]⟩, l', h1, h2, s', r', h, h4, h5⟩
    | inr h =>
      cases h with
      | inl h => exact Or.inr (Or.inl h)
      | inr h =>
        obtain ⟨l2, g1, g2, m, s2, r2, g3, g4, g5⟩ := h
        exact Or.inr (Or.inr ⟨l2, g1, g2, m, s2, r2, g3, by omega, by omega⟩)
theorem fw_flt {v : Nat} : ∀ (S : List Nat), v ∈ S → (S.filter (fun z => decide (z ≠ v))).length < S.length := by
  intro S
  induction S with
  | nil => intro h; cases h
  | cons a S ih =>
    intro h
    by_cases e : a = v
    · rw [List.filter_cons_of_neg (by simp [e])]
      have := List.length_filter_le (fun z => decide (z ≠ v)) S
      simp only [List.length_cons]
      omega
    · rw [List.filter_cons_of_pos (by simp [e])]
      have h2 : v ∈ S := by
        cases h with
        | head => exact absurd rfl e
        | tail _ h => exact h
      have := ih h2
      simp only [List.length_cons]
      omega
theorem fw_short : ∀ (k : Nat) (S : List Nat) (n x y s r : Nat), S.length ≤ k → fw_V L f t p q S n x y s r → ∃ m s' r', m + 1 ≤ k ∧ s' ≤ s ∧ r' ≤ r ∧ fw_W L f t p q m x y s' r' := by
  intro k
  induction k with
  | zero =>
    intro S n x y s r hk h
    have hx : x ∈ S := by cases n <;> exact h.1
    have : S = [] := List.eq_nil_of_length_eq_zero (by omega)
    rw [this] at hx
    cases hx
  | succ k ih =>
    intro S n x y s r hk h
    have hx : x ∈ S := by cases n <;> exact h.1
    cases fw_last S x n x y s r h with
    | inl h =>
      have hx' : x ∈ S.filter (fun z => decide (z ≠ x)) := by cases n <;> exact h.1
      have := (List.mem_filter.mp hx').2
      simp at this
    | inr h =>
      cases h with
      | inl h => exact ⟨0, 0, 0, by omega, by omega, by omega, h, rfl, rfl⟩
      | inr h =>
        obtain ⟨l2, g1, g2, m, s2, r2, g3, g4, g5⟩ := h
        have := fw_flt S hx
        obtain ⟨m', s3, r3, e1, e2, e3, e4⟩ := ih _ _ _ _ _ _ (by omega) g3
        exact ⟨m' + 1, p l2 + s3, q l2 + r3, by omega, by omega, by omega, l2, g1, g2, s3, r3, e4, rfl, rfl⟩
theorem fw_six (ht : ∀ i, t i < 7) {n x y s r : Nat} (hx : x < 7) (h : fw_W L f t p q n x y s r) : ∃ m s' r', m ≤ 6 ∧ s' ≤ s ∧ r' ≤ r ∧ fw_W L f t p q m x y s' r' := by
  obtain ⟨m, s', r', h1, h2⟩ := fw_short 7 (List.range 7) n x y s r (by simp) (fw_toV (List.range 7) (fun i => List.mem_range.mpr (ht i)) n x y s r (List.mem_range.mpr hx) h)
  exact ⟨m, s', r', by omega, h2⟩
/-! D: the table of least sums -/
def fw_Good (L : Nat) (f t p q : Nat → Nat) (to : Nat) (d : Nat → Nat) : Prop :=
  (∀ x s, x < 7 → s < 19 → d (x * 19 + s) < 1000 → ∃ n, fw_W L f t p q n x to s (d (x * 19 + s))) ∧ (∀ n x s r, n ≤ 6 → x < 7 → fw_W L f t p q n x to s r → d (x * 19 + s) ≤ r)
end FWB
