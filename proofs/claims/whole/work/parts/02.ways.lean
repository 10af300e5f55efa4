section FWB
/-! C: ways -/
def fw_W (L : Nat) (f t p q : Nat → Nat) : Nat → Nat → Nat → Nat → Nat → Prop
  | 0, x, y, s, r => x = y ∧ s = 0 ∧ r = 0
  | n + 1, x, y, s, r => ∃ l, l < L ∧ f l = x ∧ ∃ s' r', fw_W L f t p q n (t l) y s' r' ∧ s = p l + s' ∧ r = q l + r'
def fw_V (L : Nat) (f t p q : Nat → Nat) (S : List Nat) : Nat → Nat → Nat → Nat → Nat → Prop
  | 0, x, y, s, r => x ∈ S ∧ x = y ∧ s = 0 ∧ r = 0
  | n + 1, x, y, s, r => x ∈ S ∧ ∃ l, l < L ∧ f l = x ∧ ∃ s' r', fw_V L f t p q S n (t l) y s' r' ∧ s = p l + s' ∧ r = q l + r'
variable {L : Nat} {f t p q : Nat → Nat}
theorem fw_app {l : Nat} (hl : l < L) : ∀ (n x s r : Nat), fw_W L f t p q n x (f l) s r → fw_W L f t p q (n + 1) x (t l) (s + p l) (r + q l) := by
  intro n
  induction n with
  | zero =>
    rintro x s r ⟨h1, h2, h3⟩
    exact ⟨l, hl, h1.symm, 0, 0, ⟨rfl, rfl, rfl⟩, by omega, by omega⟩
  | succ n ih =>
    rintro x s r ⟨l', h1, h2, s', r', h3, h4, h5⟩
    exact ⟨l', h1, h2, s' + p l, r' + q l, ih _ _ _ h3, by omega, by omega⟩
theorem fw_bnd (hp : ∀ i, p i ≤ 3) (hq : ∀ i, q i ≤ 3) : ∀ (n x y s r : Nat), fw_W L f t p q n x y s r → s ≤ 3 * n ∧ r ≤ 3 * n := by
  intro n
  induction n with
  | zero =>
    rintro x y s r ⟨h1, h2, h3⟩
    omega
  | succ n ih =>
    rintro x y s r ⟨l', h1, h2, s', r', h3, h4, h5⟩
    have := ih _ _ _ _ h3
    have := hp l'
    have := hq l'
    omega
theorem fw_toV (S : List Nat) (ht : ∀ i, t i ∈ S) : ∀ (n x y s r : Nat), x ∈ S → fw_W L f t p q n x y s r → fw_V L f t p q S n x y s r := by
  intro n
  induction n with
  | zero =>
    rintro x y s r hx h
    exact ⟨hx, h⟩
  | succ n ih =>
    rintro x y s r hx ⟨l', h1, h2, s', r', h3, h4, h5⟩
    exact ⟨hx, l', h1, h2, s', r', ih _ _ _ _ (ht l') h3, h4, h5⟩
def fw_Q (L : Nat) (f t p q : Nat → Nat) (S : List Nat) (v y s r : Nat) : Prop :=
  v = y ∨ ∃ l, l < L ∧ f l = v ∧ ∃ m s' r', fw_V L f t p q (S.filter (fun z => decide (z ≠ v))) m (t l) y s' r' ∧ p l + s' ≤ s ∧ q l + r' ≤ r
theorem fw_last (S : List Nat) (v : Nat) : ∀ (n x y s r : Nat), fw_V L f t p q S n x y s r → fw_V L f t p q (S.filter (fun z => decide (z ≠ v))) n x y s r ∨ fw_Q L f t p q S v y s r := by
  intro n
  induction n with
  | zero =>
    rintro x y s r ⟨h1, h2, h3⟩
    by_cases e : x = v
    · exact Or.inr (Or.inl (by omega))
    · exact Or.inl ⟨List.mem_filter.mpr ⟨h1, by simp [e]⟩, h2, h3⟩
  | succ n ih =>
    rintro x y s r ⟨hx, l', h1, h2, s', r', h3, h4, h5⟩
    cases ih _ _ _ _ h3 with
    | inl h =>
      by_cases e : x = v
      · exact Or.inr (Or.inr ⟨l', h1, by omega, n, s', r', h, by omega, by omega⟩)
      · exact Or.inl ⟨List.mem_filter.mpr ⟨hx, by simp [e]⟩, l', h1, h2, s', r', h, h4, h5⟩
    | inr h =>
      cases h with
      | inl h => exact Or.inr (Or.inl h)
      | inr h =>
        obtain ⟨l2, g1, g2, m, s2, r2, g3, g4, g5⟩ := h
        exact Or.inr (Or.inr ⟨l2, g1, g2, m, s2, r2, g3, by omega, by omega⟩)
theorem fw_flt {v : Nat} : ∀ (S : List Nat), v ∈ S → (S.filter (fun z => decide (z ≠ v))).length < S.length := by
  intro S
  induction S with
  | nil => intro h; cases h
  | cons a S ih =>
    intro h
    by_cases e : a = v
    · rw [List.filter_cons_of_neg (by simp [e])]
      have := List.length_filter_le (fun z => decide (z ≠ v)) S
      simp only [List.length_cons]
      omega
    · rw [List.filter_cons_of_pos (by simp [e])]
      have h2 : v ∈ S := by
        cases h with
        | head => exact absurd rfl e
        | tail _ h => exact h
      have := ih h2
      simp only [List.length_cons]
      omega
theorem fw_short : ∀ (k : Nat) (S : List Nat) (n x y s r : Nat), S.length ≤ k → fw_V L f t p q S n x y s r → ∃ m s' r', m + 1 ≤ k ∧ s' ≤ s ∧ r' ≤ r ∧ fw_W L f t p q m x y s' r' := by
  intro k
  induction k with
  | zero =>
    intro S n x y s r hk h
    have hx : x ∈ S := by cases n <;> exact h.1
    have : S = [] := List.eq_nil_of_length_eq_zero (by omega)
    rw [this] at hx
    cases hx
  | succ k ih =>
    intro S n x y s r hk h
    have hx : x ∈ S := by cases n <;> exact h.1
    cases fw_last S x n x y s r h with
    | inl h =>
      have hx' : x ∈ S.filter (fun z => decide (z ≠ x)) := by cases n <;> exact h.1
      have := (List.mem_filter.mp hx').2
      simp at this
    | inr h =>
      cases h with
      | inl h => exact ⟨0, 0, 0, by omega, by omega, by omega, h, rfl, rfl⟩
      | inr h =>
        obtain ⟨l2, g1, g2, m, s2, r2, g3, g4, g5⟩ := h
        have := fw_flt S hx
        obtain ⟨m', s3, r3, e1, e2, e3, e4⟩ := ih _ _ _ _ _ _ (by omega) g3
        exact ⟨m' + 1, p l2 + s3, q l2 + r3, by omega, by omega, by omega, l2, g1, g2, s3, r3, e4, rfl, rfl⟩
theorem fw_six (ht : ∀ i, t i < 7) {n x y s r : Nat} (hx : x < 7) (h : fw_W L f t p q n x y s r) : ∃ m s' r', m ≤ 6 ∧ s' ≤ s ∧ r' ≤ r ∧ fw_W L f t p q m x y s' r' := by
  obtain ⟨m, s', r', h1, h2⟩ := fw_short 7 (List.range 7) n x y s r (by simp) (fw_toV (List.range 7) (fun i => List.mem_range.mpr (ht i)) n x y s r (List.mem_range.mpr hx) h)
  exact ⟨m, s', r', by omega, h2⟩
/-! D: the table of least sums -/
def fw_Good (L : Nat) (f t p q : Nat → Nat) (to : Nat) (d : Nat → Nat) : Prop :=
  (∀ x s, x < 7 → s < 19 → d (x * 19 + s) < 1000 → ∃ n, fw_W L f t p q n x to s (d (x * 19 + s))) ∧ (∀ n x s r, n ≤ 6 → x < 7 → fw_W L f t p q n x to s r → d (x * 19 + s) ≤ r)
theorem fw_br (ht : ∀ i, t i < 7) (hp : ∀ i, p i ≤ 3) (hq : ∀ i, q i ≤ 3) {to : Nat} {d : Nat → Nat} (hG : fw_Good L f t p q to d) {x s0 r0 : Nat} (hx : x < 7) (hr : r0 < 1000) :
    (∃ s, s ≤ s0 ∧ s < 19 ∧ d (x * 19 + s) ≤ r0) ↔ ∃ n s r, fw_W L f t p q n x to s r ∧ s ≤ s0 ∧ r ≤ r0 := by
  constructor
  · rintro ⟨s, h1, h2, h3⟩
    obtain ⟨n, h⟩ := hG.1 x s hx h2 (by omega)
    exact ⟨n, s, _, h, h1, h3⟩
  · rintro ⟨n, s, r, h, h1, h2⟩
    obtain ⟨m, s', r', g1, g2, g3, g4⟩ := fw_six ht hx h
    have := fw_bnd hp hq _ _ _ _ _ g4
    have := hG.2 m x s' r' g1 hx g4
    exact ⟨s', by omega, by omega, by omega⟩
/-- what is reached from the starts that I holds -/
def fw_R (L : Nat) (f t p q : Nat → Nat) (I : Nat → Nat → Nat → Prop) (x a b : Nat) : Prop :=
  ∃ x0 a0 b0, I x0 a0 b0 ∧ ∃ n s r, fw_W L f t p q n x0 x s r ∧ a = a0 + s ∧ b = b0 + r
def fw_tok (T : Nat) (tp ta tb : Nat → Nat) (K : Nat → Prop) (x a b : Nat) : Prop := ∃ i, i < T ∧ K i ∧ x = tp i ∧ a = ta i ∧ b = tb i
def fw_eT (d tp ta tb : Nat → Nat) (i a : Nat) : Nat := fw_mn 1000 (fun s => tb i + d (tp i * 19 + s)) (a + 1 - ta i)
def fw_eB (d tp ta tb : Nat → Nat) (T a : Nat) : Nat := fw_mn 1000 (fun i => fw_eT d tp ta tb i a) T
theorem fw_eT_le (ht : ∀ i, t i < 7) (hp : ∀ i, p i ≤ 3) (hq : ∀ i, q i ≤ 3) {to : Nat} {d tp ta tb : Nat → Nat} (hG : fw_Good L f t p q to d) {i a b : Nat} (hx : tp i < 7) (ha : a < 19) (hb : b < 1000) :
    fw_eT d tp ta tb i a ≤ b ↔ ∃ x y, x ≤ a ∧ y ≤ b ∧ ∃ n s r, fw_W L f t p q n (tp i) to s r ∧ x = ta i + s ∧ y = tb i + r := by
  unfold fw_eT
  rw [fw_mn_le hb]
  constructor
  · rintro ⟨s, h1, h2⟩
    have h2 : tb i + d (tp i * 19 + s) ≤ b := h2
    obtain ⟨n, s', r', h3, h4, h5⟩ := (fw_br ht hp hq hG (s0 := a - ta i) (r0 := b - tb i) hx (by omega)).mp ⟨s, by omega, by omega, by omega⟩
    exact ⟨ta i + s', tb i + r', by omega, by omega, n, s', r', h3, rfl, rfl⟩
  · rintro ⟨x, y, h1, h2, n, s, r, h3, h4, h5⟩
    obtain ⟨s', g1, g2, g3⟩ := (fw_br ht hp hq hG (s0 := a - ta i) (r0 := b - tb i) hx (by omega)).mpr ⟨n, s, r, h3, by omega, by omega⟩
    exact ⟨s', by omega, by show tb i + d (tp i * 19 + s') ≤ b; omega⟩
theorem fw_eB_le (ht : ∀ i, t i < 7) (hp : ∀ i, p i ≤ 3) (hq : ∀ i, q i ≤ 3) {to : Nat} {d tp ta tb : Nat → Nat} (hG : fw_Good L f t p q to d) {T a b : Nat} (hx : ∀ i, tp i < 7) (ha : a < 19) (hb : b < 1000) :
    fw_eB d tp ta tb T a ≤ b ↔ ∃ x y, x ≤ a ∧ y ≤ b ∧ fw_R L f t p q (fw_tok T tp ta tb (fun _ => True)) to x y := by
  unfold fw_eB
  rw [fw_mn_le hb]
  constructor
  · rintro ⟨i, h1, h2⟩
    obtain ⟨x, y, h3, h4, n, s, r, h5, h6, h7⟩ := (fw_eT_le ht hp hq hG (hx i) ha hb).mp h2
    exact ⟨x, y, h3, h4, tp i, ta i, tb i, ⟨i, h1, trivial, rfl, rfl, rfl⟩, n, s, r, h5, h6, h7⟩
  · rintro ⟨x, y, h3, h4, _, _, _, ⟨i, h1, _, rfl, rfl, rfl⟩, n, s, r, h5, h6, h7⟩
    exact ⟨i, h1, (fw_eT_le ht hp hq hG (hx i) ha hb).mpr ⟨x, y, h3, h4, n, s, r, h5, h6, h7⟩⟩
theorem fw_frontH (ht : ∀ i, t i < 7) (hp : ∀ i, p i ≤ 3) (hq : ∀ i, q i ≤ 3) {to : Nat} {d tp ta tb : Nat → Nat} (hG : fw_Good L f t p q to d) {T : Nat} (hx : ∀ i, tp i < 7) (a b : Nat) (ha : a < 16) (hb : b < 16) :
    (∃ s, s ≤ a ∧ fw_eB d tp ta tb T s ≤ b) ↔ ∃ x y, x ≤ a ∧ y ≤ b ∧ fw_R L f t p q (fw_tok T tp ta tb (fun _ => True)) to x y := by
  constructor
  · rintro ⟨s, h1, h2⟩
    obtain ⟨x, y, h3, h4, h5⟩ := (fw_eB_le ht hp hq hG hx (by omega) (by omega)).mp h2
    exact ⟨x, y, by omega, h4, h5⟩
  · rintro ⟨x, y, h1, h2, h3⟩
    exact ⟨a, Nat.le_refl a, (fw_eB_le ht hp hq hG hx (by omega) (by omega)).mpr ⟨x, y, h1, h2, h3⟩⟩
def fw_one (z : Nat) (x a b : Nat) : Prop := x = z ∧ a = 0 ∧ b = 0
theorem fw_shortH (ht : ∀ i, t i < 7) (hp : ∀ i, p i ≤ 3) (hq : ∀ i, q i ≤ 3) {to : Nat} {d : Nat → Nat} (hG : fw_Good L f t p q to d) {z : Nat} (hz : z < 7) (a b : Nat) (ha : a < 19) (hb : b < 19) :
    (∃ s, s ≤ a ∧ d (z * 19 + s) ≤ b) ↔ ∃ x y, x ≤ a ∧ y ≤ b ∧ fw_R L f t p q (fw_one z) to x y := by
  constructor
  · rintro ⟨s, h1, h2⟩
    obtain ⟨n, s', r', h3, h4, h5⟩ := (fw_br ht hp hq hG (s0 := a) (r0 := b) hz (by omega)).mp ⟨s, h1, by omega, h2⟩
    exact ⟨s', r', h4, h5, z, 0, 0, ⟨rfl, rfl, rfl⟩, n, s', r', h3, by omega, by omega⟩
  · rintro ⟨x, y, h1, h2, _, _, _, ⟨rfl, rfl, rfl⟩, n, s, r, h5, h6, h7⟩
    obtain ⟨s', g1, _, g2⟩ := (fw_br ht hp hq hG (s0 := a) (r0 := b) hz (by omega)).mpr ⟨n, s, r, h5, by omega, by omega⟩
    exact ⟨s', g1, g2⟩
theorem fw_shortB (ht : ∀ i, t i < 7) (hp : ∀ i, p i ≤ 3) (hq : ∀ i, q i ≤ 3) {to : Nat} {d : Nat → Nat} (hG : fw_Good L f t p q to d) {z : Nat} (hz : z < 7) {a : Nat} (ha : a < 19) (h : d (z * 19 + a) < fw_mn 1000 (fun s => d (z * 19 + s)) a) : d (z * 19 + a) < 19 := by
  obtain ⟨h1, h2⟩ := (fw_mn_lt a).mp h
  obtain ⟨n, h3⟩ := hG.1 z a hz ha h1
  obtain ⟨m, s', r', g1, g2, g3, g4⟩ := fw_six ht hz h3
  have := fw_bnd hp hq _ _ _ _ _ g4
  have g5 := hG.2 m z s' r' g1 hz g4
  by_cases c : s' < a
  · have g6 : d (z * 19 + a) < d (z * 19 + s') := h2 s' c
    omega
  · have : s' = a := by omega
    subst this
    omega
end FWB
