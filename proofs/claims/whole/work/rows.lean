section
section FWA
/-! A: numbers, stores (the rows named pk_ are pasted from the rows to paste) -/
theorem pk_us {f : Nat → Int32} {k : Nat} {x : Int32} : upd f k x k = x := if_pos rfl
theorem pk_un {f : Nat → Int32} {k j : Nat} {x : Int32} (h : j ≠ k) : upd f k x j = f j := if_neg h
theorem pk_sub {a b : Nat} (h : b ≤ a) : nI a - nI b = nI (a - b) := by
  obtain ⟨c, rfl⟩ : ∃ c, a = c + b := ⟨a - b, by omega⟩
  rw [← nI_add, Int32.add_sub_cancel, Nat.add_sub_cancel]
theorem pk_mul (a b : Nat) : nI a * nI b = nI (a * b) := (Int32.ofNat_mul a b).symm
theorem pk_div {a d : Nat} (ha : a < 2 ^ 31) (h0 : 0 < d) (hd : d < 2 ^ 31) : nI a / nI d = nI (a / d) := by
  apply Int32.toInt_inj.mp
  rw [lg_idiv_nonneg (by rw [nI_toInt ha]; omega) (by rw [nI_toInt hd]; omega), nI_toInt ha, nI_toInt hd, nI_toInt (Nat.lt_of_le_of_lt (Nat.div_le_self a d) ha)]
  first | rfl | exact (Int.natCast_ediv _ _).symm
theorem pk_rem {a d : Nat} (ha : a < 2 ^ 31) (h0 : 0 < d) (hd : d < 2 ^ 31) : nI a - nI a / nI d * nI d = nI (a % d) := by
  rw [pk_div ha h0 hd, pk_mul, pk_sub (Nat.div_mul_le_self a d)]
  exact congrArg nI (by have := Nat.div_add_mod' a d; omega)
theorem pk_sub_toInt {a b : Nat} (ha : a < 2 ^ 30) (hb : b < 2 ^ 30) : (nI a - nI b).toInt = (a : Int) - b := by
  rw [Int32.toInt_sub, nI_toInt (by omega), nI_toInt (by omega)]
  exact Int.bmod_eq_of_le (by omega) (by omega)
theorem pk_sneg {a b : Nat} (hb : b < 2 ^ 30) (h : a < b) : nI a - nI b < 0 := by
  rw [Int32.lt_iff_toInt_lt, pk_sub_toInt (by omega) hb, show (0 : Int32).toInt = 0 from by decide]
  omega
theorem pk_ix (x : Int32) {n : Nat} (hn : n < 2 ^ 31) : x < 0 ∨ nI n ≤ x ∨ ∃ j : Nat, j < n ∧ x = nI j := by
  by_cases h : x < 0
  · exact Or.inl h
  · obtain ⟨j, hj, rfl⟩ := nI_of h
    by_cases h2 : j < n
    · exact Or.inr (Or.inr ⟨j, h2, rfl⟩)
    · exact Or.inr (Or.inl (nI_le (by omega) hj))
theorem pk_le {x y : Int32} {A B : Prop} (a b : Nat) (f : a ≤ b → A) (g : b < a → B) (hx : x = nI a := by rfl) (hy : y = nI b := by rfl) (ha : a < 2 ^ 31 := by omega) (hb : b < 2 ^ 31 := by omega) : (x ≤ y → A) ∧ (¬ x ≤ y → B) := by
  subst hx hy
  rw [nI_leI ha hb]
  exact ⟨f, fun z => g (by omega)⟩
theorem pk_lt {x y : Int32} {A B : Prop} (a b : Nat) (f : a < b → A) (g : b ≤ a → B) (hx : x = nI a := by rfl) (hy : y = nI b := by rfl) (ha : a < 2 ^ 31 := by omega) (hb : b < 2 ^ 31 := by omega) : (x < y → A) ∧ (¬ x < y → B) := by
  subst hx hy
  rw [nI_ltI ha hb]
  exact ⟨f, fun z => g (by omega)⟩
theorem pk_eq {x y : Int32} {A B : Prop} (a b : Nat) (f : a = b → A) (g : a ≠ b → B) (hx : x = nI a := by rfl) (hy : y = nI b := by rfl) (ha : a < 2 ^ 31 := by omega) (hb : b < 2 ^ 31 := by omega) : (x = y → A) ∧ (¬ x = y → B) := by
  subst hx hy
  rw [nI_eq ha hb]
  exact ⟨f, g⟩
theorem pk_in {x : Int32} (n N : Nat) (h : n < N) (hx : x = nI n := by rfl) (hN : N < 2 ^ 31 := by omega) : vp_in x N := by
  subst hx
  exact vp_in_nI h hN
theorem pk_cl {x : Int32} (n : Nat) (hx : x = nI n := by rfl) (h : n < 2 ^ 31 := by omega) : x.toNatClampNeg = n := by
  subst hx
  exact nI_clamp h
theorem fw_b0 : vp_nar .boolean 0 = 0 := by decide
theorem fw_b1 : vp_nar .boolean 1 = 1 := by decide
theorem fw_10 : ¬ (1 : Int32) = 0 := by decide
theorem fw_n1le : ¬ (0 : Int32) ≤ -1 := by decide
theorem fw_n1 {a : Nat} (h : a < 2 ^ 31) : ¬ nI a = -1 := by
  intro e
  have := nI_pos (n := a) h
  rw [e] at this
  exact this (by decide)
theorem fw_p1 {n : Nat} (h : 0 < n) : nI n - 1 = nI (n - 1) := by
  obtain ⟨m, rfl⟩ : ∃ m, n = m + 1 := ⟨n - 1, by omega⟩
  exact nI_pred m
def fw_nv (F : Nat → Int32) (i : Nat) : Nat := (F i).toNatClampNeg
def fw_Rg (F : Nat → Int32) (m : Nat) : Prop := ∀ i, ∃ n, n < m ∧ F i = nI n
theorem fw_rg {F : Nat → Int32} {m : Nat} (h : fw_Rg F m) (hm : m ≤ 2000) (i : Nat) : fw_nv F i < m ∧ F i = nI (fw_nv F i) := by
  obtain ⟨n, hn, e⟩ := h i
  have : fw_nv F i = n := by
    unfold fw_nv
    rw [e, nI_clamp (by omega)]
  rw [this]
  exact ⟨hn, e⟩
theorem fw_rgU {F : Nat → Int32} {m k n : Nat} {x : Int32} (h : fw_Rg F m) (hn : n < m) (hx : x = nI n) : fw_Rg (upd F k x) m := by
  intro i
  by_cases e : i = k
  · subst e
    exact ⟨n, hn, by rw [pk_us]; exact hx⟩
  · rw [pk_un e]
    exact h i
theorem fw_rgV {F H : Nat → Int32} {m k j : Nat} (h : fw_Rg F m) (h' : fw_Rg H m) : fw_Rg (upd F k (H j)) m := by
  obtain ⟨n, hn, e⟩ := h' j
  exact fw_rgU h hn e
theorem fw_rg0 {m : Nat} (h : 0 < m) : fw_Rg (fun _ => 0) m := fun _ => ⟨0, h, rfl⟩
theorem fw_nvS {F : Nat → Int32} {k n : Nat} {x : Int32} (hx : x = nI n) (hn : n < 2 ^ 31) : fw_nv (upd F k x) k = n := by
  unfold fw_nv
  rw [pk_us, hx, nI_clamp hn]
theorem fw_nvN {F : Nat → Int32} {k j : Nat} {x : Int32} (h : j ≠ k) : fw_nv (upd F k x) j = fw_nv F j := by
  unfold fw_nv
  rw [pk_un h]
/-! B: least values, counts of new least ones -/
def fw_mn (C : Nat) (g : Nat → Nat) : Nat → Nat
  | 0 => C
  | n + 1 => if g n < fw_mn C g n then g n else fw_mn C g n
theorem fw_mn_lt {C : Nat} {g : Nat → Nat} {v : Nat} : ∀ n, v < fw_mn C g n ↔ v < C ∧ ∀ i, i < n → v < g i
  | 0 => ⟨fun h => ⟨h, fun i hi => absurd hi (Nat.not_lt_zero i)⟩, fun h => h.1⟩
  | n + 1 => by
    have ih := fw_mn_lt (C := C) (g := g) (v := v) n
    show v < (if g n < fw_mn C g n then g n else fw_mn C g n) ↔ _
    constructor
    · intro h
      have h2 : v < fw_mn C g n ∧ v < g n := by
        split at h <;> omega
      refine ⟨(ih.mp h2.1).1, fun i hi => ?_⟩
      by_cases e : i = n
      · rw [e]; exact h2.2
      · exact (ih.mp h2.1).2 i (by omega)
    · intro h
      have h1 : v < fw_mn C g n := ih.mpr ⟨h.1, fun i hi => h.2 i (by omega)⟩
      have h2 := h.2 n (by omega)
      split <;> omega
theorem fw_mn_le {C : Nat} {g : Nat → Nat} {b n : Nat} (hb : b < C) : fw_mn C g n ≤ b ↔ ∃ i, i < n ∧ g i ≤ b := by
  have h := fw_mn_lt (C := C) (g := g) (v := b) n
  constructor
  · intro hl
    apply Classical.byContradiction
    intro hn
    have : b < fw_mn C g n := h.mpr ⟨hb, fun i hi => by
      apply Classical.byContradiction
      intro hc
      exact hn ⟨i, hi, by omega⟩⟩
    omega
  · rintro ⟨i, hi, hg⟩
    apply Classical.byContradiction
    intro hc
    have := (h.mp (by omega)).2 i hi
    omega
theorem fw_mn_C {C : Nat} {g : Nat → Nat} : ∀ n, fw_mn C g n ≤ C
  | 0 => Nat.le_refl C
  | n + 1 => by
    have ih := fw_mn_C (C := C) (g := g) n
    show (if g n < fw_mn C g n then g n else fw_mn C g n) ≤ C
    split <;> omega
def fw_cn (C : Nat) (e : Nat → Nat) : Nat → Nat
  | 0 => 0
  | n + 1 => if e n < fw_mn C e n then fw_cn C e n + 1 else fw_cn C e n
theorem fw_cn_le {C : Nat} {e : Nat → Nat} : ∀ n, fw_cn C e n ≤ n
  | 0 => Nat.le_refl 0
  | n + 1 => by
    have ih := fw_cn_le (C := C) (e := e) n
    show (if e n < fw_mn C e n then fw_cn C e n + 1 else fw_cn C e n) ≤ n + 1
    split <;> omega
def fw_ct (C : Nat) (e : Nat → Nat) (a b : Nat) : Nat := if e a < fw_mn C e a ∧ e a < b then fw_cn C e a + 1 else fw_cn C e a
theorem fw_ct_0 {C : Nat} {e : Nat → Nat} {a : Nat} : fw_ct C e a 0 = fw_cn C e a := by
  unfold fw_ct
  rw [if_neg (by omega)]
theorem fw_ct_K {C K : Nat} {e : Nat → Nat} {a : Nat} (h : e a < fw_mn C e a → e a < K) : fw_ct C e a K = fw_cn C e (a + 1) := by
  unfold fw_ct
  show _ = if e a < fw_mn C e a then fw_cn C e a + 1 else fw_cn C e a
  by_cases c : e a < fw_mn C e a
  · rw [if_pos ⟨c, h c⟩, if_pos c]
  · rw [if_neg (by omega), if_neg c]
theorem fw_ct_s {C : Nat} {e : Nat → Nat} {a b : Nat} : fw_ct C e a (b + 1) = if e a = b ∧ b < fw_mn C e a then fw_ct C e a b + 1 else fw_ct C e a b := by
  unfold fw_ct
  by_cases c : e a < fw_mn C e a
  · by_cases c1 : e a < b
    · rw [if_pos ⟨c, by omega⟩, if_neg (by omega), if_pos ⟨c, c1⟩]
    · by_cases c2 : e a = b
      · rw [if_pos ⟨c, by omega⟩, if_pos ⟨c2, by omega⟩, if_neg (by omega)]
      · rw [if_neg (by omega), if_neg (by omega), if_neg (by omega)]
  · rw [if_neg (by omega), if_neg (by omega), if_neg (by omega)]
theorem fw_ct_eq {C : Nat} {e : Nat → Nat} {a b : Nat} (h : e a = b) : fw_ct C e a b = fw_cn C e a := by
  unfold fw_ct
  rw [if_neg (by omega)]
/-- the least times: those that no other time is below -/
def fw_PM (R : Nat → Nat → Prop) (a b : Nat) : Prop := R a b ∧ ¬ ∃ x y, x ≤ a ∧ y ≤ b ∧ R x y ∧ ¬ (x = a ∧ y = b)
theorem fw_pm {R : Nat → Nat → Prop} {e : Nat → Nat} {K : Nat} (H : ∀ a b, a < K → b < K → ((∃ s, s ≤ a ∧ e s ≤ b) ↔ ∃ x y, x ≤ a ∧ y ≤ b ∧ R x y)) {a b : Nat} (ha : a < K) (hb : b < K) : fw_PM R a b ↔ e a = b ∧ ∀ i, i < a → b < e i := by
  constructor
  · rintro ⟨h1, h2⟩
    obtain ⟨s, hs, hes⟩ := (H a b ha hb).mpr ⟨a, b, Nat.le_refl a, Nat.le_refl b, h1⟩
    obtain ⟨x, y, hx, hy, hr⟩ := (H s (e s) (by omega) (by omega)).mp ⟨s, Nat.le_refl s, Nat.le_refl _⟩
    have hxy : x = a ∧ y = b := by
      apply Classical.byContradiction
      intro hn
      exact h2 ⟨x, y, by omega, by omega, hr, hn⟩
    have hsa : s = a := by omega
    subst hsa
    refine ⟨by omega, fun i hi => ?_⟩
    apply Classical.byContradiction
    intro hc
    obtain ⟨x', y', hx', hy', hr'⟩ := (H i b (by omega) hb).mp ⟨i, Nat.le_refl i, by omega⟩
    exact h2 ⟨x', y', by omega, hy', hr', by omega⟩
  · rintro ⟨h1, h2⟩
    have key : ∀ x y, x ≤ a → y ≤ b → R x y → x = a ∧ y = b := by
      intro x y hx hy hr
      obtain ⟨s, hs, hes⟩ := (H x y (by omega) (by omega)).mpr ⟨x, y, Nat.le_refl x, Nat.le_refl y, hr⟩
      by_cases c : s < a
      · have := h2 s c
        omega
      · have : s = a := by omega
        subst this
        omega
    obtain ⟨x, y, hx, hy, hr⟩ := (H a b ha hb).mp ⟨a, Nat.le_refl a, by omega⟩
    obtain ⟨rfl, rfl⟩ := key x y hx hy hr
    exact ⟨hr, fun ⟨x', y', hx', hy', hr', hn⟩ => hn (key x' y' hx' hy' hr')⟩
theorem fw_pm2 {R : Nat → Nat → Prop} {e : Nat → Nat} {K C : Nat} (hC : K ≤ C) (H : ∀ a b, a < K → b < K → ((∃ s, s ≤ a ∧ e s ≤ b) ↔ ∃ x y, x ≤ a ∧ y ≤ b ∧ R x y)) {a b : Nat} (ha : a < K) (hb : b < K) : fw_PM R a b ↔ e a = b ∧ b < fw_mn C e a := by
  rw [fw_pm H ha hb, fw_mn_lt]
  constructor
  · rintro ⟨h1, h2⟩
    exact ⟨h1, by omega, h2⟩
  · rintro ⟨h1, _, h2⟩
    exact ⟨h1, h2⟩
end FWA
end
section
section FWB
/-! C: ways -/
def fw_W (L : Nat) (f t p q : Nat → Nat) : Nat → Nat → Nat → Nat → Nat → Prop
  | 0, x, y, s, r => x = y ∧ s = 0 ∧ r = 0
  | n + 1, x, y, s, r => ∃ l, l < L ∧ f l = x ∧ ∃ s' r', fw_W L f t p q n (t l) y s' r' ∧ s = p l + s' ∧ r = q l + r'
def fw_V (L : Nat) (f t p q : Nat → Nat) (S : List Nat) : Nat → Nat → Nat → Nat → Nat → Prop
  | 0, x, y, s, r => x ∈ S ∧ x = y ∧ s = 0 ∧ r = 0
  | n + 1, x, y, s, r => x ∈ S ∧ ∃ l, l < L ∧ f l = x ∧ ∃ s' r', fw_V L f t p q S n (t l) y s' r' ∧ s = p l + s' ∧ r = q l + r'
variable {L : Nat} {f t p q : Nat → Nat}
theorem fw_app {l : Nat} (hl : l < L) : ∀ (n x s r : Nat), fw_W L f t p q n x (f l) s r → fw_W L f t p q (n + 1) x (t l) (s + p l) (r + q l) := by
  intro n
  induction n with
  | zero =>
    rintro x s r ⟨h1, h2, h3⟩
    exact ⟨l, hl, h1.symm, 0, 0, ⟨rfl, rfl, rfl⟩, by omega, by omega⟩
  | succ n ih =>
    rintro x s r ⟨l', h1, h2, s', r', h3, h4, h5⟩
    exact ⟨l', h1, h2, s' + p l, r' + q l, ih _ _ _ h3, by omega, by omega⟩
theorem fw_bnd (hp : ∀ i, p i ≤ 3) (hq : ∀ i, q i ≤ 3) : ∀ (n x y s r : Nat), fw_W L f t p q n x y s r → s ≤ 3 * n ∧ r ≤ 3 * n := by
  intro n
  induction n with
  | zero =>
    rintro x y s r ⟨h1, h2, h3⟩
    omega
  | succ n ih =>
    rintro x y s r ⟨l', h1, h2, s', r', h3, h4, h5⟩
    have := ih _ _ _ _ h3
    have := hp l'
    have := hq l'
    omega
theorem fw_toV (S : List Nat) (ht : ∀ i, t i ∈ S) : ∀ (n x y s r : Nat), x ∈ S → fw_W L f t p q n x y s r → fw_V L f t p q S n x y s r := by
  intro n
  induction n with
  | zero =>
    rintro x y s r hx h
    exact ⟨hx, h⟩
  | succ n ih =>
    rintro x y s r hx ⟨l', h1, h2, s', r', h3, h4, h5⟩
    exact ⟨hx, l', h1, h2, s', r', ih _ _ _ _ (ht l') h3, h4, h5⟩
def fw_Q (L : Nat) (f t p q : Nat → Nat) (S : List Nat) (v y s r : Nat) : Prop :=
  v = y ∨ ∃ l, l < L ∧ f l = v ∧ ∃ m s' r', fw_V L f t p q (S.filter (fun z => decide (z ≠ v))) m (t l) y s' r' ∧ p l + s' ≤ s ∧ q l + r' ≤ r
theorem fw_last (S : List Nat) (v : Nat) : ∀ (n x y s r : Nat), fw_V L f t p q S n x y s r → fw_V L f t p q (S.filter (fun z => decide (z ≠ v))) n x y s r ∨ fw_Q L f t p q S v y s r := by
  intro n
  induction n with
  | zero =>
    rintro x y s r ⟨h1, h2, h3⟩
    by_cases e : x = v
    · exact Or.inr (Or.inl (by omega))
    · exact Or.inl ⟨List.mem_filter.mpr ⟨h1, by simp [e]⟩, h2, h3⟩
  | succ n ih =>
    rintro x y s r ⟨hx, l', h1, h2, s', r', h3, h4, h5⟩
    cases ih _ _ _ _ h3 with
    | inl h =>
      by_cases e : x = v
      · exact Or.inr (Or.inr ⟨l', h1, by omega, n, s', r', h, by omega, by omega⟩)
      · exact Or.inl ⟨List.mem_filter.mpr ⟨hx, by simp [e]⟩, l', h1, h2, s', r', h, h4, h5⟩
    | inr h =>
      cases h with
      | inl h => exact Or.inr (Or.inl h)
      | inr h =>
        obtain ⟨l2, g1, g2, m, s2, r2, g3, g4, g5⟩ := h
        exact Or.inr (Or.inr ⟨l2, g1, g2, m, s2, r2, g3, by omega, by omega⟩)
theorem fw_flt {v : Nat} : ∀ (S : List Nat), v ∈ S → (S.filter (fun z => decide (z ≠ v))).length < S.length := by
  intro S
  induction S with
  | nil => intro h; cases h
  | cons a S ih =>
    intro h
    by_cases e : a = v
    · rw [List.filter_cons_of_neg (by simp [e])]
      have := List.length_filter_le (fun z => decide (z ≠ v)) S
      simp only [List.length_cons]
      omega
    · rw [List.filter_cons_of_pos (by simp [e])]
      have h2 : v ∈ S := by
        cases h with
        | head => exact absurd rfl e
        | tail _ h => exact h
      have := ih h2
      simp only [List.length_cons]
      omega
theorem fw_short : ∀ (k : Nat) (S : List Nat) (n x y s r : Nat), S.length ≤ k → fw_V L f t p q S n x y s r → ∃ m s' r', m + 1 ≤ k ∧ s' ≤ s ∧ r' ≤ r ∧ fw_W L f t p q m x y s' r' := by
  intro k
  induction k with
  | zero =>
    intro S n x y s r hk h
    have hx : x ∈ S := by cases n <;> exact h.1
    have : S = [] := List.eq_nil_of_length_eq_zero (by omega)
    rw [this] at hx
    cases hx
  | succ k ih =>
    intro S n x y s r hk h
    have hx : x ∈ S := by cases n <;> exact h.1
    cases fw_last S x n x y s r h with
    | inl h =>
      have hx' : x ∈ S.filter (fun z => decide (z ≠ x)) := by cases n <;> exact h.1
      have := (List.mem_filter.mp hx').2
      simp at this
    | inr h =>
      cases h with
      | inl h => exact ⟨0, 0, 0, by omega, by omega, by omega, h, rfl, rfl⟩
      | inr h =>
        obtain ⟨l2, g1, g2, m, s2, r2, g3, g4, g5⟩ := h
        have := fw_flt S hx
        obtain ⟨m', s3, r3, e1, e2, e3, e4⟩ := ih _ _ _ _ _ _ (by omega) g3
        exact ⟨m' + 1, p l2 + s3, q l2 + r3, by omega, by omega, by omega, l2, g1, g2, s3, r3, e4, rfl, rfl⟩
theorem fw_six (ht : ∀ i, t i < 7) {n x y s r : Nat} (hx : x < 7) (h : fw_W L f t p q n x y s r) : ∃ m s' r', m ≤ 6 ∧ s' ≤ s ∧ r' ≤ r ∧ fw_W L f t p q m x y s' r' := by
  obtain ⟨m, s', r', h1, h2⟩ := fw_short 7 (List.range 7) n x y s r (by simp) (fw_toV (List.range 7) (fun i => List.mem_range.mpr (ht i)) n x y s r (List.mem_range.mpr hx) h)
  exact ⟨m, s', r', by omega, h2⟩
/-! D: the table of least sums -/
def fw_Good (L : Nat) (f t p q : Nat → Nat) (to : Nat) (d : Nat → Nat) : Prop :=
  (∀ x s, x < 7 → s < 19 → d (x * 19 + s) < 1000 → ∃ n, fw_W L f t p q n x to s (d (x * 19 + s))) ∧ (∀ n x s r, n ≤ 6 → x < 7 → fw_W L f t p q n x to s r → d (x * 19 + s) ≤ r)
theorem fw_br (ht : ∀ i, t i < 7) (hp : ∀ i, p i ≤ 3) (hq : ∀ i, q i ≤ 3) {to : Nat} {d : Nat → Nat} (hG : fw_Good L f t p q to d) {x s0 r0 : Nat} (hx : x < 7) (hr : r0 < 1000) :
    (∃ s, s ≤ s0 ∧ s < 19 ∧ d (x * 19 + s) ≤ r0) ↔ ∃ n s r, fw_W L f t p q n x to s r ∧ s ≤ s0 ∧ r ≤ r0 := by
  constructor
  · rintro ⟨s, h1, h2, h3⟩
    obtain ⟨n, h⟩ := hG.1 x s hx h2 (by omega)
    exact ⟨n, s, _, h, h1, h3⟩
  · rintro ⟨n, s, r, h, h1, h2⟩
    obtain ⟨m, s', r', g1, g2, g3, g4⟩ := fw_six ht hx h
    have := fw_bnd hp hq _ _ _ _ _ g4
    have := hG.2 m x s' r' g1 hx g4
    exact ⟨s', by omega, by omega, by omega⟩
/-- what is reached from the starts that I holds -/
def fw_R (L : Nat) (f t p q : Nat → Nat) (I : Nat → Nat → Nat → Prop) (x a b : Nat) : Prop :=
  ∃ x0 a0 b0, I x0 a0 b0 ∧ ∃ n s r, fw_W L f t p q n x0 x s r ∧ a = a0 + s ∧ b = b0 + r
def fw_tok (T : Nat) (tp ta tb : Nat → Nat) (K : Nat → Prop) (x a b : Nat) : Prop := ∃ i, i < T ∧ K i ∧ x = tp i ∧ a = ta i ∧ b = tb i
def fw_eT (d tp ta tb : Nat → Nat) (i a : Nat) : Nat := fw_mn 1000 (fun s => tb i + d (tp i * 19 + s)) (a + 1 - ta i)
def fw_eB (d tp ta tb : Nat → Nat) (T a : Nat) : Nat := fw_mn 1000 (fun i => fw_eT d tp ta tb i a) T
theorem fw_eT_le (ht : ∀ i, t i < 7) (hp : ∀ i, p i ≤ 3) (hq : ∀ i, q i ≤ 3) {to : Nat} {d tp ta tb : Nat → Nat} (hG : fw_Good L f t p q to d) {i a b : Nat} (hx : tp i < 7) (ha : a < 19) (hb : b < 1000) :
    fw_eT d tp ta tb i a ≤ b ↔ ∃ x y, x ≤ a ∧ y ≤ b ∧ ∃ n s r, fw_W L f t p q n (tp i) to s r ∧ x = ta i + s ∧ y = tb i + r := by
  unfold fw_eT
  rw [fw_mn_le hb]
  constructor
  · rintro ⟨s, h1, h2⟩
    have h2 : tb i + d (tp i * 19 + s) ≤ b := h2
    obtain ⟨n, s', r', h3, h4, h5⟩ := (fw_br ht hp hq hG (s0 := a - ta i) (r0 := b - tb i) hx (by omega)).mp ⟨s, by omega, by omega, by omega⟩
    exact ⟨ta i + s', tb i + r', by omega, by omega, n, s', r', h3, rfl, rfl⟩
  · rintro ⟨x, y, h1, h2, n, s, r, h3, h4, h5⟩
    obtain ⟨s', g1, g2, g3⟩ := (fw_br ht hp hq hG (s0 := a - ta i) (r0 := b - tb i) hx (by omega)).mpr ⟨n, s, r, h3, by omega, by omega⟩
    exact ⟨s', by omega, by show tb i + d (tp i * 19 + s') ≤ b; omega⟩
theorem fw_eB_le (ht : ∀ i, t i < 7) (hp : ∀ i, p i ≤ 3) (hq : ∀ i, q i ≤ 3) {to : Nat} {d tp ta tb : Nat → Nat} (hG : fw_Good L f t p q to d) {T a b : Nat} (hx : ∀ i, tp i < 7) (ha : a < 19) (hb : b < 1000) :
    fw_eB d tp ta tb T a ≤ b ↔ ∃ x y, x ≤ a ∧ y ≤ b ∧ fw_R L f t p q (fw_tok T tp ta tb (fun _ => True)) to x y := by
  unfold fw_eB
  rw [fw_mn_le hb]
  constructor
  · rintro ⟨i, h1, h2⟩
    obtain ⟨x, y, h3, h4, n, s, r, h5, h6, h7⟩ := (fw_eT_le ht hp hq hG (hx i) ha hb).mp h2
    exact ⟨x, y, h3, h4, tp i, ta i, tb i, ⟨i, h1, trivial, rfl, rfl, rfl⟩, n, s, r, h5, h6, h7⟩
  · rintro ⟨x, y, h3, h4, _, _, _, ⟨i, h1, _, rfl, rfl, rfl⟩, n, s, r, h5, h6, h7⟩
    exact ⟨i, h1, (fw_eT_le ht hp hq hG (hx i) ha hb).mpr ⟨x, y, h3, h4, n, s, r, h5, h6, h7⟩⟩
theorem fw_frontH (ht : ∀ i, t i < 7) (hp : ∀ i, p i ≤ 3) (hq : ∀ i, q i ≤ 3) {to : Nat} {d tp ta tb : Nat → Nat} (hG : fw_Good L f t p q to d) {T : Nat} (hx : ∀ i, tp i < 7) (a b : Nat) (ha : a < 16) (hb : b < 16) :
    (∃ s, s ≤ a ∧ fw_eB d tp ta tb T s ≤ b) ↔ ∃ x y, x ≤ a ∧ y ≤ b ∧ fw_R L f t p q (fw_tok T tp ta tb (fun _ => True)) to x y := by
  constructor
  · rintro ⟨s, h1, h2⟩
    obtain ⟨x, y, h3, h4, h5⟩ := (fw_eB_le ht hp hq hG hx (by omega) (by omega)).mp h2
    exact ⟨x, y, by omega, h4, h5⟩
  · rintro ⟨x, y, h1, h2, h3⟩
    exact ⟨a, Nat.le_refl a, (fw_eB_le ht hp hq hG hx (by omega) (by omega)).mpr ⟨x, y, h1, h2, h3⟩⟩
def fw_one (z : Nat) (x a b : Nat) : Prop := x = z ∧ a = 0 ∧ b = 0
theorem fw_shortH (ht : ∀ i, t i < 7) (hp : ∀ i, p i ≤ 3) (hq : ∀ i, q i ≤ 3) {to : Nat} {d : Nat → Nat} (hG : fw_Good L f t p q to d) {z : Nat} (hz : z < 7) (a b : Nat) (ha : a < 19) (hb : b < 19) :
    (∃ s, s ≤ a ∧ d (z * 19 + s) ≤ b) ↔ ∃ x y, x ≤ a ∧ y ≤ b ∧ fw_R L f t p q (fw_one z) to x y := by
  constructor
  · rintro ⟨s, h1, h2⟩
    obtain ⟨n, s', r', h3, h4, h5⟩ := (fw_br ht hp hq hG (s0 := a) (r0 := b) hz (by omega)).mp ⟨s, h1, by omega, h2⟩
    exact ⟨s', r', h4, h5, z, 0, 0, ⟨rfl, rfl, rfl⟩, n, s', r', h3, by omega, by omega⟩
  · rintro ⟨x, y, h1, h2, _, _, _, ⟨rfl, rfl, rfl⟩, n, s, r, h5, h6, h7⟩
    obtain ⟨s', g1, _, g2⟩ := (fw_br ht hp hq hG (s0 := a) (r0 := b) hz (by omega)).mpr ⟨n, s, r, h5, by omega, by omega⟩
    exact ⟨s', g1, g2⟩
theorem fw_shortB (ht : ∀ i, t i < 7) (hp : ∀ i, p i ≤ 3) (hq : ∀ i, q i ≤ 3) {to : Nat} {d : Nat → Nat} (hG : fw_Good L f t p q to d) {z : Nat} (hz : z < 7) {a : Nat} (ha : a < 19) (h : d (z * 19 + a) < fw_mn 1000 (fun s => d (z * 19 + s)) a) : d (z * 19 + a) < 19 := by
  obtain ⟨h1, h2⟩ := (fw_mn_lt a).mp h
  obtain ⟨n, h3⟩ := hG.1 z a hz ha h1
  obtain ⟨m, s', r', g1, g2, g3, g4⟩ := fw_six ht hz h3
  have := fw_bnd hp hq _ _ _ _ _ g4
  have g5 := hG.2 m z s' r' g1 hz g4
  by_cases c : s' < a
  · have g6 : d (z * 19 + a) < d (z * 19 + s') := h2 s' c
    omega
  · have : s' = a := by omega
    subst this
    omega
end FWB
end
section
section FWC
/-! E: X's table of least sums -/
def fw_Ok (L T : Nat) (F To P Q TP TA TB : Nat → Int32) : Prop := L ≤ 12 ∧ T ≤ 20 ∧ fw_Rg F 7 ∧ fw_Rg To 7 ∧ fw_Rg P 4 ∧ fw_Rg Q 4 ∧ fw_Rg TP 7 ∧ fw_Rg TA 16 ∧ fw_Rg TB 16
def fw_So (G : Nat → Nat → Nat → Prop) (D : Nat → Int32) : Prop := ∀ z s, z < 7 → s < 19 → fw_nv D (z * 19 + s) < 1000 → G z s (fw_nv D (z * 19 + s))
def fw_St (G : Nat → Nat → Nat → Prop) (D0 D : Nat → Int32) (x y p q s : Nat) : Prop :=
  fw_Rg D 1001 ∧ (∀ i, fw_nv D i ≤ fw_nv D0 i) ∧ fw_So G D ∧ ∀ s', p + s' < s → fw_nv D (x * 19 + (p + s')) ≤ fw_nv D0 (y * 19 + s') + q
theorem fw_StK {G : Nat → Nat → Nat → Prop} {D0 D : Nat → Int32} {x y p q s : Nat} (hp : p ≤ s) (h : fw_St G D0 D x y p q s) (hk : fw_nv D (x * 19 + s) ≤ fw_nv D (y * 19 + (s - p)) + q) : fw_St G D0 D x y p q (s + 1) := by
  refine ⟨h.1, h.2.1, h.2.2.1, fun s' hs => ?_⟩
  by_cases e : p + s' < s
  · exact h.2.2.2 s' e
  · have e1 : s' = s - p := by omega
    have e2 : p + s' = s := by omega
    rw [e2, e1]
    have := h.2.1 (y * 19 + (s - p))
    omega
theorem fw_StU {G : Nat → Nat → Nat → Prop} {D0 D : Nat → Int32} {x y p q s : Nat} (hx : x < 7) (hy : y < 7) (hs : s < 19) (hp : p ≤ s) (hG : ∀ s r, G y s r → G x (p + s) (q + r)) (h : fw_St G D0 D x y p q s) (hk : fw_nv D (y * 19 + (s - p)) + q < fw_nv D (x * 19 + s)) : fw_St G D0 (upd D (x * 19 + s) (nI (fw_nv D (y * 19 + (s - p)) + q))) x y p q (s + 1) := by
  have hb := (fw_rg h.1 (by decide) (x * 19 + s)).1
  refine ⟨fw_rgU h.1 (by omega) rfl, fun i => ?_, fun z s2 hz hs2 hlt => ?_, fun s' hs' => ?_⟩
  · by_cases e : i = x * 19 + s
    · subst e
      rw [fw_nvS rfl (by omega)]
      have := h.2.1 (x * 19 + s)
      omega
    · rw [fw_nvN e]
      exact h.2.1 i
  · by_cases e : z * 19 + s2 = x * 19 + s
    · have e1 : z = x := by omega
      have e2 : s2 = s := by omega
      subst e1 e2
      rw [fw_nvS rfl (by omega)]
      have g := hG (s2 - p) _ (h.2.2.1 y (s2 - p) hy (by omega) (by omega))
      have e3 : p + (s2 - p) = s2 := by omega
      rw [e3, Nat.add_comm q] at g
      exact g
    · rw [fw_nvN e] at hlt ⊢
      exact h.2.2.1 z s2 hz hs2 hlt
  · by_cases e : p + s' < s
    · rw [fw_nvN (by omega)]
      exact h.2.2.2 s' e
    · have e1 : s' = s - p := by omega
      have e2 : p + s' = s := by omega
      rw [e2, fw_nvS rfl (by omega), e1]
      have := h.2.1 (y * 19 + (s - p))
      omega
theorem fw_sbl {L T : Nat} {F To P Q TP TA TB : Nat → Int32} {ft D0 : Nat → Int32} {G : Nat → Nat → Nat → Prop} {l x y p q : Nat} {post : SX → Prop} (hl : l < 12) (hx : x < 7) (hy : y < 7) (hq : q ≤ 3) (eq : Q l = nI q) (hG : ∀ s r, G y s r → G x (p + s) (q + r)) (hpost : ∀ D, fw_St G D0 D x y p q 19 → post (nI L, nI T, F, To, P, Q, TP, TA, TB, D, ft)) :
    ∀ k s D, s + k = 19 → p ≤ s → fw_St G D0 D x y p q s → wX_setBeforeWays_32 post (nI l) (nI (x * 19)) (nI (y * 19)) (nI p) (nI L) (nI T) (k + 1) (nI s) F To P Q TP TA TB D ft := by
  intro k
  induction k with
  | zero =>
    intro s D hs hps h
    have : s = 19 := by omega
    subst this
    exact br_t (nI_le (Nat.le_refl 19) (by decide)) (hpost D h)
  | succ k ih =>
    intro s D hs hps h
    have e1 : (nI (y * 19) + nI s) - nI p = nI (y * 19 + (s - p)) := by
      rw [nI_add, pk_sub (by omega)]
      exact congrArg nI (by omega)
    have e2 : nI (x * 19) + nI s = nI (x * 19 + s) := nI_add _ _
    obtain ⟨a3, b3⟩ := fw_rg h.1 (by decide) (y * 19 + (s - p))
    obtain ⟨a4, b4⟩ := fw_rg h.1 (by decide) (x * 19 + s)
    refine br_f (nI_ge (a := s) (b := 19) (by omega) (by decide)) ⟨by rw [e1]; exact vp_in_nI (by omega) (by decide), vp_in_nI hl (by decide), ?_⟩
    refine nm_r (e' := nI (fw_nv D (y * 19 + (s - p)) + q)) (by rw [e1, nI_clamp (by omega), nI_clamp (by omega), b3, eq, nI_add]) ⟨by rw [e2]; exact vp_in_nI (by omega) (by decide), ?_⟩
    rw [e2, nI_clamp (by omega)]
    refine pk_le (fw_nv D (x * 19 + s)) (fw_nv D (y * 19 + (s - p)) + q) (fun hk => nm_r (nI_1 s) (ih (s + 1) D (by omega) (by omega) (fw_StK hps h hk))) (fun hk => ⟨vp_in_nI (by omega) (by decide), nm_e (nm_r (nI_1 s) (ih (s + 1) _ (by omega) (by omega) (fw_StU hx hy (by omega) hps hG h hk)))⟩) b4 rfl (by omega) (by omega)
theorem fw_sb {L T : Nat} {F To P Q TP TA TB : Nat → Int32} {ft D0 : Nat → Int32} {G : Nat → Nat → Nat → Prop} {l : Nat} {post : SX → Prop} (hO : fw_Ok L T F To P Q TP TA TB) (hl : l < L) (h0 : fw_Rg D0 1001) (hs : fw_So G D0) (hG : ∀ s r, G (fw_nv To l) s r → G (fw_nv F l) (fw_nv P l + s) (fw_nv Q l + r)) (hpost : ∀ D, fw_St G D0 D (fw_nv F l) (fw_nv To l) (fw_nv P l) (fw_nv Q l) 19 → post (nI L, nI T, F, To, P, Q, TP, TA, TB, D, ft)) :
    wpX_setBeforeWays post (nI L, nI T, F, To, P, Q, TP, TA, TB, D0, ft) (nI l) := by
  obtain ⟨hL, hT, hF, hTo, hP, hQ, _⟩ := hO
  obtain ⟨aF, bF⟩ := fw_rg hF (by decide) l
  obtain ⟨aTo, bTo⟩ := fw_rg hTo (by decide) l
  obtain ⟨aP, bP⟩ := fw_rg hP (by decide) l
  obtain ⟨aQ, bQ⟩ := fw_rg hQ (by decide) l
  have hi : vp_in (nI l) 12 := vp_in_nI (by omega) (by decide)
  have hc : (nI l).toNatClampNeg = l := nI_clamp (by omega)
  refine ⟨hi, nm_r (e' := nI (fw_nv F l * 19)) (by rw [hc, bF]; exact pk_mul _ 19) ⟨hi, nm_r (e' := nI (fw_nv To l * 19)) (by rw [hc, bTo]; exact pk_mul _ 19) ⟨hi, nm_r (e' := nI (fw_nv P l)) (by rw [hc, bP]) ⟨19 - fw_nv P l + 1, ?_⟩⟩⟩⟩
  exact fw_sbl (by omega) aF aTo (by omega) bQ hG hpost _ _ _ (by omega) (Nat.le_refl _) ⟨h0, fun i => Nat.le_refl _, hs, fun s' h => absurd h (by omega)⟩
def fw_Rd (G : Nat → Nat → Nat → Prop) (D0 D F To P Q : Nat → Int32) (j : Nat) : Prop :=
  fw_Rg D 1001 ∧ (∀ i, fw_nv D i ≤ fw_nv D0 i) ∧ fw_So G D ∧ ∀ l, l < j → ∀ s', fw_nv P l + s' < 19 → fw_nv D (fw_nv F l * 19 + (fw_nv P l + s')) ≤ fw_nv D0 (fw_nv To l * 19 + s') + fw_nv Q l
theorem fw_f44 {L T : Nat} {F To P Q TP TA TB : Nat → Int32} {ft D0 : Nat → Int32} {G : Nat → Nat → Nat → Prop} {k : Nat} {post : SX → Prop} {J : Int32 → Int32 → Int32 → (Nat → Int32) → (Nat → Int32) → (Nat → Int32) → (Nat → Int32) → (Nat → Int32) → (Nat → Int32) → (Nat → Int32) → (Nat → Int32) → (Nat → Int32) → Prop} (hO : fw_Ok L T F To P Q TP TA TB) (hG : ∀ l s r, l < L → G (fw_nv To l) s r → G (fw_nv F l) (fw_nv P l + s) (fw_nv Q l + r)) (hJ : ∀ D, fw_Rd G D0 D F To P Q L → J (nI (k + 1)) (nI L) (nI T) F To P Q TP TA TB D ft) :
    ∀ m j D, j + m = L → fw_Rd G D0 D F To P Q j → wX_findWaysTo_44 post J (nI k) (m + 1) (nI j) (nI L) (nI T) F To P Q TP TA TB D ft := by
  have hL := hO.1
  intro m
  induction m with
  | zero =>
    intro j D hj h
    have : j = L := by omega
    subst this
    exact br_t (nI_le (Nat.le_refl j) (by omega)) (nm_r (nI_1 k) (hJ D h))
  | succ m ih =>
    intro j D hj h
    refine br_f (nI_ge (a := j) (b := L) (by omega) (by omega)) (fw_sb (G := G) hO (by omega) h.1 h.2.2.1 (fun s r => hG j s r (by omega)) (fun D' hD' => nm_r (nI_1 j) (ih (j + 1) D' (by omega) ⟨hD'.1, fun i => Nat.le_trans (hD'.2.1 i) (h.2.1 i), hD'.2.2.1, fun l hl s' hs' => ?_⟩)))
    by_cases e : l = j
    · subst e
      have h1 := hD'.2.2.2 s' hs'
      have h2 := h.2.1 (fw_nv To l * 19 + s')
      omega
    · have h1 := h.2.2.2 l (by omega) s' hs'
      have h2 := hD'.2.1 (fw_nv F l * 19 + (fw_nv P l + s'))
      omega
def fw_Cm (L : Nat) (F To P Q : Nat → Int32) (to k : Nat) (D : Nat → Int32) : Prop := ∀ n x s r, n ≤ k → x < 7 → fw_W L (fw_nv F) (fw_nv To) (fw_nv P) (fw_nv Q) n x to s r → fw_nv D (x * 19 + s) ≤ r
def fw_Gd (L : Nat) (F To P Q : Nat → Int32) (to : Nat) : Nat → Nat → Nat → Prop := fun z s r => ∃ n, fw_W L (fw_nv F) (fw_nv To) (fw_nv P) (fw_nv Q) n z to s r
theorem fw_f36 {L T : Nat} {F To P Q TP TA TB : Nat → Int32} {ft : Nat → Int32} {to : Nat} {post : SX → Prop} (hO : fw_Ok L T F To P Q TP TA TB) (hpost : ∀ D, fw_Rg D 1001 → fw_Good L (fw_nv F) (fw_nv To) (fw_nv P) (fw_nv Q) to (fw_nv D) → post (nI L, nI T, F, To, P, Q, TP, TA, TB, D, ft)) :
    ∀ m k D, k + m = 6 → fw_Rg D 1001 → fw_So (fw_Gd L F To P Q to) D → fw_Cm L F To P Q to k D → wX_findWaysTo_36 post (m + 1) (nI k) (nI L) (nI T) F To P Q TP TA TB D ft := by
  have hP : ∀ i, fw_nv P i ≤ 3 := fun i => Nat.le_of_lt_succ (fw_rg hO.2.2.2.2.1 (by decide) i).1
  have hQ : ∀ i, fw_nv Q i ≤ 3 := fun i => Nat.le_of_lt_succ (fw_rg hO.2.2.2.2.2.1 (by decide) i).1
  have hTo : ∀ i, fw_nv To i < 7 := fun i => (fw_rg hO.2.2.2.1 (by decide) i).1
  intro m
  induction m with
  | zero =>
    intro k D hk h1 h2 h3
    have : k = 6 := by omega
    subst this
    exact br_t (nI_le (Nat.le_refl 6) (by decide)) (hpost D h1 ⟨h2, h3⟩)
  | succ m ih =>
    intro k D hk h1 h2 h3
    refine br_f (nI_ge (a := k) (b := 6) (by omega) (by decide)) ⟨L + 1, fw_f44 (G := fw_Gd L F To P Q to) (D0 := D) hO (fun l s r hl ⟨n, h⟩ => ⟨n + 1, l, hl, rfl, s, r, h, rfl, rfl⟩) (fun D' hD' => ih (k + 1) D' (by omega) hD'.1 hD'.2.2.1 (fun n x s r hn hx hW => ?_)) L 0 D (by omega) ⟨h1, fun i => Nat.le_refl _, h2, fun l hl => absurd hl (Nat.not_lt_zero l)⟩⟩
    cases n with
    | zero => exact Nat.le_trans (hD'.2.1 _) (h3 0 x s r (Nat.zero_le k) hx hW)
    | succ n =>
      have hb := fw_bnd hP hQ _ _ _ _ _ hW
      obtain ⟨l, g1, g2, s', r', g3, g4, g5⟩ := hW
      have g6 := hD'.2.2.2 l g1 s' (by omega)
      have g7 := h3 n _ s' r' (by omega) (hTo l) g3
      rw [g2] at g6
      rw [g4, g5]
      omega
theorem fw_f2 {L T : Nat} {F To P Q TP TA TB : Nat → Int32} {ft : Nat → Int32} {to : Nat} {post : SX → Prop} (hO : fw_Ok L T F To P Q TP TA TB) (hto : to < 7) (hpost : ∀ D, fw_Rg D 1001 → fw_Good L (fw_nv F) (fw_nv To) (fw_nv P) (fw_nv Q) to (fw_nv D) → post (nI L, nI T, F, To, P, Q, TP, TA, TB, D, ft)) :
    ∀ m j D, j + m = 133 → fw_Rg D 1001 → (∀ i, i < j → fw_nv D i = 1000) → wX_findWaysTo_2 post (nI to) (nI L) (nI T) (m + 1) (nI j) F To P Q TP TA TB D ft := by
  intro m
  induction m with
  | zero =>
    intro j D hj h1 h2
    have : j = 133 := by omega
    subst this
    have e : nI to * 19 = nI (to * 19) := pk_mul to 19
    refine br_t (nI_le (Nat.le_refl 133) (by decide)) ⟨by rw [e]; exact vp_in_nI (by omega) (by decide), nm_r (e' := upd D (to * 19) 0) (by rw [e, nI_clamp (by omega)]) ⟨7, ?_⟩⟩
    refine fw_f36 hO hpost 6 0 _ rfl (fw_rgU h1 (n := 0) (by decide) rfl) (fun z s hz hs hlt => ?_) (fun n x s r hn hx hW => ?_)
    · by_cases c : z * 19 + s = to * 19
      · have c1 : z = to := by omega
        have c2 : s = 0 := by omega
        subst c1 c2
        refine ⟨0, rfl, rfl, ?_⟩
        exact fw_nvS (n := 0) rfl (by decide)
      · rw [fw_nvN c, h2 _ (by omega)] at hlt
        exact absurd hlt (by decide)
    · have : n = 0 := by omega
      subst this
      obtain ⟨rfl, rfl, rfl⟩ := hW
      exact Nat.le_of_eq (fw_nvS (n := 0) rfl (by decide))
  | succ m ih =>
    intro j D hj h1 h2
    refine br_f (nI_ge (a := j) (b := 133) (by omega) (by decide)) ⟨vp_in_nI (by omega) (by decide), nm_r (e' := upd D j 1000) (by rw [nI_clamp (by omega)]) (nm_r (nI_1 j) (ih (j + 1) _ (by omega) (fw_rgU h1 (n := 1000) (by decide) rfl) (fun i hi => ?_)))⟩
    by_cases c : i = j
    · subst c
      exact fw_nvS (n := 1000) rfl (by decide)
    · rw [fw_nvN c]
      exact h2 i (by omega)
theorem fw_find {L T : Nat} {F To P Q TP TA TB : Nat → Int32} {ft lq : Nat → Int32} {to : Nat} {post : SX → Prop} (hO : fw_Ok L T F To P Q TP TA TB) (hlq : fw_Rg lq 1001) (hto : to < 7) (hpost : ∀ D, fw_Rg D 1001 → fw_Good L (fw_nv F) (fw_nv To) (fw_nv P) (fw_nv Q) to (fw_nv D) → post (nI L, nI T, F, To, P, Q, TP, TA, TB, D, ft)) : wpX_findWaysTo post (nI L, nI T, F, To, P, Q, TP, TA, TB, lq, ft) (nI to) :=
  ⟨134, fw_f2 hO hto hpost 133 0 lq rfl hlq (fun i hi => absurd hi (Nat.not_lt_zero i))⟩
end FWC
end
section
section FWD
/-! F: X's least times -/
theorem fw_ebl {L T : Nat} {F To P Q TP TA TB : Nat → Int32} {D ft : Nat → Int32} {post : Int32 → Prop} {i x room : Nat} (hi : i < 20) (hx : x < 7) (hr : room ≤ 15) (hD : fw_Rg D 1001) (hB : fw_Rg TB 16) (hpost : post (nI (fw_mn 1000 (fun s => fw_nv TB i + fw_nv D (x * 19 + s)) (room + 1)))) :
    ∀ k s, s + k = room + 1 → wX_earliestBOfToken_28 post (nI i) (nI (x * 19)) (nI room) (nI L) (nI T) F To P Q TP TA TB D ft (k + 1) (nI (fw_mn 1000 (fun s => fw_nv TB i + fw_nv D (x * 19 + s)) s)) (nI s) := by
  intro k
  induction k with
  | zero =>
    intro s hs
    have : s = room + 1 := by omega
    subst this
    exact br_t (nI_lt (by omega) (by omega)) hpost
  | succ k ih =>
    intro s hs
    obtain ⟨a3, b3⟩ := fw_rg hD (by decide) (x * 19 + s)
    obtain ⟨a4, b4⟩ := fw_rg hB (by decide) i
    have e2 : nI (x * 19) + nI s = nI (x * 19 + s) := nI_add _ _
    have hm := fw_mn_C (C := 1000) (g := fun s => fw_nv TB i + fw_nv D (x * 19 + s)) s
    refine br_f (nI_nlt (by omega) (by omega)) ⟨vp_in_nI hi (by decide), by rw [e2]; exact vp_in_nI (by omega) (by decide), nm_r (e' := nI (fw_nv TB i + fw_nv D (x * 19 + s))) (by rw [e2, nI_clamp (by omega), nI_clamp (by omega), b3, b4, nI_add]) ?_⟩
    have h := ih (s + 1) (by omega)
    refine pk_le _ (fw_nv TB i + fw_nv D (x * 19 + s)) (fun hk => nm_r (nI_1 s) ?_) (fun hk => nm_r (nI_1 s) ?_) rfl rfl (by omega) (by omega)
    · have e : fw_mn 1000 (fun s => fw_nv TB i + fw_nv D (x * 19 + s)) (s + 1) = fw_mn 1000 (fun s => fw_nv TB i + fw_nv D (x * 19 + s)) s := if_neg (Nat.not_lt.mpr hk)
      rw [e] at h
      exact h
    · have e : fw_mn 1000 (fun s => fw_nv TB i + fw_nv D (x * 19 + s)) (s + 1) = fw_nv TB i + fw_nv D (x * 19 + s) := if_pos hk
      rw [e] at h
      exact h
theorem fw_ebt {L T : Nat} {F To P Q TP TA TB : Nat → Int32} {D ft : Nat → Int32} {post : Int32 → Prop} {i a : Nat} (hO : fw_Ok L T F To P Q TP TA TB) (hD : fw_Rg D 1001) (hi : i < 20) (ha : a < 16) (hpost : post (nI (fw_eT (fw_nv D) (fw_nv TP) (fw_nv TA) (fw_nv TB) i a))) : wpX_earliestBOfToken post (nI L, nI T, F, To, P, Q, TP, TA, TB, D, ft) (nI i) (nI a) := by
  obtain ⟨hL, hT, hF, hTo, hP, hQ, hTP, hTA, hTB⟩ := hO
  obtain ⟨a1, b1⟩ := fw_rg hTP (by decide) i
  obtain ⟨a2, b2⟩ := fw_rg hTA (by decide) i
  have hv : vp_in (nI i) 20 := vp_in_nI hi (by decide)
  have hc : (nI i).toNatClampNeg = i := nI_clamp (by omega)
  unfold fw_eT at hpost
  refine ⟨hv, nm_r (e' := nI (fw_nv TP i * 19)) (by rw [hc, b1]; exact pk_mul _ 19) ⟨hv, ?_⟩⟩
  by_cases c : a < fw_nv TA i
  · have e : a + 1 - fw_nv TA i = 0 := by omega
    rw [e] at hpost
    refine nm_r (e' := nI a - nI (fw_nv TA i)) (by rw [hc, b2]) ⟨1, br_t (pk_sneg (by omega) c) hpost⟩
  · have e : a + 1 - fw_nv TA i = a - fw_nv TA i + 1 := by omega
    rw [e] at hpost
    exact nm_r (e' := nI (a - fw_nv TA i)) (by rw [hc, b2, pk_sub (by omega)]) ⟨a - fw_nv TA i + 1 + 1, fw_ebl hi a1 (by omega) hD hTB hpost _ 0 (by omega)⟩
theorem fw_ebb {L T : Nat} {F To P Q TP TA TB : Nat → Int32} {D ft : Nat → Int32} {post : Int32 → Prop} {a : Nat} (hO : fw_Ok L T F To P Q TP TA TB) (hD : fw_Rg D 1001) (ha : a < 16) (hpost : post (nI (fw_eB (fw_nv D) (fw_nv TP) (fw_nv TA) (fw_nv TB) T a))) :
    ∀ k j, j + k = T → wX_earliestB_6 post (nI a) (nI L) (nI T) F To P Q TP TA TB D ft (k + 1) (nI (fw_eB (fw_nv D) (fw_nv TP) (fw_nv TA) (fw_nv TB) j a)) (nI j) := by
  have hT := hO.2.1
  intro k
  induction k with
  | zero =>
    intro j hj
    have : j = T := by omega
    subst this
    exact br_t (nI_le (Nat.le_refl _) (by omega)) hpost
  | succ k ih =>
    intro j hj
    have h := ih (j + 1) (by omega)
    have hm : fw_eB (fw_nv D) (fw_nv TP) (fw_nv TA) (fw_nv TB) j a ≤ 1000 := fw_mn_C _
    have hm2 : fw_eT (fw_nv D) (fw_nv TP) (fw_nv TA) (fw_nv TB) j a ≤ 1000 := fw_mn_C _
    refine br_f (nI_ge (by omega) (by omega)) (fw_ebt hO hD (by omega) ha ?_)
    refine pk_le (fw_eB (fw_nv D) (fw_nv TP) (fw_nv TA) (fw_nv TB) j a) (fw_eT (fw_nv D) (fw_nv TP) (fw_nv TA) (fw_nv TB) j a) (fun hk => nm_r (nI_1 j) ?_) (fun hk => nm_r (nI_1 j) ?_) rfl rfl (by omega) (by omega)
    · have e : fw_eB (fw_nv D) (fw_nv TP) (fw_nv TA) (fw_nv TB) (j + 1) a = fw_eB (fw_nv D) (fw_nv TP) (fw_nv TA) (fw_nv TB) j a := if_neg (Nat.not_lt.mpr hk)
      rw [e] at h
      exact h
    · have e : fw_eB (fw_nv D) (fw_nv TP) (fw_nv TA) (fw_nv TB) (j + 1) a = fw_eT (fw_nv D) (fw_nv TP) (fw_nv TA) (fw_nv TB) j a := if_pos hk
      rw [e] at h
      exact h
theorem fw_eb {L T : Nat} {F To P Q TP TA TB : Nat → Int32} {D ft : Nat → Int32} {post : Int32 → Prop} {a : Nat} (hO : fw_Ok L T F To P Q TP TA TB) (hD : fw_Rg D 1001) (ha : a < 16) (hpost : post (nI (fw_eB (fw_nv D) (fw_nv TP) (fw_nv TA) (fw_nv TB) T a))) : wpX_earliestB post (nI L, nI T, F, To, P, Q, TP, TA, TB, D, ft) (nI a) :=
  ⟨T + 1, fw_ebb hO hD ha hpost T 0 (by omega)⟩
/-! G: places, times, additions, tokens -/
theorem fw_plX {post : Int32 → Prop} {j : Nat} (hj : j < 7) (h : post 1) : wpX_isPlace post (nI j) := br_f (nI_pos (by omega)) (br_f (nI_ge (b := 7) hj (by decide)) h)
theorem fw_plY {post : Int32 → Prop} {j : Nat} (hj : j < 7) (h : post 0) : wpY_badPlace post (nI j) := br_f (nI_pos (by omega)) (br_t (nI_le (b := 6) (by omega) (by decide)) h)
theorem fw_pl (v : Int32) : (∃ j, j < 7 ∧ v = nI j) ∨ ((∀ post : Int32 → Prop, post 0 → wpX_isPlace post v) ∧ (∀ post : Int32 → Prop, post 1 → wpY_badPlace post v) ∧ ∀ j, j < 7 → ¬ nI j = v) := by
  rcases pk_ix v (n := 7) (by decide) with h | h | h
  · exact Or.inr ⟨fun _ hp => br_t h hp, fun _ hp => br_t h hp, fun j hj e => by rw [← e] at h; exact nI_pos (by omega) h⟩
  · have h0 : ¬ v < 0 := Int32.not_lt.mpr (Int32.le_trans (by decide) h)
    have h6 : ¬ v ≤ 6 := Int32.not_le.mpr (Int32.lt_of_lt_of_le (by decide) h)
    exact Or.inr ⟨fun _ hp => br_f h0 (br_t h hp), fun _ hp => br_f h0 (br_f h6 hp), fun j hj e => by rw [← e] at h; exact nI_ge hj (by decide) h⟩
  · exact Or.inl h
theorem fw_tmX {post : Int32 → Prop} {i j : Nat} (hi : i < 16) (hj : j < 16) (h : post 1) : wpX_isTime post (nI i) (nI j) := br_f (nI_pos (by omega)) (br_f (nI_nlt (a := 15) (by omega) (by decide)) (br_f (nI_pos (by omega)) (br_f (nI_nlt (a := 15) (by omega) (by decide)) h)))
theorem fw_tmY {post : Int32 → Prop} {i j : Nat} (hi : i < 16) (hj : j < 16) (h : post 0) : wpY_badTime post (nI i) (nI j) := br_f (nI_pos (by omega)) (br_f (nI_nlt (a := 15) (by omega) (by decide)) (br_f (nI_pos (by omega)) (br_t (nI_le (b := 15) (by omega) (by decide)) h)))
theorem fw_r15 (v : Int32) : (∃ j, j < 16 ∧ v = nI j) ∨ (v < 0 ∧ ∀ j, j < 16 → ¬ nI j = v) ∨ (¬ v < 0 ∧ 15 < v ∧ ¬ v ≤ 15 ∧ ∀ j, j < 16 → ¬ nI j = v) := by
  rcases pk_ix v (n := 16) (by decide) with h | h | h
  · exact Or.inr (Or.inl ⟨h, fun j hj e => by rw [← e] at h; exact nI_pos (by omega) h⟩)
  · have h0 : ¬ v < 0 := Int32.not_lt.mpr (Int32.le_trans (by decide) h)
    have h6 : 15 < v := Int32.lt_of_lt_of_le (by decide) h
    exact Or.inr (Or.inr ⟨h0, h6, Int32.not_le.mpr h6, fun j hj e => by rw [← e] at h; exact nI_ge hj (by decide) h⟩)
  · exact Or.inl h
theorem fw_tm (a b : Int32) : (∃ i j, i < 16 ∧ j < 16 ∧ a = nI i ∧ b = nI j) ∨ ((∀ post : Int32 → Prop, post 0 → wpX_isTime post a b) ∧ (∀ post : Int32 → Prop, post 1 → wpY_badTime post a b) ∧ ∀ i j, i < 16 → j < 16 → ¬ (nI i = a ∧ nI j = b)) := by
  rcases fw_r15 a with ⟨i, hi, rfl⟩ | ⟨h, hn⟩ | ⟨h0, h1, h2, hn⟩
  · have g0 : ¬ nI i < 0 := nI_pos (by omega)
    have g1 : ¬ 15 < nI i := nI_nlt (a := 15) (by omega) (by decide)
    rcases fw_r15 b with ⟨j, hj, rfl⟩ | ⟨h, hn⟩ | ⟨h0, h1, h2, hn⟩
    · exact Or.inl ⟨i, j, hi, hj, rfl, rfl⟩
    · exact Or.inr ⟨fun _ hp => br_f g0 (br_f g1 (br_t h hp)), fun _ hp => br_f g0 (br_f g1 (br_t h hp)), fun i j _ hj e => hn j hj e.2⟩
    · exact Or.inr ⟨fun _ hp => br_f g0 (br_f g1 (br_f h0 (br_t h1 hp))), fun _ hp => br_f g0 (br_f g1 (br_f h0 (br_f h2 hp))), fun i j _ hj e => hn j hj e.2⟩
  · exact Or.inr ⟨fun _ hp => br_t h hp, fun _ hp => br_t h hp, fun i j hi _ e => hn i hi e.1⟩
  · exact Or.inr ⟨fun _ hp => br_f h0 (br_t h1 hp), fun _ hp => br_f h0 (br_t h1 hp), fun i j hi _ e => hn i hi e.1⟩
theorem fw_r3 (v : Int32) : (∃ j, j < 4 ∧ v = nI j ∧ ¬ v < 0 ∧ ¬ 3 < v) ∨ v < 0 ∨ (¬ v < 0 ∧ 3 < v) := by
  rcases pk_ix v (n := 4) (by decide) with h | h | ⟨j, hj, rfl⟩
  · exact Or.inr (Or.inl h)
  · exact Or.inr (Or.inr ⟨Int32.not_lt.mpr (Int32.le_trans (by decide) h), Int32.lt_of_lt_of_le (by decide) h⟩)
  · exact Or.inl ⟨j, hj, rfl, nI_pos (by omega), nI_nlt (a := 3) (by omega) (by decide)⟩
theorem fw_atT {L T : Nat} {F To P Q TP TA TB : Nat → Int32} {D ft : Nat → Int32} {post : Int32 → Prop} {j : Nat} {v1 v2 v3 : Int32} (hj : j < 20) (hm : TP j = v1 ∧ TA j = v2 ∧ TB j = v3) (h : post 1) : wpX_isTokenAt post (nI L, nI T, F, To, P, Q, TP, TA, TB, D, ft) (nI j) v1 v2 v3 := by
  have hv : vp_in (nI j) 20 := vp_in_nI hj (by decide)
  have hc : (nI j).toNatClampNeg = j := nI_clamp (by omega)
  exact ⟨hv, br_t (by rw [hc]; exact hm.1) ⟨hv, br_t (by rw [hc]; exact hm.2.1) ⟨hv, br_t (by rw [hc]; exact hm.2.2) h⟩⟩⟩
theorem fw_atF {L T : Nat} {F To P Q TP TA TB : Nat → Int32} {D ft : Nat → Int32} {post : Int32 → Prop} {j : Nat} {v1 v2 v3 : Int32} (hj : j < 20) (hm : ¬ (TP j = v1 ∧ TA j = v2 ∧ TB j = v3)) (h : post 0) : wpX_isTokenAt post (nI L, nI T, F, To, P, Q, TP, TA, TB, D, ft) (nI j) v1 v2 v3 := by
  have hv : vp_in (nI j) 20 := vp_in_nI hj (by decide)
  have hc : (nI j).toNatClampNeg = j := nI_clamp (by omega)
  refine ⟨hv, ?_⟩
  rw [hc]
  refine br_c (fun h1 => ⟨hv, br_c (fun h2 => ⟨hv, br_c (fun h3 => absurd ⟨h1, h2, h3⟩ hm) (fun _ => h)⟩) (fun _ => h)⟩) (fun _ => h)
theorem fw_fnl {L T : Nat} {F To P Q TP TA TB : Nat → Int32} {D ft th : Nat → Int32} (v1 v2 v3 : Int32) (hT : T ≤ 20) : ∀ k j, j + k = T → ∃ r : Int32,
    (∀ post : Int32 → Prop, post r → wX_findToken_3 post v1 v2 v3 (nI L) (nI T) F To P Q TP TA TB D ft (k + 1) (nI j)) ∧ (∀ post : Int32 → Prop, post r → wY_find_3 post v1 v2 v3 (nI L) (nI T) F To P Q TP TA TB th (k + 1) (nI j)) ∧
    ((r = -1 ∧ ∀ i, j ≤ i → i < T → ¬ (TP i = v1 ∧ TA i = v2 ∧ TB i = v3)) ∨ ∃ i, i < T ∧ r = nI i ∧ TP i = v1 ∧ TA i = v2 ∧ TB i = v3) := by
  intro k
  induction k with
  | zero =>
    intro j hj
    have : j = T := by omega
    subst this
    have h : nI j ≤ nI j := nI_le (Nat.le_refl _) (by omega)
    exact ⟨-1, fun _ hp => br_t h hp, fun _ hp => br_t h hp, Or.inl ⟨rfl, fun i h1 h2 => absurd h2 (by omega)⟩⟩
  | succ k ih =>
    intro j hj
    have h : ¬ nI T ≤ nI j := nI_ge (by omega) (by omega)
    have hv : vp_in (nI j) 20 := vp_in_nI (by omega) (by decide)
    have hc : (nI j).toNatClampNeg = j := nI_clamp (by omega)
    by_cases hm : TP j = v1 ∧ TA j = v2 ∧ TB j = v3
    · refine ⟨nI j, fun _ hp => br_f h (fw_atT (by omega) hm (br_f fw_10 hp)), fun _ hp => br_f h ⟨hv, br_t (by rw [hc]; exact hm.1) ⟨hv, br_t (by rw [hc]; exact hm.2.1) ⟨hv, br_t (by rw [hc]; exact hm.2.2) hp⟩⟩⟩, Or.inr ⟨j, by omega, rfl, hm⟩⟩
    · obtain ⟨r, hX, hY, hr⟩ := ih (j + 1) (by omega)
      refine ⟨r, fun _ hp => br_f h (fw_atF (by omega) hm (br_t rfl (nm_r (nI_1 j) (hX _ hp)))), fun post hp => br_f h ⟨hv, ?_⟩, ?_⟩
      · have hk : ∀ x, x = nI j + 1 → wY_find_3 post v1 v2 v3 (nI L) (nI T) F To P Q TP TA TB th (k + 1) x := nm_r (nI_1 j) (hY _ hp)
        rw [hc]
        exact br_c (fun h1 => ⟨hv, br_c (fun h2 => ⟨hv, br_c (fun h3 => absurd ⟨h1, h2, h3⟩ hm) (fun _ => hk)⟩) (fun _ => hk)⟩) (fun _ => hk)
      · rcases hr with ⟨e, hr⟩ | hr
        · refine Or.inl ⟨e, fun i h1 h2 => ?_⟩
          by_cases c : i = j
          · subst c; exact hm
          · exact hr i (by omega) h2
        · exact Or.inr hr
theorem fw_fn {L T : Nat} {F To P Q TP TA TB : Nat → Int32} {D ft th : Nat → Int32} (v1 v2 v3 : Int32) (hT : T ≤ 20) : ∃ r : Int32,
    (∀ post : Int32 → Prop, post r → wpX_findToken post (nI L, nI T, F, To, P, Q, TP, TA, TB, D, ft) v1 v2 v3) ∧ (∀ post : Int32 → Prop, post r → wpY_find post (nI L, nI T, F, To, P, Q, TP, TA, TB, th) v1 v2 v3) ∧
    ((r = -1 ∧ ∀ i, i < T → ¬ (TP i = v1 ∧ TA i = v2 ∧ TB i = v3)) ∨ ∃ i, i < T ∧ r = nI i ∧ TP i = v1 ∧ TA i = v2 ∧ TB i = v3) := by
  obtain ⟨r, hX, hY, hr⟩ := fw_fnl (L := L) (F := F) (To := To) (P := P) (Q := Q) (TP := TP) (TA := TA) (TB := TB) (D := D) (ft := ft) (th := th) v1 v2 v3 hT T 0 (by omega)
  refine ⟨r, fun post hp => ⟨T + 1, hX post hp⟩, fun post hp => ⟨T + 1, hY post hp⟩, ?_⟩
  rcases hr with ⟨e, hr⟩ | hr
  · exact Or.inl ⟨e, fun i h => hr i (Nat.zero_le i) h⟩
  · exact Or.inr hr
theorem fw_setT {L T : Nat} {F To P Q TP TA TB : Nat → Int32} {lq ft : Nat → Int32} {post : SX → Prop} {i : Nat} {a b c : Int32} (hi : i < 20) (h : post (nI L, nI T, F, To, P, Q, upd TP i a, upd TA i b, upd TB i c, lq, ft)) : wpX_setToken post (nI L, nI T, F, To, P, Q, TP, TA, TB, lq, ft) (nI i) a b c := by
  have hv : vp_in (nI i) 20 := vp_in_nI hi (by decide)
  have hc : (nI i).toNatClampNeg = i := nI_clamp (by omega)
  exact ⟨hv, nm_r (by rw [hc]) ⟨hv, nm_r (by rw [hc]) ⟨hv, nm_r (by rw [hc]) h⟩⟩⟩
end FWD
end
section
section FWE
/-! H: Y's set of what is reached -/
theorem fw_ix (x a b : Nat) : 361 * nI x + 19 * nI a + nI b = nI (361 * x + 19 * a + b) := by
  show nI 361 * nI x + nI 19 * nI a + nI b = _
  rw [pk_mul, pk_mul, nI_add, nI_add]
theorem fw_emp {L T : Nat} {F To P Q TP TA TB : Nat → Int32} {post : SY → Prop} (hpost : ∀ th : Nat → Int32, (∀ i, i < 2527 → th i = 0) → post (nI L, nI T, F, To, P, Q, TP, TA, TB, th)) :
    ∀ m j th, j + m = 2527 → (∀ i, i < j → th i = 0) → wY_empty_2 post (nI L) (nI T) (m + 1) (nI j) F To P Q TP TA TB th := by
  intro m
  induction m with
  | zero =>
    intro j th hj h
    have : j = 2527 := by omega
    subst this
    exact br_t (nI_le (Nat.le_refl 2527) (by decide)) (hpost th h)
  | succ m ih =>
    intro j th hj h
    refine br_f (nI_ge (b := 2527) (by omega) (by decide)) ⟨vp_in_nI (by omega) (by decide), nm_r (e' := upd th j 0) (by rw [nI_clamp (by omega), fw_b0]) (nm_r (nI_1 j) (ih (j + 1) _ (by omega) (fun i hi => ?_)))⟩
    by_cases c : i = j
    · subst c; exact pk_us
    · rw [pk_un c]; exact h i (by omega)
theorem fw_empty {L T : Nat} {F To P Q TP TA TB : Nat → Int32} {th : Nat → Int32} {post : SY → Prop} (hpost : ∀ th : Nat → Int32, (∀ i, i < 2527 → th i = 0) → post (nI L, nI T, F, To, P, Q, TP, TA, TB, th)) : wpY_empty post (nI L, nI T, F, To, P, Q, TP, TA, TB, th) :=
  ⟨2528, fw_emp hpost 2527 0 th rfl (fun i hi => absurd hi (Nat.not_lt_zero i))⟩
theorem fw_set {L T : Nat} {F To P Q TP TA TB : Nat → Int32} {th : Nat → Int32} {post : SY → Prop} {x a b : Nat} (hx : x < 7) (ha : a < 19) (hb : b < 19) (hpost : post (nI L, nI T, F, To, P, Q, TP, TA, TB, upd th (361 * x + 19 * a + b) 1)) : wpY_set post (nI L, nI T, F, To, P, Q, TP, TA, TB, th) (nI x) (nI a) (nI b) := by
  have e := fw_ix x a b
  exact ⟨by rw [e]; exact vp_in_nI (by omega) (by decide), nm_r (by rw [e, nI_clamp (by omega), fw_b1]) hpost⟩
theorem fw_u1 {th : Nat → Int32} {k j : Nat} : upd th k 1 j = 0 ↔ j ≠ k ∧ th j = 0 := by
  by_cases c : j = k
  · subst c
    rw [pk_us]
    exact ⟨fun h => absurd h fw_10, fun h => absurd rfl h.1⟩
  · rw [pk_un c]
    exact ⟨fun h => ⟨c, h⟩, fun h => h.2⟩
def fw_Cl (F To P Q th : Nat → Int32) (l a b : Nat) : Prop :=
  th (361 * fw_nv F l + 19 * a + b) ≠ 0 → a + fw_nv P l < 19 → b + fw_nv Q l < 19 → th (361 * fw_nv To l + 19 * (a + fw_nv P l) + (b + fw_nv Q l)) ≠ 0
def fw_Sub (R : Nat → Nat → Nat → Prop) (th : Nat → Int32) : Prop := ∀ x a b, x < 7 → a < 19 → b < 19 → th (361 * x + 19 * a + b) ≠ 0 → R x a b
def fw_Sp (R : Nat → Nat → Nat → Prop) (L : Nat) (F To P Q th0 th : Nat → Int32) (c : Int32) (i : Nat) : Prop :=
  (∀ j, th j = 0 → th0 j = 0) ∧ fw_Sub R th ∧ ((c = 0 ∧ (∀ j, th0 j = 0 → th j = 0) ∧ ∀ i', i' < i → i' / 361 < L → fw_Cl F To P Q th (i' / 361) (i' / 19 % 19) (i' % 19)) ∨ (c = 1 ∧ ∃ j, j < 2527 ∧ th0 j = 0 ∧ th j ≠ 0))
theorem fw_SpK {R : Nat → Nat → Nat → Prop} {L : Nat} {F To P Q th0 th : Nat → Int32} {c : Int32} {i : Nat} (h : fw_Sp R L F To P Q th0 th c i) (hk : i / 361 < L → fw_Cl F To P Q th (i / 361) (i / 19 % 19) (i % 19)) : fw_Sp R L F To P Q th0 th c (i + 1) := by
  refine ⟨h.1, h.2.1, ?_⟩
  rcases h.2.2 with ⟨h1, h2, h3⟩ | h1
  · refine Or.inl ⟨h1, h2, fun i' hi' hl => ?_⟩
    by_cases e : i' = i
    · subst e; exact hk hl
    · exact h3 i' (by omega) hl
  · exact Or.inr h1
theorem fw_subU {R : Nat → Nat → Nat → Prop} {th : Nat → Int32} {x a b : Nat} (ha : a < 19) (hb : b < 19) (h : fw_Sub R th) (hr : R x a b) : fw_Sub R (upd th (361 * x + 19 * a + b) 1) := by
  intro x' a' b' hx' ha' hb' hne
  by_cases c : 361 * x' + 19 * a' + b' = 361 * x + 19 * a + b
  · have c1 : x' = x := by omega
    have c2 : a' = a := by omega
    have c3 : b' = b := by omega
    subst c1 c2 c3
    exact hr
  · rw [pk_un c] at hne
    exact h x' a' b' hx' ha' hb' hne
theorem fw_Sp1 {R : Nat → Nat → Nat → Prop} {L : Nat} {F To P Q th0 th : Nat → Int32} {c : Int32} {i x a b : Nat} (hx : x < 7) (ha : a < 19) (hb : b < 19) (hr : R x a b) (h : fw_Sp R L F To P Q th0 th c i) (hc : th (361 * x + 19 * a + b) = 0 ∨ c = 1) : fw_Sp R L F To P Q th0 (upd th (361 * x + 19 * a + b) 1) 1 (i + 1) := by
  refine ⟨fun j hj => h.1 j (fw_u1.mp hj).2, fw_subU ha hb h.2.1 hr, Or.inr ⟨rfl, ?_⟩⟩
  by_cases e : th (361 * x + 19 * a + b) = 0
  · exact ⟨_, by omega, h.1 _ e, by rw [pk_us]; exact fw_10⟩
  · rcases h.2.2 with ⟨h1, _⟩ | ⟨_, j, h1, h2, h3⟩
    · rcases hc with hc | hc
      · exact absurd hc e
      · rw [h1] at hc
        exact absurd hc.symm fw_10
    · exact ⟨j, h1, h2, fun z => h3 (fw_u1.mp z).2⟩
theorem fw_Sp0 {R : Nat → Nat → Nat → Prop} {L : Nat} {F To P Q th0 th : Nat → Int32} {i x a b : Nat} (ha : a < 19) (hb : b < 19) (hr : R x a b) (h : fw_Sp R L F To P Q th0 th 0 i) (hne : th (361 * x + 19 * a + b) ≠ 0) (hk : fw_Cl F To P Q th (i / 361) (i / 19 % 19) (i % 19)) : fw_Sp R L F To P Q th0 (upd th (361 * x + 19 * a + b) 1) 0 (i + 1) := by
  have hz : ∀ j, upd th (361 * x + 19 * a + b) 1 j = 0 ↔ th j = 0 := by
    intro j
    rw [fw_u1]
    refine ⟨fun z => z.2, fun z => ⟨fun e => ?_, z⟩⟩
    rw [e] at z
    exact hne z
  have hC : ∀ l a' b', fw_Cl F To P Q th l a' b' → fw_Cl F To P Q (upd th (361 * x + 19 * a + b) 1) l a' b' := by
    intro l a' b' g g1 g2 g3 z
    exact g (fun z' => g1 ((hz _).mpr z')) g2 g3 ((hz _).mp z)
  refine ⟨fun j hj => h.1 j ((hz j).mp hj), fw_subU ha hb h.2.1 hr, Or.inl ⟨rfl, ?_⟩⟩
  rcases h.2.2 with ⟨_, h2, h3⟩ | ⟨h1, _⟩
  · refine ⟨fun j hj => (hz j).mpr (h2 j hj), fun i' hi' hl => hC _ _ _ ?_⟩
    by_cases e : i' = i
    · subst e; exact hk
    · exact h3 i' (by omega) hl
  · exact absurd h1.symm fw_10
theorem fw_s155 {L T : Nat} {F To P Q TP TA TB : Nat → Int32} {th : Nat → Int32} {post : SY → Prop} {J2 : Int32 → (Nat → Int32) → (Nat → Int32) → (Nat → Int32) → (Nat → Int32) → (Nat → Int32) → (Nat → Int32) → (Nat → Int32) → (Nat → Int32) → Prop} {J : Int32 → Int32 → (Nat → Int32) → (Nat → Int32) → (Nat → Int32) → (Nat → Int32) → (Nat → Int32) → (Nat → Int32) → (Nat → Int32) → (Nat → Int32) → Prop} {i k : Nat} {z : Int32} (hk : k < 2527) (h : J z (nI (i + 1)) F To P Q TP TA TB (upd th k 1)) : wY_spread_155 post J2 J (nI i) (nI k) z (nI L) (nI T) F To P Q TP TA TB th :=
  ⟨vp_in_nI hk (by decide), nm_r (by rw [nI_clamp (by omega), fw_b1]) (nm_r (nI_1 i) h)⟩
theorem fw_sp10 {L T : Nat} {F To P Q TP TA TB : Nat → Int32} {th0 : Nat → Int32} {R : Nat → Nat → Nat → Prop} {post : SY → Prop} {J2 : Int32 → (Nat → Int32) → (Nat → Int32) → (Nat → Int32) → (Nat → Int32) → (Nat → Int32) → (Nat → Int32) → (Nat → Int32) → (Nat → Int32) → Prop} (hO : fw_Ok L T F To P Q TP TA TB) (hR : ∀ l a b, l < L → R (fw_nv F l) a b → R (fw_nv To l) (a + fw_nv P l) (b + fw_nv Q l)) (hJ : ∀ c th, fw_Sp R L F To P Q th0 th c 4332 → J2 c F To P Q TP TA TB th) :
    ∀ m i c th, i + m = 4332 → fw_Sp R L F To P Q th0 th c i → wY_spread_10 post J2 (nI L) (nI T) (m + 1) c (nI i) F To P Q TP TA TB th := by
  obtain ⟨hL, hT, hF, hTo, hP, hQ, _⟩ := hO
  intro m
  induction m with
  | zero =>
    intro i c th hi h
    have : i = 4332 := by omega
    subst this
    exact br_t (nI_le (Nat.le_refl 4332) (by decide)) (hJ c th h)
  | succ m ih =>
    intro i c th hi h
    have d1 : nI i / 361 = nI (i / 361) := pk_div (d := 361) (by omega) (by decide) (by decide)
    have d2 : nI i / 19 = nI (i / 19) := pk_div (d := 19) (by omega) (by decide) (by decide)
    have d3 : nI (i / 19) - nI (i / 19) / 19 * 19 = nI (i / 19 % 19) := pk_rem (d := 19) (by omega) (by decide) (by decide)
    have d4 : nI i - nI (i / 19) * 19 = nI (i % 19) := by
      have := pk_rem (a := i) (d := 19) (by omega) (by decide) (by decide)
      rw [← this, ← d2]
      rfl
    refine br_f (nI_ge (b := 4332) (by omega) (by decide)) ⟨by decide, nm_r d1 ⟨by decide, by decide, nm_r (e' := nI (i / 19 % 19)) (by rw [d2]; exact d3) ⟨by decide, nm_r (e' := nI (i % 19)) (by rw [d2]; exact d4) ?_⟩⟩⟩
    have hkeep : (i / 361 < L → fw_Cl F To P Q th (i / 361) (i / 19 % 19) (i % 19)) → ∀ x, x = nI i + 1 → wY_spread_10 post J2 (nI L) (nI T) (m + 1) c x F To P Q TP TA TB th := fun hk => nm_r (nI_1 i) (ih (i + 1) c th (by omega) (fw_SpK h hk))
    have h1 := fun (x a b : Nat) (hx : x < 7) (ha : a < 19) (hb : b < 19) (hr : R x a b) (hc : th (361 * x + 19 * a + b) = 0 ∨ c = 1) => ih (i + 1) 1 _ (by omega) (fw_Sp1 hx ha hb hr h hc)
    have h0 := fun (x a b : Nat) (ha : a < 19) (hb : b < 19) (hr : R x a b) (h : fw_Sp R L F To P Q th0 th 0 i) (hne : th (361 * x + 19 * a + b) ≠ 0) (hk : fw_Cl F To P Q th (i / 361) (i / 19 % 19) (i % 19)) => ih (i + 1) 0 _ (by omega) (fw_Sp0 ha hb hr h hne hk)
    have ga : i / 19 % 19 < 19 := Nat.mod_lt _ (by decide)
    have gb : i % 19 < 19 := Nat.mod_lt _ (by decide)
    have gl : i / 361 < 12 := by omega
    clear ih d1 d2 d3 d4
    generalize i / 361 = l at *
    generalize i / 19 % 19 = a at *
    generalize i % 19 = b at *
    obtain ⟨aF, bF⟩ := fw_rg hF (by decide) l
    obtain ⟨aTo, bTo⟩ := fw_rg hTo (by decide) l
    obtain ⟨aP, bP⟩ := fw_rg hP (by decide) l
    obtain ⟨aQ, bQ⟩ := fw_rg hQ (by decide) l
    have hv : vp_in (nI l) 12 := vp_in_nI gl (by decide)
    refine pk_le L l (fun hk => hkeep (fun z => absurd z (by omega))) (fun hl => ⟨hv, ?_⟩) rfl rfl (by omega) (by omega)
    rw [nI_clamp (by omega), bF, bTo, bP, bQ, fw_ix, nI_clamp (by omega), nI_add, nI_add, fw_ix]
    refine ⟨vp_in_nI (by omega) (by decide), br_c (fun z => hkeep (fun _ g => absurd z g)) (fun hne => ⟨hv, pk_le 19 (a + fw_nv P l) (fun z => hkeep (fun _ _ g => absurd g (by omega))) (fun ha => ⟨hv, pk_le 19 (b + fw_nv Q l) (fun z => hkeep (fun _ _ _ g => absurd g (by omega))) (fun hb => ⟨hv, hv, hv, ?_⟩) rfl rfl (by omega) (by omega)⟩) rfl rfl (by omega) (by omega)⟩)⟩
    have hr := hR l a b hl (h.2.1 _ a b aF ga gb hne)
    refine nm_r (e' := nI (361 * fw_nv To l + 19 * (a + fw_nv P l) + (b + fw_nv Q l))) (by rw [nI_add]; exact congrArg nI (by omega)) (br_c (fun hc => ⟨vp_in_nI (by omega) (by decide), ?_⟩) (fun hc => ?_))
    · rw [nI_clamp (by omega)]
      refine br_c (fun z => fw_s155 (by omega) (h1 _ _ _ aTo ha hb hr (Or.inl z))) (fun z => fw_s155 (by omega) (h0 _ _ _ ha hb hr (by rw [← hc]; exact h) z (fun _ _ _ => z)))
    · have hc1 : c = 1 := by
        rcases h.2.2 with ⟨g, _⟩ | ⟨g, _⟩
        · exact absurd g hc
        · exact g
      exact fw_s155 (by omega) (h1 _ _ _ aTo ha hb hr (Or.inr hc1))
def fw_zc (th : Nat → Int32) : Nat → Nat
  | 0 => 0
  | n + 1 => if th n = 0 then fw_zc th n + 1 else fw_zc th n
theorem fw_zcM {th th0 : Nat → Int32} (h : ∀ j, th j = 0 → th0 j = 0) : ∀ n, fw_zc th n ≤ fw_zc th0 n
  | 0 => Nat.le_refl 0
  | n + 1 => by
    have ih := fw_zcM h n
    show (if th n = 0 then fw_zc th n + 1 else fw_zc th n) ≤ (if th0 n = 0 then fw_zc th0 n + 1 else fw_zc th0 n)
    by_cases c : th n = 0
    · rw [if_pos c, if_pos (h n c)]; omega
    · rw [if_neg c]
      split <;> omega
theorem fw_zcS {th th0 : Nat → Int32} (h : ∀ j, th j = 0 → th0 j = 0) {j : Nat} (h1 : th0 j = 0) (h2 : th j ≠ 0) : ∀ n, j < n → fw_zc th n < fw_zc th0 n
  | 0 => fun h => absurd h (Nat.not_lt_zero j)
  | n + 1 => fun hj => by
    have hm := fw_zcM h n
    show (if th n = 0 then fw_zc th n + 1 else fw_zc th n) < (if th0 n = 0 then fw_zc th0 n + 1 else fw_zc th0 n)
    by_cases c : j = n
    · subst c
      rw [if_neg h2, if_pos h1]
      omega
    · have ih := fw_zcS h h1 h2 n (by omega)
      by_cases c : th n = 0
      · rw [if_pos c, if_pos (h n c)]; omega
      · rw [if_neg c]
        split <;> omega
theorem fw_sp2 {L T : Nat} {F To P Q TP TA TB : Nat → Int32} {th0 : Nat → Int32} {R : Nat → Nat → Nat → Prop} {post : SY → Prop} (hO : fw_Ok L T F To P Q TP TA TB) (hR : ∀ l a b, l < L → R (fw_nv F l) a b → R (fw_nv To l) (a + fw_nv P l) (b + fw_nv Q l)) (hpost : ∀ th, (∀ j, th j = 0 → th0 j = 0) → fw_Sub R th → (∀ l a b, l < L → a < 19 → b < 19 → fw_Cl F To P Q th l a b) → post (nI L, nI T, F, To, P, Q, TP, TA, TB, th)) :
    ∀ m th, fw_zc th 2527 ≤ m → (∀ j, th j = 0 → th0 j = 0) → fw_Sub R th → wY_spread_2 post (nI L) (nI T) (m + 2) 1 F To P Q TP TA TB th := by
  intro m
  induction m with
  | zero =>
    intro th hz h1 h2
    refine br_f fw_10 ⟨4333, fw_sp10 (th0 := th) hO hR (fun c th' h => ?_) 4332 0 0 th rfl ⟨fun _ g => g, h2, Or.inl ⟨rfl, fun _ g => g, fun i hi => absurd hi (Nat.not_lt_zero i)⟩⟩⟩
    rcases h.2.2 with ⟨g1, g2, g3⟩ | ⟨g1, j, g2, g3, g4⟩
    · refine br_t g1 (hpost th' (fun j g => h1 j (h.1 j g)) h.2.1 (fun l a b hl ha hb => ?_))
      have hL := hO.1
      have := g3 (361 * l + 19 * a + b) (by omega)
      have e1 : (361 * l + 19 * a + b) / 361 = l := by omega
      have e2 : (361 * l + 19 * a + b) / 19 % 19 = a := by omega
      have e3 : (361 * l + 19 * a + b) % 19 = b := by omega
      rw [e1, e2, e3] at this
      exact this hl
    · have := fw_zcS h.1 g3 g4 2527 g2
      omega
  | succ m ih =>
    intro th hz h1 h2
    refine br_f fw_10 ⟨4333, fw_sp10 (th0 := th) hO hR (fun c th' h => ?_) 4332 0 0 th rfl ⟨fun _ g => g, h2, Or.inl ⟨rfl, fun _ g => g, fun i hi => absurd hi (Nat.not_lt_zero i)⟩⟩⟩
    rcases h.2.2 with ⟨g1, g2, g3⟩ | ⟨g1, j, g2, g3, g4⟩
    · refine br_t g1 (hpost th' (fun j g => h1 j (h.1 j g)) h.2.1 (fun l a b hl ha hb => ?_))
      have hL := hO.1
      have := g3 (361 * l + 19 * a + b) (by omega)
      have e1 : (361 * l + 19 * a + b) / 361 = l := by omega
      have e2 : (361 * l + 19 * a + b) / 19 % 19 = a := by omega
      have e3 : (361 * l + 19 * a + b) % 19 = b := by omega
      rw [e1, e2, e3] at this
      exact this hl
    · have := fw_zcS h.1 g3 g4 2527 g2
      rw [g1]
      exact ih th' (by omega) (fun j g => h1 j (h.1 j g)) h.2.1
theorem fw_reach {L : Nat} {F To P Q th : Nat → Int32} (hTo : ∀ i, fw_nv To i < 7) (hc : ∀ l a b, l < L → a < 19 → b < 19 → fw_Cl F To P Q th l a b) : ∀ n x0 a0 b0 x s r, th (361 * x0 + 19 * a0 + b0) ≠ 0 → fw_W L (fw_nv F) (fw_nv To) (fw_nv P) (fw_nv Q) n x0 x s r → a0 + s < 19 → b0 + r < 19 → th (361 * x + 19 * (a0 + s) + (b0 + r)) ≠ 0 := by
  intro n
  induction n with
  | zero =>
    rintro x0 a0 b0 x s r h ⟨rfl, rfl, rfl⟩ ha hb
    exact h
  | succ n ih =>
    rintro x0 a0 b0 x s r h ⟨l, g1, g2, s', r', g3, g4, g5⟩ ha hb
    rw [← g2] at h
    have := ih _ _ _ x s' r' (hc l a0 b0 g1 (by omega) (by omega) h (by omega) (by omega)) g3 (by omega) (by omega)
    rw [g4, g5, ← Nat.add_assoc a0, ← Nat.add_assoc b0]
    exact this
/-- the array holds just what S says -/
def fw_Is (S : Nat → Nat → Nat → Prop) (th : Nat → Int32) : Prop := ∀ x a b, x < 7 → a < 19 → b < 19 → (th (361 * x + 19 * a + b) ≠ 0 ↔ S x a b)
theorem fw_spr {L T : Nat} {F To P Q TP TA TB : Nat → Int32} {th : Nat → Int32} {I : Nat → Nat → Nat → Prop} {post : SY → Prop} (hO : fw_Ok L T F To P Q TP TA TB) (hI : ∀ x a b, I x a b → x < 7) (h : fw_Is I th) (hpost : ∀ th, fw_Is (fw_R L (fw_nv F) (fw_nv To) (fw_nv P) (fw_nv Q) I) th → post (nI L, nI T, F, To, P, Q, TP, TA, TB, th)) : wpY_spread post (nI L, nI T, F, To, P, Q, TP, TA, TB, th) := by
  have hTo : ∀ i, fw_nv To i < 7 := fun i => (fw_rg hO.2.2.2.1 (by decide) i).1
  refine ⟨fw_zc th 2527 + 2, fw_sp2 (th0 := th) (R := fw_R L (fw_nv F) (fw_nv To) (fw_nv P) (fw_nv Q) I) hO ?_ ?_ _ th (Nat.le_refl _) (fun _ g => g) ?_⟩
  · rintro l a b hl ⟨x0, a0, b0, h1, n, s, r, h2, h3, h4⟩
    exact ⟨x0, a0, b0, h1, n + 1, s + fw_nv P l, r + fw_nv Q l, fw_app hl n x0 s r h2, by omega, by omega⟩
  · intro th' g1 g2 g3
    refine hpost th' (fun x a b hx ha hb => ⟨g2 x a b hx ha hb, ?_⟩)
    rintro ⟨x0, a0, b0, h1, n, s, r, h2, rfl, rfl⟩
    exact fw_reach hTo g3 n x0 a0 b0 x s r (fun z => (h x0 a0 b0 (hI _ _ _ h1) (by omega) (by omega)).mpr h1 (g1 _ z)) h2 ha hb
  · intro x a b hx ha hb g
    exact ⟨x, a, b, (h x a b hx ha hb).mp g, 0, 0, 0, ⟨rfl, rfl, rfl⟩, rfl, rfl⟩
end FWE
end
section
section FWF
/-! I: Y's starts, below, inFront -/
theorem fw_isU {S S' : Nat → Nat → Nat → Prop} {th : Nat → Int32} {x a b : Nat} (ha : a < 19) (hb : b < 19) (h : fw_Is S th) (hS : ∀ x' a' b', S' x' a' b' ↔ S x' a' b' ∨ (x' = x ∧ a' = a ∧ b' = b)) : fw_Is S' (upd th (361 * x + 19 * a + b) 1) := by
  intro x' a' b' hx' ha' hb'
  rw [hS, ← h x' a' b' hx' ha' hb']
  by_cases c : x' = x ∧ a' = a ∧ b' = b
  · obtain ⟨rfl, rfl, rfl⟩ := c
    rw [pk_us]
    exact ⟨fun _ => Or.inr ⟨rfl, rfl, rfl⟩, fun _ => fw_10⟩
  · rw [pk_un (by omega)]
    exact ⟨fun g => Or.inl g, fun g => g.elim (fun z => z) (fun z => absurd z c)⟩
theorem fw_tokS {T : Nat} {tp ta tb : Nat → Nat} {K : Nat → Prop} (hK : K T) (x a b : Nat) : fw_tok (T + 1) tp ta tb K x a b ↔ fw_tok T tp ta tb K x a b ∨ (x = tp T ∧ a = ta T ∧ b = tb T) := by
  constructor
  · rintro ⟨i, h1, h2, h3⟩
    by_cases c : i = T
    · subst c; exact Or.inr h3
    · exact Or.inl ⟨i, by omega, h2, h3⟩
  · rintro (⟨i, h1, h2⟩ | h)
    · exact ⟨i, by omega, h2⟩
    · exact ⟨T, by omega, hK, h⟩
theorem fw_tokN {T : Nat} {tp ta tb : Nat → Nat} {K : Nat → Prop} (hK : ¬ K T) (x a b : Nat) : fw_tok (T + 1) tp ta tb K x a b ↔ fw_tok T tp ta tb K x a b := by
  constructor
  · rintro ⟨i, h1, h2, h3⟩
    by_cases c : i = T
    · subst c; exact absurd h2 hK
    · exact ⟨i, by omega, h2, h3⟩
  · rintro ⟨i, h1, h2⟩
    exact ⟨i, by omega, h2⟩
theorem fw_is0 {S : Nat → Nat → Nat → Prop} {th : Nat → Int32} (h : ∀ i, i < 2527 → th i = 0) (hS : ∀ x a b, ¬ S x a b) : fw_Is S th :=
  fun x a b hx ha hb => ⟨fun g => absurd (h _ (by omega)) g, fun g => absurd g (hS x a b)⟩
theorem fw_tok0 {tp ta tb : Nat → Nat} {K : Nat → Prop} (x a b : Nat) : ¬ fw_tok 0 tp ta tb K x a b := fun ⟨i, h, _⟩ => Nat.not_lt_zero i h
theorem fw_tok7 {T : Nat} {TP TA TB : Nat → Int32} {K : Nat → Prop} (hTP : fw_Rg TP 7) (x a b : Nat) (h : fw_tok T (fw_nv TP) (fw_nv TA) (fw_nv TB) K x a b) : x < 7 := by
  obtain ⟨i, _, _, rfl, _⟩ := h
  exact (fw_rg hTP (by decide) i).1
theorem fw_st6 {L T : Nat} {F To P Q TP TA TB : Nat → Int32} {post : SY → Prop} (hO : fw_Ok L T F To P Q TP TA TB) (hpost : ∀ th, fw_Is (fw_R L (fw_nv F) (fw_nv To) (fw_nv P) (fw_nv Q) (fw_tok T (fw_nv TP) (fw_nv TA) (fw_nv TB) (fun _ => True))) th → post (nI L, nI T, F, To, P, Q, TP, TA, TB, th)) :
    ∀ m j th, j + m = T → fw_Is (fw_tok j (fw_nv TP) (fw_nv TA) (fw_nv TB) (fun _ => True)) th → wY_spreadTokens_6 post (m + 1) (nI j) (nI L) (nI T) F To P Q TP TA TB th := by
  have hT := hO.2.1
  have hTP := hO.2.2.2.2.2.2.1
  have hTA := hO.2.2.2.2.2.2.2.1
  have hTB := hO.2.2.2.2.2.2.2.2
  intro m
  induction m with
  | zero =>
    intro j th hj h
    have : j = T := by omega
    subst this
    exact br_t (nI_le (Nat.le_refl j) (by omega)) (fw_spr hO (fw_tok7 hTP) h (fun th' h' => hpost th' h'))
  | succ m ih =>
    intro j th hj h
    have hv : vp_in (nI j) 20 := vp_in_nI (by omega) (by decide)
    have hc : (nI j).toNatClampNeg = j := nI_clamp (by omega)
    obtain ⟨a1, b1⟩ := fw_rg hTP (by decide) j
    obtain ⟨a2, b2⟩ := fw_rg hTA (by decide) j
    obtain ⟨a3, b3⟩ := fw_rg hTB (by decide) j
    refine br_f (nI_ge (by omega) (by omega)) ⟨hv, hv, hv, ?_⟩
    rw [hc, b1, b2, b3]
    exact fw_set a1 (by omega) (by omega) (nm_r (nI_1 j) (ih (j + 1) _ (by omega) (fw_isU (by omega) (by omega) h (fw_tokS trivial))))
theorem fw_st {L T : Nat} {F To P Q TP TA TB : Nat → Int32} {th : Nat → Int32} {post : SY → Prop} (hO : fw_Ok L T F To P Q TP TA TB) (hpost : ∀ th, fw_Is (fw_R L (fw_nv F) (fw_nv To) (fw_nv P) (fw_nv Q) (fw_tok T (fw_nv TP) (fw_nv TA) (fw_nv TB) (fun _ => True))) th → post (nI L, nI T, F, To, P, Q, TP, TA, TB, th)) : wpY_spreadTokens post (nI L, nI T, F, To, P, Q, TP, TA, TB, th) := by
  unfold wpY_spreadTokens
  dsimp only
  exact fw_empty (fun th' h => ⟨T + 1, fw_st6 hO hpost T 0 th' (by omega) (fw_is0 h fw_tok0)⟩)
/-! J: below -/
def fw_Hit (th : Nat → Int32) (pl a b : Nat) (o : Int32) (x y : Nat) : Prop := th (361 * pl + 19 * x + y) ≠ 0 ∧ ¬ (¬ o = 0 ∧ x = a ∧ y = b)
theorem fw_be12 {L T : Nat} {F To P Q TP TA TB : Nat → Int32} {th : Nat → Int32} {post : Int32 → Prop} {J3 : Int32 → Prop} {pl a b x : Nat} {o : Int32} (hpl : pl < 7) (ha : a < 19) (hb : b < 19) (hx : x ≤ a) (h1 : ∀ x y, x ≤ a → y ≤ b → fw_Hit th pl a b o x y → post 1) (hJ : (∀ y, y ≤ b → ¬ fw_Hit th pl a b o x y) → J3 (nI (x + 1))) :
    ∀ k y, y + k = b + 1 → (∀ y', y' < y → ¬ fw_Hit th pl a b o x y') → wY_below_12 post J3 (nI pl) (nI a) (nI b) o (nI x) (nI L) (nI T) F To P Q TP TA TB th (k + 1) (nI y) := by
  intro k
  induction k with
  | zero =>
    intro y hy h
    have : y = b + 1 := by omega
    subst this
    exact br_t (nI_lt (by omega) (by omega)) (nm_r (nI_1 x) (hJ (fun y hy => h y (by omega))))
  | succ k ih =>
    intro y hy h
    have hk : ¬ fw_Hit th pl a b o x y → ∀ z, z = nI y + 1 → wY_below_12 post J3 (nI pl) (nI a) (nI b) o (nI x) (nI L) (nI T) F To P Q TP TA TB th (k + 1) z := fun hn => nm_r (nI_1 y) (ih (y + 1) (by omega) (fun y' hy' => by
      by_cases c : y' = y
      · subst c; exact hn
      · exact h y' (by omega)))
    refine br_f (nI_nlt (by omega) (by omega)) ?_
    rw [fw_ix, nI_clamp (by omega)]
    refine ⟨vp_in_nI (by omega) (by decide), br_c (fun z => hk (fun g => g.1 z)) (fun z => br_c (fun ho => h1 x y hx (by omega) ⟨z, fun g => g.1 ho⟩) (fun ho => pk_eq x a (fun e1 => pk_eq y b (fun e2 => hk (fun g => g.2 ⟨ho, e1, e2⟩)) (fun e2 => h1 x y hx (by omega) ⟨z, fun g => e2 g.2.2⟩) rfl rfl (by omega) (by omega)) (fun e1 => h1 x y hx (by omega) ⟨z, fun g => e1 g.2.1⟩) rfl rfl (by omega) (by omega)))⟩
theorem fw_be3 {L T : Nat} {F To P Q TP TA TB : Nat → Int32} {th : Nat → Int32} {post : Int32 → Prop} {pl a b : Nat} {o : Int32} (hpl : pl < 7) (ha : a < 19) (hb : b < 19) (h1 : ∀ x y, x ≤ a → y ≤ b → fw_Hit th pl a b o x y → post 1) (h0 : (∀ x y, x ≤ a → y ≤ b → ¬ fw_Hit th pl a b o x y) → post 0) :
    ∀ k x, x + k = a + 1 → (∀ x' y, x' < x → y ≤ b → ¬ fw_Hit th pl a b o x' y) → wY_below_3 post (nI pl) (nI a) (nI b) o (nI L) (nI T) F To P Q TP TA TB th (k + 1) (nI x) := by
  intro k
  induction k with
  | zero =>
    intro x hx h
    have : x = a + 1 := by omega
    subst this
    exact br_t (nI_lt (by omega) (by omega)) (h0 (fun x y hx hy => h x y (by omega) hy))
  | succ k ih =>
    intro x hx h
    refine br_f (nI_nlt (by omega) (by omega)) ⟨b + 1 + 1, fw_be12 hpl ha hb (by omega) h1 (fun hn => ih (x + 1) (by omega) (fun x' y hx' hy => ?_)) (b + 1) 0 (by omega) (fun y' hy' => absurd hy' (Nat.not_lt_zero y'))⟩
    by_cases c : x' = x
    · subst c; exact hn y hy
    · exact h x' y (by omega) hy
theorem fw_below {L T : Nat} {F To P Q TP TA TB : Nat → Int32} {th : Nat → Int32} {post : Int32 → Prop} {pl a b : Nat} {o : Int32} (hpl : pl < 7) (ha : a < 19) (hb : b < 19) (h1 : (∃ x y, x ≤ a ∧ y ≤ b ∧ fw_Hit th pl a b o x y) → post 1) (h0 : (¬ ∃ x y, x ≤ a ∧ y ≤ b ∧ fw_Hit th pl a b o x y) → post 0) : wpY_below post (nI L, nI T, F, To, P, Q, TP, TA, TB, th) (nI pl) (nI a) (nI b) o :=
  ⟨a + 1 + 1, fw_be3 hpl ha hb (fun x y hx hy h => h1 ⟨x, y, hx, hy, h⟩) (fun h => h0 (fun ⟨x, y, hx, hy, hh⟩ => h x y hx hy hh)) (a + 1) 0 (by omega) (fun x' y hx' => absurd hx' (Nat.not_lt_zero x'))⟩
theorem fw_below0 {L T : Nat} {F To P Q TP TA TB : Nat → Int32} {th : Nat → Int32} {R : Nat → Nat → Nat → Prop} {post : Int32 → Prop} {pl a b : Nat} (hpl : pl < 7) (ha : a < 19) (hb : b < 19) (h : fw_Is R th) (h1 : (∃ x y, x ≤ a ∧ y ≤ b ∧ R pl x y) → post 1) (h0 : (¬ ∃ x y, x ≤ a ∧ y ≤ b ∧ R pl x y) → post 0) : wpY_below post (nI L, nI T, F, To, P, Q, TP, TA, TB, th) (nI pl) (nI a) (nI b) 0 := by
  refine fw_below hpl ha hb (fun ⟨x, y, hx, hy, hh⟩ => h1 ⟨x, y, hx, hy, (h pl x y hpl (by omega) (by omega)).mp hh.1⟩) (fun hn => h0 (fun ⟨x, y, hx, hy, hh⟩ => hn ⟨x, y, hx, hy, (h pl x y hpl (by omega) (by omega)).mpr hh, fun g => g.1 rfl⟩))
theorem fw_inF {L T : Nat} {F To P Q TP TA TB : Nat → Int32} {th : Nat → Int32} {R : Nat → Nat → Nat → Prop} {post : Int32 → Prop} {pl a b : Nat} (hpl : pl < 7) (ha : a < 19) (hb : b < 19) (h : fw_Is R th) (h1 : fw_PM (R pl) a b → post 1) (h0 : ¬ fw_PM (R pl) a b → post 0) : wpY_inFront post (nI L, nI T, F, To, P, Q, TP, TA, TB, th) (nI pl) (nI a) (nI b) := by
  have hi : vp_in (nI (361 * pl + 19 * a + b)) 2527 := vp_in_nI (by omega) (by decide)
  unfold wpY_inFront
  dsimp only
  rw [fw_ix, nI_clamp (by omega)]
  refine ⟨hi, br_c (fun z => h0 (fun g => (h pl a b hpl ha hb).mpr g.1 z)) (fun z => fw_below hpl ha hb (fun g => br_f fw_10 (h0 ?_)) (fun g => br_t rfl (h1 ?_)))⟩
  · obtain ⟨x, y, hx, hy, hh⟩ := g
    exact fun gg => gg.2 ⟨x, y, hx, hy, (h pl x y hpl (by omega) (by omega)).mp hh.1, fun e => hh.2 ⟨fw_10, e⟩⟩
  · exact ⟨(h pl a b hpl ha hb).mp z, fun ⟨x, y, hx, hy, hr, hn⟩ => g ⟨x, y, hx, hy, (h pl x y hpl (by omega) (by omega)).mpr hr, fun e => hn e.2⟩⟩
end FWF
end
section
section FWG
/-! K: counts of new least values along Y's flat loop -/
theorem fw_ctN {C K : Nat} {e : Nat → Nat} {t : Nat} (hK : 0 < K) (h : e (t / K) < fw_mn C e (t / K) → e (t / K) < K) : fw_ct C e ((t + 1) / K) ((t + 1) % K) = if e (t / K) = t % K ∧ t % K < fw_mn C e (t / K) then fw_ct C e (t / K) (t % K) + 1 else fw_ct C e (t / K) (t % K) := by
  have ht := Nat.div_add_mod t K
  have hb := Nat.mod_lt t hK
  rw [← fw_ct_s]
  generalize t / K = a at *
  generalize t % K = b at *
  subst ht
  rw [Nat.add_assoc]
  by_cases c : b + 1 < K
  · rw [Nat.mul_add_div hK, Nat.mul_add_mod, Nat.div_eq_of_lt c, Nat.mod_eq_of_lt c]
    rfl
  · have e1 : b + 1 = K := by omega
    rw [e1, Nat.mul_add_div hK, Nat.mul_add_mod, Nat.div_self hK, Nat.mod_self, fw_ct_0, fw_ct_K h]
theorem fw_cnM {C : Nat} {e : Nat → Nat} {a : Nat} (h : e a < fw_mn C e a) : ∀ n, a < n → fw_cn C e a < fw_cn C e n
  | 0 => fun z => absurd z (Nat.not_lt_zero a)
  | n + 1 => fun z => by
    show _ < if e n < fw_mn C e n then fw_cn C e n + 1 else fw_cn C e n
    by_cases c : a = n
    · subst c
      rw [if_pos h]
      omega
    · have := fw_cnM h n (by omega)
      split <;> omega
def fw_FT (e : Nat → Nat) (ft : Nat → Int32) (n : Nat) : Prop := ∀ a, a < n → e a < fw_mn 16 e a → ft (fw_cn 16 e a) = nI (16 * a + e a)
theorem fw_fFl {L T : Nat} {F To P Q TP TA TB : Nat → Int32} {D : Nat → Int32} {post : Int32 → SX → Prop} {e : Nat → Nat} (hO : fw_Ok L T F To P Q TP TA TB) (hD : fw_Rg D 1001) (he : ∀ a, e a = fw_eB (fw_nv D) (fw_nv TP) (fw_nv TA) (fw_nv TB) T a) (hpost : ∀ ft, fw_FT e ft 16 → post (nI (fw_cn 16 e 16)) (nI L, nI T, F, To, P, Q, TP, TA, TB, D, ft)) :
    ∀ k a ft, a + k = 16 → fw_FT e ft a → wX_findFront_13 post (nI L) (nI T) (k + 1) (nI (fw_cn 16 e a)) (nI (fw_mn 16 e a)) (nI a) F To P Q TP TA TB D ft := by
  intro k
  induction k with
  | zero =>
    intro a ft ha h
    have : a = 16 := by omega
    subst this
    exact br_t (nI_le (Nat.le_refl 16) (by decide)) (hpost ft h)
  | succ k ih =>
    intro a ft ha h
    have hm := fw_mn_C (C := 16) (g := e) a
    have hm2 : e a ≤ 1000 := by rw [he]; exact fw_mn_C _
    have hcl := fw_cn_le (C := 16) (e := e) a
    refine br_f (nI_ge (b := 16) (by omega) (by decide)) (fw_eb hO hD (by omega) ?_)
    rw [← he]
    refine pk_le (fw_mn 16 e a) (e a) (fun hk => nm_r (nI_1 a) ?_) (fun hk => ⟨vp_in_nI (by omega) (by decide), nm_r (e' := upd ft (fw_cn 16 e a) (nI (16 * a + e a))) ?_ (nm_r (nI_1 _) (nm_r (nI_1 a) ?_))⟩) rfl rfl (by omega) (by omega)
    · have h2 := ih (a + 1) ft (by omega) (fun a' ha' hn => by
        by_cases c : a' = a
        · subst c; omega
        · exact h a' (by omega) hn)
      have e1 : fw_cn 16 e (a + 1) = fw_cn 16 e a := if_neg (by omega)
      have e2 : fw_mn 16 e (a + 1) = fw_mn 16 e a := if_neg (by omega)
      rw [e1, e2] at h2
      exact h2
    · rw [nI_clamp (by omega)]
      show upd ft (fw_cn 16 e a) (nI 16 * nI a + nI (e a)) = _
      rw [pk_mul, nI_add]
    · have h2 := ih (a + 1) (upd ft (fw_cn 16 e a) (nI (16 * a + e a))) (by omega) (fun a' ha' hn => by
        by_cases c : a' = a
        · subst c; exact pk_us
        · rw [pk_un (Nat.ne_of_lt (fw_cnM hn a (by omega)))]
          exact h a' (by omega) hn)
      have e1 : fw_cn 16 e (a + 1) = fw_cn 16 e a + 1 := if_pos hk
      have e2 : fw_mn 16 e (a + 1) = e a := if_pos hk
      rw [e1, e2] at h2
      exact h2
theorem fw_fF {L T : Nat} {F To P Q TP TA TB : Nat → Int32} {lq ft : Nat → Int32} {pl : Nat} {post : Int32 → SX → Prop} (hO : fw_Ok L T F To P Q TP TA TB) (hlq : fw_Rg lq 1001) (hpl : pl < 7) (hpost : ∀ D ft, fw_Rg D 1001 → fw_Good L (fw_nv F) (fw_nv To) (fw_nv P) (fw_nv Q) pl (fw_nv D) → fw_FT (fw_eB (fw_nv D) (fw_nv TP) (fw_nv TA) (fw_nv TB) T) ft 16 → post (nI (fw_cn 16 (fw_eB (fw_nv D) (fw_nv TP) (fw_nv TA) (fw_nv TB) T) 16)) (nI L, nI T, F, To, P, Q, TP, TA, TB, D, ft)) : wpX_findFront post (nI L, nI T, F, To, P, Q, TP, TA, TB, lq, ft) (nI pl) := by
  unfold wpX_findFront
  dsimp only
  exact fw_find hO hlq hpl (fun D hD hG => ⟨17, fw_fFl hO hD (fun _ => rfl) (fun ft' hft => hpost D ft' hD hG hft) 16 0 ft rfl (fun a ha => absurd ha (Nat.not_lt_zero a))⟩)
/-! L: Y's loops over the times -/
theorem fw_yf17 {L T : Nat} {F To P Q TP TA TB : Nat → Int32} {th : Nat → Int32} {R : Nat → Nat → Nat → Prop} {post : Int32 → SY → Prop} {pl : Nat} {e : Nat → Nat} (hpl : pl < 7) (hIs : fw_Is R th) (hpm : ∀ a b, a < 16 → b < 16 → (fw_PM (R pl) a b ↔ e a = b ∧ b < fw_mn 16 e a)) (hpost : post (nI (fw_cn 16 e 16)) (nI L, nI T, F, To, P, Q, TP, TA, TB, th)) :
    ∀ k t, t + k = 256 → wY_front_17 post (nI pl) (nI L) (nI T) F To P Q TP TA TB th (k + 1) (nI (fw_ct 16 e (t / 16) (t % 16))) (nI t) := by
  intro k
  induction k with
  | zero =>
    intro t ht
    have : t = 256 := by omega
    subst this
    have e1 : fw_ct 16 e (256 / 16) (256 % 16) = fw_cn 16 e 16 := fw_ct_0
    rw [e1]
    exact br_t (nI_le (Nat.le_refl 256) (by decide)) hpost
  | succ k ih =>
    intro t ht
    have d1 : nI t / 16 = nI (t / 16) := pk_div (d := 16) (by omega) (by decide) (by decide)
    have d2 : nI t - nI t / 16 * 16 = nI (t % 16) := pk_rem (d := 16) (by omega) (by decide) (by decide)
    have hn := fw_ctN (C := 16) (K := 16) (e := e) (t := t) (by decide) (fun g => Nat.lt_of_lt_of_le g (fw_mn_C _))
    have h2 := ih (t + 1) (by omega)
    refine br_f (nI_ge (b := 256) (by omega) (by decide)) ⟨by decide, by decide, ?_⟩
    rw [d2, d1]
    refine fw_inF hpl (by omega) (by omega) hIs (fun g => br_f fw_10 (nm_r (nI_1 _) (nm_r (nI_1 t) ?_))) (fun g => br_t rfl (nm_r (nI_1 t) ?_))
    · rw [hpm _ _ (by omega) (by omega)] at g
      rw [hn, if_pos g] at h2
      exact h2
    · rw [hpm _ _ (by omega) (by omega)] at g
      rw [hn, if_neg g] at h2
      exact h2
theorem fw_yfa18 {L T : Nat} {F To P Q TP TA TB : Nat → Int32} {th : Nat → Int32} {R : Nat → Nat → Nat → Prop} {post : Int32 → SY → Prop} {pl : Nat} {e : Nat → Nat} {ix : Int32} (hpl : pl < 7) (hIs : fw_Is R th) (hpm : ∀ a b, a < 16 → b < 16 → (fw_PM (R pl) a b ↔ e a = b ∧ b < fw_mn 16 e a)) (hf : ∀ a, a < 16 → e a < fw_mn 16 e a → nI (fw_cn 16 e a) = ix → post (nI (16 * a + e a)) (nI L, nI T, F, To, P, Q, TP, TA, TB, th)) (hno : (∀ j, j < fw_cn 16 e 16 → ¬ nI j = ix) → post (-1) (nI L, nI T, F, To, P, Q, TP, TA, TB, th)) :
    ∀ k t, t + k = 256 → (∀ j, j < fw_ct 16 e (t / 16) (t % 16) → ¬ nI j = ix) → wY_frontAt_18 post (nI pl) ix (nI L) (nI T) F To P Q TP TA TB th (k + 1) (nI (fw_ct 16 e (t / 16) (t % 16))) (nI t) := by
  intro k
  induction k with
  | zero =>
    intro t ht h
    have : t = 256 := by omega
    subst this
    have e1 : fw_ct 16 e (256 / 16) (256 % 16) = fw_cn 16 e 16 := fw_ct_0
    rw [e1] at h ⊢
    exact br_t (nI_le (Nat.le_refl 256) (by decide)) (hno h)
  | succ k ih =>
    intro t ht h
    have d1 : nI t / 16 = nI (t / 16) := pk_div (d := 16) (by omega) (by decide) (by decide)
    have d2 : nI t - nI t / 16 * 16 = nI (t % 16) := pk_rem (d := 16) (by omega) (by decide) (by decide)
    have hn := fw_ctN (C := 16) (K := 16) (e := e) (t := t) (by decide) (fun g => Nat.lt_of_lt_of_le g (fw_mn_C _))
    have h2 := ih (t + 1) (by omega)
    refine br_f (nI_ge (b := 256) (by omega) (by decide)) ⟨by decide, by decide, ?_⟩
    rw [d2, d1]
    refine fw_inF hpl (by omega) (by omega) hIs (fun g => br_f fw_10 (br_c (fun hix => ?_) (fun hix => nm_r (nI_1 _) (nm_r (nI_1 t) ?_)))) (fun g => br_t rfl (nm_r (nI_1 t) ?_))
    · rw [hpm _ _ (by omega) (by omega)] at g
      rw [fw_ct_eq g.1] at hix
      have h3 := hf (t / 16) (by omega) (by omega) hix
      have e3 : 16 * (t / 16) + e (t / 16) = t := by omega
      rw [e3] at h3
      exact h3
    · rw [hpm _ _ (by omega) (by omega)] at g
      rw [hn, if_pos g] at h2
      refine h2 (fun j hj => ?_)
      by_cases c : j = fw_ct 16 e (t / 16) (t % 16)
      · rw [c]; exact hix
      · exact h j (by omega)
    · rw [hpm _ _ (by omega) (by omega)] at g
      rw [hn, if_neg g] at h2
      exact h2 h
theorem fw_xs31 {L T : Nat} {F To P Q TP TA TB : Nat → Int32} {D ft : Nat → Int32} {post : Int32 → SX → Prop} {z : Nat} (hz : z < 7) (hD : fw_Rg D 1001) (hpost : post (nI (fw_cn 1000 (fun s => fw_nv D (z * 19 + s)) 19)) (nI L, nI T, F, To, P, Q, TP, TA, TB, D, ft)) :
    ∀ k s, s + k = 19 → wX_shortest_31 post (nI z) (nI L) (nI T) F To P Q TP TA TB D ft (k + 1) (nI (fw_cn 1000 (fun s => fw_nv D (z * 19 + s)) s)) (nI (fw_mn 1000 (fun s => fw_nv D (z * 19 + s)) s)) (nI s) := by
  intro k
  induction k with
  | zero =>
    intro s hs
    have : s = 19 := by omega
    subst this
    exact br_t (nI_le (Nat.le_refl 19) (by decide)) hpost
  | succ k ih =>
    intro s hs
    have e1 : nI z * 19 + nI s = nI (z * 19 + s) := by
      show nI z * nI 19 + nI s = _
      rw [pk_mul, nI_add]
    obtain ⟨a3, b3⟩ := fw_rg hD (by decide) (z * 19 + s)
    have hm := fw_mn_C (C := 1000) (g := fun s => fw_nv D (z * 19 + s)) s
    have h2 := ih (s + 1) (by omega)
    refine br_f (nI_ge (b := 19) (by omega) (by decide)) ⟨by rw [e1]; exact vp_in_nI (by omega) (by decide), nm_r (e' := nI (fw_nv D (z * 19 + s))) (by rw [e1, nI_clamp (by omega), b3]) ?_⟩
    refine pk_le _ (fw_nv D (z * 19 + s)) (fun hk => nm_r (nI_1 s) ?_) (fun hk => nm_r (nI_1 _) (nm_r (nI_1 s) ?_)) rfl rfl (by omega) (by omega)
    · have e1 : fw_cn 1000 (fun s => fw_nv D (z * 19 + s)) (s + 1) = fw_cn 1000 (fun s => fw_nv D (z * 19 + s)) s := if_neg (Nat.not_lt.mpr hk)
      have e2 : fw_mn 1000 (fun s => fw_nv D (z * 19 + s)) (s + 1) = fw_mn 1000 (fun s => fw_nv D (z * 19 + s)) s := if_neg (Nat.not_lt.mpr hk)
      rw [e1, e2] at h2
      exact h2
    · have e1 : fw_cn 1000 (fun s => fw_nv D (z * 19 + s)) (s + 1) = fw_cn 1000 (fun s => fw_nv D (z * 19 + s)) s + 1 := if_pos hk
      have e2 : fw_mn 1000 (fun s => fw_nv D (z * 19 + s)) (s + 1) = fw_nv D (z * 19 + s) := if_pos hk
      rw [e1, e2] at h2
      exact h2
theorem fw_ys36 {L T : Nat} {F To P Q TP TA TB : Nat → Int32} {th : Nat → Int32} {R : Nat → Nat → Nat → Prop} {post : Int32 → SY → Prop} {pl : Nat} {e : Nat → Nat} (hpl : pl < 7) (hIs : fw_Is R th) (hb : ∀ a, a < 19 → e a < fw_mn 1000 e a → e a < 19) (hpm : ∀ a b, a < 19 → b < 19 → (fw_PM (R pl) a b ↔ e a = b ∧ b < fw_mn 1000 e a)) (hpost : post (nI (fw_cn 1000 e 19)) (nI L, nI T, F, To, P, Q, TP, TA, TB, th)) :
    ∀ k t, t + k = 361 → wY_shortest_36 post (nI pl) (nI L) (nI T) F To P Q TP TA TB th (k + 1) (nI (fw_ct 1000 e (t / 19) (t % 19))) (nI t) := by
  intro k
  induction k with
  | zero =>
    intro t ht
    have : t = 361 := by omega
    subst this
    have e1 : fw_ct 1000 e (361 / 19) (361 % 19) = fw_cn 1000 e 19 := fw_ct_0
    rw [e1]
    exact br_t (nI_le (Nat.le_refl 361) (by decide)) hpost
  | succ k ih =>
    intro t ht
    have d1 : nI t / 19 = nI (t / 19) := pk_div (d := 19) (by omega) (by decide) (by decide)
    have d2 : nI t - nI t / 19 * 19 = nI (t % 19) := pk_rem (d := 19) (by omega) (by decide) (by decide)
    have hn := fw_ctN (C := 1000) (K := 19) (e := e) (t := t) (by decide) (hb _ (by omega))
    have h2 := ih (t + 1) (by omega)
    refine br_f (nI_ge (b := 361) (by omega) (by decide)) ⟨by decide, by decide, ?_⟩
    rw [d2, d1]
    refine fw_inF hpl (by omega) (by omega) hIs (fun g => br_f fw_10 (nm_r (nI_1 _) (nm_r (nI_1 t) ?_))) (fun g => br_t rfl (nm_r (nI_1 t) ?_))
    · rw [hpm _ _ (by omega) (by omega)] at g
      rw [hn, if_pos g] at h2
      exact h2
    · rw [hpm _ _ (by omega) (by omega)] at g
      rw [hn, if_neg g] at h2
      exact h2
/-! M: ready -/
def fw_K (TP TA TB : Nat → Int32) (pl a b : Nat) (i : Nat) : Prop := ¬ (TP i = nI pl ∧ TA i = nI a ∧ TB i = nI b)
theorem fw_xr38 {L T : Nat} {F To P Q TP TA TB : Nat → Int32} {D ft : Nat → Int32} {post : Int32 → SX → Prop} {pl a b : Nat} (hO : fw_Ok L T F To P Q TP TA TB) (hD : fw_Rg D 1001) (ha : a < 16) (hb : b < 16) (h1 : (∀ i, i < T → fw_K TP TA TB pl a b i → b < fw_eT (fw_nv D) (fw_nv TP) (fw_nv TA) (fw_nv TB) i a) → post 1 (nI L, nI T, F, To, P, Q, TP, TA, TB, D, ft)) (h0 : (∃ i, i < T ∧ fw_K TP TA TB pl a b i ∧ fw_eT (fw_nv D) (fw_nv TP) (fw_nv TA) (fw_nv TB) i a ≤ b) → post 0 (nI L, nI T, F, To, P, Q, TP, TA, TB, D, ft)) :
    ∀ k j, j + k = T → (∀ i, i < j → fw_K TP TA TB pl a b i → b < fw_eT (fw_nv D) (fw_nv TP) (fw_nv TA) (fw_nv TB) i a) → wX_ready_38 post (nI pl) (nI a) (nI b) (nI L) (nI T) F To P Q TP TA TB D ft (k + 1) (nI j) := by
  have hT := hO.2.1
  intro k
  induction k with
  | zero =>
    intro j hj h
    have : j = T := by omega
    subst this
    exact br_t (nI_le (Nat.le_refl j) (by omega)) (h1 h)
  | succ k ih =>
    intro j hj h
    have hk : (fw_K TP TA TB pl a b j → b < fw_eT (fw_nv D) (fw_nv TP) (fw_nv TA) (fw_nv TB) j a) → ∀ x, x = nI j + 1 → wX_ready_38 post (nI pl) (nI a) (nI b) (nI L) (nI T) F To P Q TP TA TB D ft (k + 1) x := fun hn => nm_r (nI_1 j) (ih (j + 1) (by omega) (fun i hi => by
      by_cases c : i = j
      · subst c; exact hn
      · exact h i (by omega)))
    have hm : fw_eT (fw_nv D) (fw_nv TP) (fw_nv TA) (fw_nv TB) j a ≤ 1000 := fw_mn_C _
    refine br_f (nI_ge (by omega) (by omega)) ?_
    by_cases c : TP j = nI pl ∧ TA j = nI a ∧ TB j = nI b
    · exact fw_atT (by omega) c (br_f fw_10 (hk (fun g => absurd c g)))
    · exact fw_atF (by omega) c (br_t rfl (fw_ebt hO hD (by omega) ha (pk_lt b (fw_eT (fw_nv D) (fw_nv TP) (fw_nv TA) (fw_nv TB) j a) (fun g => hk (fun _ => g)) (fun g => h0 ⟨j, by omega, c, g⟩) rfl rfl (by omega) (by omega))))
theorem fw_yr36 {L T : Nat} {F To P Q TP TA TB : Nat → Int32} {post : Int32 → SY → Prop} {pl a b : Nat} (hO : fw_Ok L T F To P Q TP TA TB) (hpl : pl < 7) (ha : a < 16) (hb : b < 16) (h1 : (¬ ∃ x y, x ≤ a ∧ y ≤ b ∧ fw_R L (fw_nv F) (fw_nv To) (fw_nv P) (fw_nv Q) (fw_tok T (fw_nv TP) (fw_nv TA) (fw_nv TB) (fw_K TP TA TB pl a b)) pl x y) → ∀ th, post 1 (nI L, nI T, F, To, P, Q, TP, TA, TB, th)) (h0 : (∃ x y, x ≤ a ∧ y ≤ b ∧ fw_R L (fw_nv F) (fw_nv To) (fw_nv P) (fw_nv Q) (fw_tok T (fw_nv TP) (fw_nv TA) (fw_nv TB) (fw_K TP TA TB pl a b)) pl x y) → ∀ th, post 0 (nI L, nI T, F, To, P, Q, TP, TA, TB, th)) :
    ∀ m j th, j + m = T → fw_Is (fw_tok j (fw_nv TP) (fw_nv TA) (fw_nv TB) (fw_K TP TA TB pl a b)) th → wY_ready_36 post (nI pl) (nI a) (nI b) (m + 1) (nI j) (nI L) (nI T) F To P Q TP TA TB th := by
  have hT := hO.2.1
  have hTP := hO.2.2.2.2.2.2.1
  have hTA := hO.2.2.2.2.2.2.2.1
  have hTB := hO.2.2.2.2.2.2.2.2
  intro m
  induction m with
  | zero =>
    intro j th hj h
    have : j = T := by omega
    subst this
    exact br_t (nI_le (Nat.le_refl j) (by omega)) (fw_spr hO (fw_tok7 hTP) h (fun th' h' => fw_below0 hpl (by omega) (by omega) h' (fun g => br_f fw_10 (h0 g th')) (fun g => br_t rfl (h1 g th'))))
  | succ m ih =>
    intro j th hj h
    have hv : vp_in (nI j) 20 := vp_in_nI (by omega) (by decide)
    have hc : (nI j).toNatClampNeg = j := nI_clamp (by omega)
    obtain ⟨a1, b1⟩ := fw_rg hTP (by decide) j
    obtain ⟨a2, b2⟩ := fw_rg hTA (by decide) j
    obtain ⟨a3, b3⟩ := fw_rg hTB (by decide) j
    have hset : fw_K TP TA TB pl a b j → wY_ready_78 post (wY_ready_36 post (nI pl) (nI a) (nI b) (m + 1)) (nI pl) (nI a) (nI b) (nI j) (nI L) (nI T) F To P Q TP TA TB th := by
      intro hK
      refine ⟨hv, hv, hv, ?_⟩
      rw [hc, b1, b2, b3]
      exact fw_set a1 (by omega) (by omega) (nm_r (nI_1 j) (ih (j + 1) _ (by omega) (fw_isU (by omega) (by omega) h (fw_tokS hK))))
    refine br_f (nI_ge (by omega) (by omega)) ⟨hv, ?_⟩
    rw [hc]
    refine br_c (fun g1 => ⟨hv, br_c (fun g2 => ⟨hv, br_c (fun g3 => nm_r (nI_1 j) (ih (j + 1) th (by omega) ?_)) (fun g => hset (fun z => g z.2.2))⟩) (fun g => hset (fun z => g z.2.1))⟩) (fun g => hset (fun z => g z.1))
    intro x' a' b' hx' ha' hb'
    rw [fw_tokN (fun z => z ⟨g1, g2, g3⟩)]
    exact h x' a' b' hx' ha' hb'
theorem fw_readyB {L T : Nat} {f t p q : Nat → Nat} {d tp ta tb : Nat → Nat} {K : Nat → Prop} {to a b : Nat} (ht : ∀ i, t i < 7) (hp : ∀ i, p i ≤ 3) (hq : ∀ i, q i ≤ 3) (hG : fw_Good L f t p q to d) (hx : ∀ i, tp i < 7) (ha : a < 19) (hb : b < 1000) : (∃ i, i < T ∧ K i ∧ fw_eT d tp ta tb i a ≤ b) ↔ ∃ x y, x ≤ a ∧ y ≤ b ∧ fw_R L f t p q (fw_tok T tp ta tb K) to x y := by
  constructor
  · rintro ⟨i, h1, h2, h3⟩
    obtain ⟨x, y, h4, h5, n, s, r, h6, h7, h8⟩ := (fw_eT_le ht hp hq hG (hx i) ha hb).mp h3
    exact ⟨x, y, h4, h5, tp i, ta i, tb i, ⟨i, h1, h2, rfl, rfl, rfl⟩, n, s, r, h6, h7, h8⟩
  · rintro ⟨x, y, h4, h5, _, _, _, ⟨i, h1, h2, rfl, rfl, rfl⟩, n, s, r, h6, h7, h8⟩
    exact ⟨i, h1, h2, (fw_eT_le ht hp hq hG (hx i) ha hb).mpr ⟨x, y, h4, h5, n, s, r, h6, h7, h8⟩⟩
end FWG
end
section
section FWH
/-! N: the relation; lines and tokens -/
def i_Rel (_ : Nat) (u : SX) (v : SY) : Prop := ∃ (L T : Nat) (F To P Q TP TA TB lq ft th : Nat → Int32), u = (nI L, nI T, F, To, P, Q, TP, TA, TB, lq, ft) ∧ v = (nI L, nI T, F, To, P, Q, TP, TA, TB, th) ∧ fw_Ok L T F To P Q TP TA TB ∧ fw_Rg lq 1001
theorem i_up {k : Nat} {u : SX} {v : SY} (h : i_Rel k u v) : i_Rel (k + 5) u v := h
theorem i_vc0 : wpX_init (fun u => wpY_init (fun v => i_Rel 0 u v)) := ⟨0, 0, fun _ => 0, fun _ => 0, fun _ => 0, fun _ => 0, fun _ => 0, fun _ => 0, fun _ => 0, fun _ => 0, fun _ => 0, fun _ => 0, rfl, rfl, ⟨by decide, by decide, fw_rg0 (by decide), fw_rg0 (by decide), fw_rg0 (by decide), fw_rg0 (by decide), fw_rg0 (by decide), fw_rg0 (by decide), fw_rg0 (by decide)⟩, fw_rg0 (by decide)⟩
theorem fw_rel {L T : Nat} {F To P Q TP TA TB : Nat → Int32} {lq ft th : Nat → Int32} {k : Nat} (hO : fw_Ok L T F To P Q TP TA TB) (hlq : fw_Rg lq 1001) : i_Rel k (nI L, nI T, F, To, P, Q, TP, TA, TB, lq, ft) (nI L, nI T, F, To, P, Q, TP, TA, TB, th) := ⟨L, T, F, To, P, Q, TP, TA, TB, lq, ft, th, rfl, rfl, hO, hlq⟩
theorem fw_ad (v3 v4 : Int32) : (∃ p q, p < 4 ∧ q < 4 ∧ v3 = nI p ∧ v4 = nI q ∧ (∀ post : Int32 → Prop, post 1 → wpX_isAddition post v3 v4) ∧ ∀ A B : Prop, B → (v3 < 0 → A) ∧ (¬ v3 < 0 → (3 < v3 → A) ∧ (¬ 3 < v3 → (v4 < 0 → A) ∧ (¬ v4 < 0 → (3 < v4 → A) ∧ (¬ 3 < v4 → B))))) ∨ ((∀ post : Int32 → Prop, post 0 → wpX_isAddition post v3 v4) ∧ ∀ A B : Prop, A → (v3 < 0 → A) ∧ (¬ v3 < 0 → (3 < v3 → A) ∧ (¬ 3 < v3 → (v4 < 0 → A) ∧ (¬ v4 < 0 → (3 < v4 → A) ∧ (¬ 3 < v4 → B))))) := by
  rcases fw_r3 v3 with ⟨p, hp, e, p1, p2⟩ | h | ⟨h1, h2⟩
  · rcases fw_r3 v4 with ⟨q, hq, e2, q1, q2⟩ | h | ⟨h1, h2⟩
    · exact Or.inl ⟨p, q, hp, hq, e, e2, fun _ h => br_f p1 (br_f p2 (br_f q1 (br_f q2 h))), fun _ _ h => br_f p1 (br_f p2 (br_f q1 (br_f q2 h)))⟩
    · exact Or.inr ⟨fun _ z => br_f p1 (br_f p2 (br_t h z)), fun _ _ z => br_f p1 (br_f p2 (br_t h z))⟩
    · exact Or.inr ⟨fun _ z => br_f p1 (br_f p2 (br_f h1 (br_t h2 z))), fun _ _ z => br_f p1 (br_f p2 (br_f h1 (br_t h2 z)))⟩
  · exact Or.inr ⟨fun _ z => br_t h z, fun _ _ z => br_t h z⟩
  · exact Or.inr ⟨fun _ z => br_f h1 (br_t h2 z), fun _ _ z => br_f h1 (br_t h2 z)⟩
theorem i_vc_link {k : Nat} {u : SX} {v : SY} (I : i_Rel k u v) (hk : k + 5 ≤ 2560) (v1 : Int32) (v2 : Int32) (v3 : Int32) (v4 : Int32) : wpX_link (fun r u' => wpY_link (fun r' v' => r' = r ∧ i_Rel (k + 5) u' v') v v1 v2 v3 v4) u v1 v2 v3 v4 := by
  obtain ⟨L, T, F, To, P, Q, TP, TA, TB, lq, ft, th, rfl, rfl, hO, hlq⟩ := I
  have hI : i_Rel (k + 5) (nI L, nI T, F, To, P, Q, TP, TA, TB, lq, ft) (nI L, nI T, F, To, P, Q, TP, TA, TB, th) := fw_rel hO hlq
  unfold wpX_link wpY_link
  dsimp only
  rcases fw_pl v1 with ⟨x, hx, rfl⟩ | ⟨hX, hY, _⟩
  · rcases fw_pl v2 with ⟨y, hy, rfl⟩ | ⟨hX, hY, _⟩
    · rcases fw_ad v3 v4 with ⟨p, q, hp, hq, rfl, rfl, hX, hY⟩ | ⟨hX, hY⟩
      · refine fw_plX hx (br_f fw_10 (fw_plX hy (br_f fw_10 (hX _ (br_f fw_10 ?_)))))
        obtain ⟨hL, hT, hF, hTo, hP, hQ, h7⟩ := hO
        by_cases c : L < 12
        · have hv : vp_in (nI L) 12 := vp_in_nI c (by decide)
          have hc : (nI L).toNatClampNeg = L := nI_clamp (by omega)
          have hne : ¬ nI L = 12 := fun e => Nat.ne_of_lt c ((nI_eq (b := 12) (by omega) (by decide)).mp e)
          refine br_t (nI_lt c (by decide)) ⟨hv, nm_e ⟨hv, nm_e ⟨hv, nm_e ⟨hv, nm_e (nm_r (nI_1 L) ?_)⟩⟩⟩⟩
          refine fw_plY hx (br_t rfl (fw_plY hy (br_t rfl (hY _ _ (br_f hne ⟨hv, nm_e ⟨hv, nm_e ⟨hv, nm_e ⟨hv, nm_e (nm_r (nI_1 L) ⟨rfl, fw_rel ⟨by omega, hT, fw_rgU hF hx rfl, fw_rgU hTo hy rfl, fw_rgU hP hp rfl, fw_rgU hQ hq rfl, h7⟩ hlq⟩)⟩⟩⟩⟩)))))
        · have c2 : L = 12 := by omega
          subst c2
          exact br_f (nI_nlt (b := 12) (Nat.le_refl 12) (by decide)) (fw_plY hx (br_t rfl (fw_plY hy (br_t rfl (hY _ _ (br_t rfl ⟨rfl, hI⟩))))))
      · exact fw_plX hx (br_f fw_10 (fw_plX hy (br_f fw_10 (hX _ (br_t rfl (fw_plY hx (br_t rfl (fw_plY hy (br_t rfl (hY _ _ ⟨rfl, hI⟩))))))))))
    · exact fw_plX hx (br_f fw_10 (hX _ (br_t rfl (fw_plY hx (br_t rfl (hY _ (br_f fw_10 ⟨rfl, hI⟩)))))))
  · exact hX _ (br_t rfl (hY _ (br_f fw_10 ⟨rfl, hI⟩)))
theorem fw_lnX {L T : Nat} {F To P Q TP TA TB : Nat → Int32} {lq ft : Nat → Int32} {post : Int32 → Prop} {j : Nat} (hL : L ≤ 12) (hj : j < L) (h : post 1) : wpX_isLine post (nI L, nI T, F, To, P, Q, TP, TA, TB, lq, ft) (nI j) := br_f (nI_pos (by omega)) (br_f (nI_ge hj (by omega)) h)
theorem fw_ln {L T : Nat} {F To P Q TP TA TB : Nat → Int32} {lq ft : Nat → Int32} (hL : L ≤ 12) (v : Int32) : (∃ j, j < L ∧ v = nI j) ∨ ((∀ post : Int32 → Prop, post 0 → wpX_isLine post (nI L, nI T, F, To, P, Q, TP, TA, TB, lq, ft) v) ∧ ∀ A B C : Prop, A → C → (v < 0 → A) ∧ (¬ v < 0 → (v < nI L → B) ∧ (¬ v < nI L → C))) := by
  rcases pk_ix v (n := L) (by omega) with h | h | h
  · exact Or.inr ⟨fun _ hp => br_t h hp, fun _ _ _ a _ => br_t h a⟩
  · have h0 : ¬ v < 0 := Int32.not_lt.mpr (Int32.le_trans (nI_pos' (by omega)) h)
    exact Or.inr ⟨fun _ hp => br_f h0 (br_t h hp), fun _ _ _ _ c => br_f h0 (br_f (Int32.not_lt.mpr h) c)⟩
  · exact Or.inl h
theorem fw_unl {L T : Nat} {TP TA TB lq ft th : Nat → Int32} (hL : L + 1 ≤ 12) : ∀ k i (F To P Q : Nat → Int32), i + k = L → fw_Rg F 7 → fw_Rg To 7 → fw_Rg P 4 → fw_Rg Q 4 → ∃ F' To' P' Q' : Nat → Int32, (fw_Rg F' 7 ∧ fw_Rg To' 7 ∧ fw_Rg P' 4 ∧ fw_Rg Q' 4) ∧
    (∀ post : Int32 → SX → Prop, post (nI L) (nI L, nI T, F', To', P', Q', TP, TA, TB, lq, ft) → wX_unlink_22 post (nI L) (nI T) (k + 1) (nI i) F To P Q TP TA TB lq ft) ∧
    (∀ post : Int32 → SY → Prop, post (nI L) (nI L, nI T, F', To', P', Q', TP, TA, TB, th) → wY_unlink_26 post (nI L) (nI T) (k + 1) (nI i) F To P Q TP TA TB th) := by
  intro k
  induction k with
  | zero =>
    intro i F To P Q hi hF hTo hP hQ
    have : i = L := by omega
    subst this
    have h : nI i ≤ nI i := nI_le (Nat.le_refl i) (by omega)
    exact ⟨F, To, P, Q, ⟨hF, hTo, hP, hQ⟩, fun _ hp => br_t h hp, fun _ hp => br_t h hp⟩
  | succ k ih =>
    intro i F To P Q hi hF hTo hP hQ
    obtain ⟨F', To', P', Q', hr, hX, hY⟩ := ih (i + 1) (upd F i (F (i + 1))) (upd To i (To (i + 1))) (upd P i (P (i + 1))) (upd Q i (Q (i + 1))) (by omega) (fw_rgV hF hF) (fw_rgV hTo hTo) (fw_rgV hP hP) (fw_rgV hQ hQ)
    have h : ¬ nI L ≤ nI i := nI_ge (by omega) (by omega)
    have hv : vp_in (nI i) 12 := vp_in_nI (by omega) (by decide)
    have hv1 : vp_in (nI i + 1) 12 := by
      rw [nI_1]
      exact vp_in_nI (by omega) (by decide)
    have hc : (nI i).toNatClampNeg = i := nI_clamp (by omega)
    have hc1 : (nI i + 1).toNatClampNeg = i + 1 := by
      rw [nI_1]
      exact nI_clamp (by omega)
    refine ⟨F', To', P', Q', hr, fun post hp => br_f h ⟨hv1, hv, nm_r (e' := upd F i (F (i + 1))) (by rw [hc, hc1]) ⟨hv1, hv, nm_r (e' := upd To i (To (i + 1))) (by rw [hc, hc1]) ⟨hv1, hv, nm_r (e' := upd P i (P (i + 1))) (by rw [hc, hc1]) ⟨hv1, hv, nm_r (e' := upd Q i (Q (i + 1))) (by rw [hc, hc1]) (nm_r (nI_1 i) (hX post hp))⟩⟩⟩⟩, fun post hp => br_f h ⟨hv1, hv, nm_r (e' := upd F i (F (i + 1))) (by rw [hc, hc1]) ⟨hv1, hv, nm_r (e' := upd To i (To (i + 1))) (by rw [hc, hc1]) ⟨hv1, hv, nm_r (e' := upd P i (P (i + 1))) (by rw [hc, hc1]) ⟨hv1, hv, nm_r (e' := upd Q i (Q (i + 1))) (by rw [hc, hc1]) (nm_r (nI_1 i) (hY post hp))⟩⟩⟩⟩⟩
theorem i_vc_unlink {k : Nat} {u : SX} {v : SY} (I : i_Rel k u v) (hk : k + 5 ≤ 2560) (v1 : Int32) : wpX_unlink (fun r u' => wpY_unlink (fun r' v' => r' = r ∧ i_Rel (k + 5) u' v') v v1) u v1 := by
  obtain ⟨L, T, F, To, P, Q, TP, TA, TB, lq, ft, th, rfl, rfl, hO, hlq⟩ := I
  have hI : i_Rel (k + 5) (nI L, nI T, F, To, P, Q, TP, TA, TB, lq, ft) (nI L, nI T, F, To, P, Q, TP, TA, TB, th) := fw_rel hO hlq
  unfold wpX_unlink wpY_unlink
  dsimp only
  rcases fw_ln (lq := lq) (ft := ft) hO.1 v1 with ⟨j, hj, rfl⟩ | ⟨hX, hY⟩
  · obtain ⟨hL, hT, hF, hTo, hP, hQ, h7⟩ := hO
    obtain ⟨F', To', P', Q', ⟨r1, r2, r3, r4⟩, gX, gY⟩ := fw_unl (L := L - 1) (T := T) (TP := TP) (TA := TA) (TB := TB) (lq := lq) (ft := ft) (th := th) (by omega) (L - 1 - j) j F To P Q (by omega) hF hTo hP hQ
    refine fw_lnX hL hj (br_f fw_10 (nm_r (fw_p1 (by omega)) ⟨_, gX _ ?_⟩))
    exact br_f (nI_pos (by omega)) (br_t (nI_lt hj (by omega)) (nm_r (fw_p1 (by omega)) ⟨_, gY _ ⟨rfl, fw_rel ⟨by omega, hT, r1, r2, r3, r4, h7⟩ hlq⟩⟩))
  · exact hX _ (br_t rfl (hY _ _ _ ⟨rfl, hI⟩ ⟨rfl, hI⟩))
theorem i_vc_put {k : Nat} {u : SX} {v : SY} (I : i_Rel k u v) (hk : k + 5 ≤ 2560) (v1 : Int32) (v2 : Int32) (v3 : Int32) : wpX_put (fun r u' => wpY_put (fun r' v' => r' = r ∧ i_Rel (k + 5) u' v') v v1 v2 v3) u v1 v2 v3 := by
  obtain ⟨L, T, F, To, P, Q, TP, TA, TB, lq, ft, th, rfl, rfl, hO, hlq⟩ := I
  have hI : i_Rel (k + 5) (nI L, nI T, F, To, P, Q, TP, TA, TB, lq, ft) (nI L, nI T, F, To, P, Q, TP, TA, TB, th) := fw_rel hO hlq
  unfold wpX_put wpY_put
  dsimp only
  rcases fw_pl v1 with ⟨x, hx, rfl⟩ | ⟨hX, hY, _⟩
  · rcases fw_tm v2 v3 with ⟨a, b, ha, hb, rfl, rfl⟩ | ⟨hX, hY, _⟩
    · refine fw_plX hx (br_f fw_10 (fw_tmX ha hb (br_f fw_10 ?_)))
      obtain ⟨hL, hT, hF, hTo, hP, hQ, hTP, hTA, hTB⟩ := hO
      by_cases c : T < 20
      · have hv : vp_in (nI T) 20 := vp_in_nI c (by decide)
        have hc : (nI T).toNatClampNeg = T := nI_clamp (by omega)
        have hne : ¬ nI T = 20 := fun e => Nat.ne_of_lt c ((nI_eq (b := 20) (by omega) (by decide)).mp e)
        refine br_t (nI_lt c (by decide)) (fw_setT c (nm_r (nI_1 T) ?_))
        exact fw_plY hx (br_t rfl (fw_tmY ha hb (br_t rfl (br_f hne ⟨hv, nm_r (by rw [hc]) ⟨hv, nm_r (by rw [hc]) ⟨hv, nm_r (by rw [hc]) (nm_r (nI_1 T) ⟨rfl, fw_rel ⟨hL, by omega, hF, hTo, hP, hQ, fw_rgU hTP hx rfl, fw_rgU hTA ha rfl, fw_rgU hTB hb rfl⟩ hlq⟩)⟩⟩⟩))))
      · have c2 : T = 20 := by omega
        subst c2
        exact br_f (nI_nlt (b := 20) (Nat.le_refl 20) (by decide)) (fw_plY hx (br_t rfl (fw_tmY ha hb (br_t rfl (br_t rfl ⟨rfl, hI⟩)))))
    · exact fw_plX hx (br_f fw_10 (hX _ (br_t rfl (fw_plY hx (br_t rfl (hY _ (br_f fw_10 ⟨rfl, hI⟩)))))))
  · exact hX _ (br_t rfl (hY _ (br_f fw_10 ⟨rfl, hI⟩)))
theorem i_vc_take {k : Nat} {u : SX} {v : SY} (I : i_Rel k u v) (hk : k + 5 ≤ 2560) (v1 : Int32) (v2 : Int32) (v3 : Int32) : wpX_take (fun r u' => wpY_take (fun r' v' => r' = r ∧ i_Rel (k + 5) u' v') v v1 v2 v3) u v1 v2 v3 := by
  obtain ⟨L, T, F, To, P, Q, TP, TA, TB, lq, ft, th, rfl, rfl, hO, hlq⟩ := I
  have hI : i_Rel (k + 5) (nI L, nI T, F, To, P, Q, TP, TA, TB, lq, ft) (nI L, nI T, F, To, P, Q, TP, TA, TB, th) := fw_rel hO hlq
  obtain ⟨hL, hT, hF, hTo, hP, hQ, hTP, hTA, hTB⟩ := hO
  obtain ⟨r, fX, fY, hr⟩ := fw_fn (L := L) (F := F) (To := To) (P := P) (Q := Q) (TP := TP) (TA := TA) (TB := TB) (D := lq) (ft := ft) (th := th) v1 v2 v3 hT
  unfold wpX_take wpY_take
  dsimp only
  rcases hr with ⟨rfl, hno⟩ | ⟨i, hi, rfl, m1, m2, m3⟩
  · rcases fw_pl v1 with ⟨x, hx, rfl⟩ | ⟨hX, hY, _⟩
    · rcases fw_tm v2 v3 with ⟨a, b, ha, hb, rfl, rfl⟩ | ⟨hX, hY, _⟩
      · exact fw_plX hx (br_f fw_10 (fw_tmX ha hb (br_f fw_10 (fX _ (br_t rfl (fY _ (br_f fw_n1le ⟨rfl, hI⟩)))))))
      · exact fw_plX hx (br_f fw_10 (hX _ (br_t rfl (fY _ (br_f fw_n1le ⟨rfl, hI⟩)))))
    · exact hX _ (br_t rfl (fY _ (br_f fw_n1le ⟨rfl, hI⟩)))
  · obtain ⟨x, hx, e1⟩ := hTP i
    obtain ⟨a, ha, e2⟩ := hTA i
    obtain ⟨b, hb, e3⟩ := hTB i
    rw [m1] at e1
    rw [m2] at e2
    rw [m3] at e3
    subst e1 e2 e3
    have hv : vp_in (nI (T - 1)) 20 := vp_in_nI (by omega) (by decide)
    have hc : (nI (T - 1)).toNatClampNeg = T - 1 := nI_clamp (by omega)
    have hv2 : vp_in (nI i) 20 := vp_in_nI (by omega) (by decide)
    have hc2 : (nI i).toNatClampNeg = i := nI_clamp (by omega)
    refine fw_plX hx (br_f fw_10 (fw_tmX ha hb (br_f fw_10 (fX _ (br_f (fw_n1 (by omega)) (nm_r (fw_p1 (by omega)) ⟨hv, hv, hv, fw_setT (by omega) ?_⟩))))))
    rw [hc]
    refine fY _ (br_t (nI_pos' (by omega)) (nm_r (fw_p1 (by omega)) ⟨hv, hv2, nm_r (e' := upd TP i (TP (T - 1))) (by rw [hc, hc2]) ⟨hv, hv2, nm_r (e' := upd TA i (TA (T - 1))) (by rw [hc, hc2]) ⟨hv, hv2, nm_r (e' := upd TB i (TB (T - 1))) (by rw [hc, hc2]) ⟨rfl, fw_rel ⟨hL, by omega, hF, hTo, hP, hQ, fw_rgV hTP hTP, fw_rgV hTA hTA, fw_rgV hTB hTB⟩ hlq⟩⟩⟩⟩))
theorem i_vc_pass {k : Nat} {u : SX} {v : SY} (I : i_Rel k u v) (hk : k + 5 ≤ 2560) (v1 : Int32) (v2 : Int32) (v3 : Int32) : wpX_pass (fun r u' => wpY_pass (fun r' v' => r' = r ∧ i_Rel (k + 5) u' v') v v1 v2 v3) u v1 v2 v3 := by
  obtain ⟨L, T, F, To, P, Q, TP, TA, TB, lq, ft, th, rfl, rfl, hO, hlq⟩ := I
  have hI : i_Rel (k + 5) (nI L, nI T, F, To, P, Q, TP, TA, TB, lq, ft) (nI L, nI T, F, To, P, Q, TP, TA, TB, th) := fw_rel hO hlq
  unfold wpX_pass wpY_pass
  dsimp only
  rcases fw_ln (lq := lq) (ft := ft) hO.1 v1 with ⟨l, hl, rfl⟩ | ⟨hX, hY⟩
  · obtain ⟨hL, hT, hF, hTo, hP, hQ, hTP, hTA, hTB⟩ := hO
    have hv : vp_in (nI l) 12 := vp_in_nI (by omega) (by decide)
    have hc : (nI l).toNatClampNeg = l := nI_clamp (by omega)
    have g0 : ¬ nI l < 0 := nI_pos (by omega)
    have g1 : nI l < nI L := nI_lt hl (by omega)
    obtain ⟨r, fX, fY, hr⟩ := fw_fn (L := L) (F := F) (To := To) (P := P) (Q := Q) (TP := TP) (TA := TA) (TB := TB) (D := lq) (ft := ft) (th := th) (F l) v2 v3 hT
    refine fw_lnX hL hl (br_f fw_10 ?_)
    rw [hc]
    rcases hr with ⟨rfl, hno⟩ | ⟨i, hi, rfl, m1, m2, m3⟩
    · rcases fw_tm v2 v3 with ⟨a, b, ha, hb, rfl, rfl⟩ | ⟨hX, hY, _⟩
      · exact fw_tmX ha hb (br_f fw_10 ⟨hv, fX _ (br_t rfl (br_f g0 (br_t g1 ⟨hv, fY _ (br_f fw_n1le ⟨rfl, hI⟩)⟩)))⟩)
      · exact hX _ (br_t rfl (br_f g0 (br_t g1 ⟨hv, fY _ (br_f fw_n1le ⟨rfl, hI⟩)⟩)))
    · obtain ⟨a, ha, e2⟩ := hTA i
      obtain ⟨b, hb, e3⟩ := hTB i
      rw [m2] at e2
      rw [m3] at e3
      subst e2 e3
      obtain ⟨p, hp, eP⟩ := hP l
      obtain ⟨q, hq, eQ⟩ := hQ l
      have hv2 : vp_in (nI i) 20 := vp_in_nI (by omega) (by decide)
      have hc2 : (nI i).toNatClampNeg = i := nI_clamp (by omega)
      have eA : nI a + P l = nI (a + p) := by rw [eP, nI_add]
      have eB : nI b + Q l = nI (b + q) := by rw [eQ, nI_add]
      refine fw_tmX ha hb (br_f fw_10 ⟨hv, fX _ (br_f (fw_n1 (by omega)) ⟨hv, nm_r eA ⟨hv, nm_r eB ?_⟩⟩)⟩)
      rcases fw_tm (nI (a + p)) (nI (b + q)) with ⟨a', b', ha', hb', e1, e2⟩ | ⟨hX, hY, _⟩
      · rw [e1, e2]
        refine fw_tmX ha' hb' (br_f fw_10 ⟨hv, fw_setT (by omega) (br_f g0 (br_t g1 ⟨hv, fY _ (br_t (nI_pos' (by omega)) ⟨hv, hv, ?_⟩)⟩))⟩)
        rw [hc, eA, eB, e1, e2]
        exact fw_tmY ha' hb' (br_t rfl ⟨hv, hv2, nm_r (e' := upd TP i (To l)) (by rw [hc2]) ⟨hv, hv2, nm_r (e' := upd TA i (nI a')) (by rw [hc2]) ⟨hv, hv2, nm_r (e' := upd TB i (nI b')) (by rw [hc2]) ⟨rfl, fw_rel ⟨hL, hT, hF, hTo, hP, hQ, fw_rgV hTP hTo, fw_rgU hTA ha' rfl, fw_rgU hTB hb' rfl⟩ hlq⟩⟩⟩⟩)
      · refine hX _ (br_t rfl (br_f g0 (br_t g1 ⟨hv, fY _ (br_t (nI_pos' (by omega)) ⟨hv, hv, ?_⟩)⟩)))
        rw [hc, eA, eB]
        exact hY _ (br_f fw_10 ⟨rfl, hI⟩)
  · exact hX _ (br_t rfl (hY _ _ _ (br_f fw_n1le ⟨rfl, hI⟩) (br_f fw_n1le ⟨rfl, hI⟩)))
end FWH
end
section
section FWI
/-! O: what only asks -/
theorem fw_okT {L T : Nat} {F To P Q TP TA TB : Nat → Int32} (hO : fw_Ok L T F To P Q TP TA TB) : (∀ i, fw_nv To i < 7) ∧ (∀ i, fw_nv P i ≤ 3) ∧ (∀ i, fw_nv Q i ≤ 3) ∧ ∀ i, fw_nv TP i < 7 :=
  ⟨fun i => (fw_rg hO.2.2.2.1 (by decide) i).1, fun i => Nat.le_of_lt_succ (fw_rg hO.2.2.2.2.1 (by decide) i).1, fun i => Nat.le_of_lt_succ (fw_rg hO.2.2.2.2.2.1 (by decide) i).1, fun i => (fw_rg hO.2.2.2.2.2.2.1 (by decide) i).1⟩
theorem i_vc_possible {k : Nat} {u : SX} {v : SY} (I : i_Rel k u v) (hk : k + 5 ≤ 2560) (v1 : Int32) (v2 : Int32) (v3 : Int32) : wpX_possible (fun r u' => wpY_possible (fun r' v' => r' = r ∧ i_Rel (k + 5) u' v') v v1 v2 v3) u v1 v2 v3 := by
  obtain ⟨L, T, F, To, P, Q, TP, TA, TB, lq, ft, th, rfl, rfl, hO, hlq⟩ := I
  have hI : i_Rel (k + 5) (nI L, nI T, F, To, P, Q, TP, TA, TB, lq, ft) (nI L, nI T, F, To, P, Q, TP, TA, TB, th) := fw_rel hO hlq
  obtain ⟨g1, g2, g3, g4⟩ := fw_okT hO
  unfold wpX_possible wpY_possible
  dsimp only
  rcases fw_pl v1 with ⟨x, hx, rfl⟩ | ⟨hX, hY, _⟩
  · rcases fw_tm v2 v3 with ⟨a, b, ha, hb, rfl, rfl⟩ | ⟨hX, hY, _⟩
    · refine fw_plX hx (br_f fw_10 (fw_tmX ha hb (br_f fw_10 (fw_find hO hlq hx (fun D hD hG => fw_eb hO hD ha ?_)))))
      have hm : fw_eB (fw_nv D) (fw_nv TP) (fw_nv TA) (fw_nv TB) T a ≤ 1000 := fw_mn_C _
      have hle := fw_eB_le (tp := fw_nv TP) (ta := fw_nv TA) (tb := fw_nv TB) (T := T) g1 g2 g3 hG g4 (a := a) (b := b) (by omega) (by omega)
      refine pk_lt b (fw_eB (fw_nv D) (fw_nv TP) (fw_nv TA) (fw_nv TB) T a) (fun c => ?_) (fun c => ?_) rfl rfl (by omega) (by omega)
      · exact fw_plY hx (br_t rfl (fw_tmY ha hb (br_t rfl (fw_st hO (fun th' h => fw_below0 hx (by omega) (by omega) h (fun z => absurd (hle.mpr z) (by omega)) (fun _ => br_t rfl ⟨rfl, fw_rel hO hD⟩))))))
      · exact fw_plY hx (br_t rfl (fw_tmY ha hb (br_t rfl (fw_st hO (fun th' h => fw_below0 hx (by omega) (by omega) h (fun _ => br_f fw_10 ⟨rfl, fw_rel hO hD⟩) (fun z => absurd (hle.mp c) z))))))
    · exact fw_plX hx (br_f fw_10 (hX _ (br_t rfl (fw_plY hx (br_t rfl (hY _ (br_f fw_10 ⟨rfl, hI⟩)))))))
  · exact hX _ (br_t rfl (hY _ (br_f fw_10 ⟨rfl, hI⟩)))
theorem i_vc_ready {k : Nat} {u : SX} {v : SY} (I : i_Rel k u v) (hk : k + 5 ≤ 2560) (v1 : Int32) (v2 : Int32) (v3 : Int32) : wpX_ready (fun r u' => wpY_ready (fun r' v' => r' = r ∧ i_Rel (k + 5) u' v') v v1 v2 v3) u v1 v2 v3 := by
  obtain ⟨L, T, F, To, P, Q, TP, TA, TB, lq, ft, th, rfl, rfl, hO, hlq⟩ := I
  have hI : i_Rel (k + 5) (nI L, nI T, F, To, P, Q, TP, TA, TB, lq, ft) (nI L, nI T, F, To, P, Q, TP, TA, TB, th) := fw_rel hO hlq
  obtain ⟨g1, g2, g3, g4⟩ := fw_okT hO
  obtain ⟨r, fX, fY, hr⟩ := fw_fn (L := L) (F := F) (To := To) (P := P) (Q := Q) (TP := TP) (TA := TA) (TB := TB) (D := lq) (ft := ft) (th := th) v1 v2 v3 hO.2.1
  unfold wpX_ready wpY_ready
  dsimp only
  rcases fw_pl v1 with ⟨x, hx, rfl⟩ | ⟨hX, hY, _⟩
  · rcases fw_tm v2 v3 with ⟨a, b, ha, hb, rfl, rfl⟩ | ⟨hX, hY, _⟩
    · refine fw_plX hx (br_f fw_10 (fw_tmX ha hb (br_f fw_10 (fX _ ?_))))
      have hT := hO.2.1
      rcases hr with ⟨rfl, hno⟩ | ⟨i, hi, rfl, _⟩
      · exact br_t rfl (fw_plY hx (br_t rfl (fw_tmY ha hb (br_t rfl (fY _ (br_f fw_n1le ⟨rfl, hI⟩))))))
      · refine br_f (fw_n1 (by omega)) (fw_find hO hlq hx (fun D hD hG => ⟨T + 1, fw_xr38 hO hD ha hb (fun hall => ?_) (fun hex => ?_) T 0 (by omega) (fun i hi => absurd hi (Nat.not_lt_zero i))⟩))
        · have hB := fw_readyB (T := T) (tp := fw_nv TP) (ta := fw_nv TA) (tb := fw_nv TB) (K := fw_K TP TA TB x a b) g1 g2 g3 hG g4 (a := a) (b := b) (by omega) (by omega)
          refine fw_plY hx (br_t rfl (fw_tmY ha hb (br_t rfl (fY _ (br_t (nI_pos' (by omega)) (fw_empty (fun th' h0 => ⟨T + 1, fw_yr36 hO hx ha hb (fun _ th2 => ⟨rfl, fw_rel hO hD⟩) (fun z => ?_) T 0 th' (by omega) (fw_is0 h0 fw_tok0)⟩)))))))
          obtain ⟨i, h1, h2, h3⟩ := hB.mpr z
          exact absurd (hall i h1 h2) (by omega)
        · have hB := fw_readyB (T := T) (tp := fw_nv TP) (ta := fw_nv TA) (tb := fw_nv TB) (K := fw_K TP TA TB x a b) g1 g2 g3 hG g4 (a := a) (b := b) (by omega) (by omega)
          exact fw_plY hx (br_t rfl (fw_tmY ha hb (br_t rfl (fY _ (br_t (nI_pos' (by omega)) (fw_empty (fun th' h0 => ⟨T + 1, fw_yr36 hO hx ha hb (fun z => absurd (hB.mp hex) z) (fun _ th2 => ⟨rfl, fw_rel hO hD⟩) T 0 th' (by omega) (fw_is0 h0 fw_tok0)⟩)))))))
    · exact fw_plX hx (br_f fw_10 (hX _ (br_t rfl (fw_plY hx (br_t rfl (hY _ (br_f fw_10 ⟨rfl, hI⟩)))))))
  · exact hX _ (br_t rfl (hY _ (br_f fw_10 ⟨rfl, hI⟩)))
theorem fw_pmF {L T : Nat} {F To P Q TP TA TB : Nat → Int32} {D : Nat → Int32} {pl : Nat} (hO : fw_Ok L T F To P Q TP TA TB) (hG : fw_Good L (fw_nv F) (fw_nv To) (fw_nv P) (fw_nv Q) pl (fw_nv D)) (a b : Nat) (ha : a < 16) (hb : b < 16) : fw_PM (fw_R L (fw_nv F) (fw_nv To) (fw_nv P) (fw_nv Q) (fw_tok T (fw_nv TP) (fw_nv TA) (fw_nv TB) (fun _ => True)) pl) a b ↔ fw_eB (fw_nv D) (fw_nv TP) (fw_nv TA) (fw_nv TB) T a = b ∧ b < fw_mn 16 (fw_eB (fw_nv D) (fw_nv TP) (fw_nv TA) (fw_nv TB) T) a := by
  obtain ⟨g1, g2, g3, g4⟩ := fw_okT hO
  exact fw_pm2 (Nat.le_refl 16) (fw_frontH g1 g2 g3 hG g4) ha hb
theorem fw_ct00 {C : Nat} {e : Nat → Nat} {K : Nat} : fw_ct C e (0 / K) (0 % K) = 0 := by
  rw [Nat.zero_div, Nat.zero_mod, fw_ct_0]
  rfl
theorem i_vc_front {k : Nat} {u : SX} {v : SY} (I : i_Rel k u v) (hk : k + 5 ≤ 2560) (v1 : Int32) : wpX_front (fun r u' => wpY_front (fun r' v' => r' = r ∧ i_Rel (k + 5) u' v') v v1) u v1 := by
  obtain ⟨L, T, F, To, P, Q, TP, TA, TB, lq, ft, th, rfl, rfl, hO, hlq⟩ := I
  have hI : i_Rel (k + 5) (nI L, nI T, F, To, P, Q, TP, TA, TB, lq, ft) (nI L, nI T, F, To, P, Q, TP, TA, TB, th) := fw_rel hO hlq
  unfold wpX_front wpY_front
  dsimp only
  rcases fw_pl v1 with ⟨x, hx, rfl⟩ | ⟨hX, hY, _⟩
  · refine fw_plX hx (br_f fw_10 (fw_fF hO hlq hx (fun D ft' hD hG hft => fw_plY hx (br_t rfl (fw_st hO (fun th' h => ⟨257, ?_⟩))))))
    have := fw_yf17 (T := T) (TP := TP) (TA := TA) (TB := TB) (F := F) (To := To) (P := P) (Q := Q) (post := fun r' v' => r' = nI (fw_cn 16 (fw_eB (fw_nv D) (fw_nv TP) (fw_nv TA) (fw_nv TB) T) 16) ∧ i_Rel (k + 5) (nI L, nI T, F, To, P, Q, TP, TA, TB, D, ft') v') hx h (fw_pmF hO hG) ⟨rfl, fw_rel hO hD⟩ 256 0 rfl
    rw [fw_ct00] at this
    exact this
  · exact hX _ (br_t rfl (hY _ (br_f fw_10 ⟨rfl, hI⟩)))
theorem i_vc_frontAt {k : Nat} {u : SX} {v : SY} (I : i_Rel k u v) (hk : k + 5 ≤ 2560) (v1 : Int32) (v2 : Int32) : wpX_frontAt (fun r u' => wpY_frontAt (fun r' v' => r' = r ∧ i_Rel (k + 5) u' v') v v1 v2) u v1 v2 := by
  obtain ⟨L, T, F, To, P, Q, TP, TA, TB, lq, ft, th, rfl, rfl, hO, hlq⟩ := I
  have hI : i_Rel (k + 5) (nI L, nI T, F, To, P, Q, TP, TA, TB, lq, ft) (nI L, nI T, F, To, P, Q, TP, TA, TB, th) := fw_rel hO hlq
  unfold wpX_frontAt wpY_frontAt
  dsimp only
  rcases fw_pl v1 with ⟨x, hx, rfl⟩ | ⟨hX, hY, _⟩
  · refine fw_plX hx (br_f fw_10 (fw_fF hO hlq hx (fun D ft' hD hG hft => ?_)))
    dsimp only
    have hcn := fw_cn_le (C := 16) (e := fw_eB (fw_nv D) (fw_nv TP) (fw_nv TA) (fw_nv TB) T) 16
    have key : ∀ r : Int32, (∀ a, a < 16 → fw_eB (fw_nv D) (fw_nv TP) (fw_nv TA) (fw_nv TB) T a < fw_mn 16 (fw_eB (fw_nv D) (fw_nv TP) (fw_nv TA) (fw_nv TB) T) a → nI (fw_cn 16 (fw_eB (fw_nv D) (fw_nv TP) (fw_nv TA) (fw_nv TB) T) a) = v2 → nI (16 * a + fw_eB (fw_nv D) (fw_nv TP) (fw_nv TA) (fw_nv TB) T a) = r) → ((∀ j, j < fw_cn 16 (fw_eB (fw_nv D) (fw_nv TP) (fw_nv TA) (fw_nv TB) T) 16 → ¬ nI j = v2) → -1 = r) → wpY_badPlace (fun r_1 => (r_1 = 0 → wpY_spreadTokens (fun u => match u with | (f_lines_4, f_tokens_5, a_froms_6, a_tos_7, a_firsts_8, a_seconds_9, a_places_10, a_as_11, a_bs_12, a_there_13) => ∃ n18 : Nat, wY_frontAt_18 (fun r' v' => r' = r ∧ i_Rel (k + 5) (nI L, nI T, F, To, P, Q, TP, TA, TB, D, ft') v') (nI x) v2 f_lines_4 f_tokens_5 a_froms_6 a_tos_7 a_firsts_8 a_seconds_9 a_places_10 a_as_11 a_bs_12 a_there_13 n18 0 0) (nI L, nI T, F, To, P, Q, TP, TA, TB, th)) ∧ (¬ r_1 = 0 → (-1 = r ∧ i_Rel (k + 5) (nI L, nI T, F, To, P, Q, TP, TA, TB, D, ft') (nI L, nI T, F, To, P, Q, TP, TA, TB, th)))) (nI x) := by
      intro r k1 k2
      refine fw_plY hx (br_t rfl (fw_st hO (fun th' h => ⟨257, ?_⟩)))
      have := fw_yfa18 (T := T) (TP := TP) (TA := TA) (TB := TB) (F := F) (To := To) (P := P) (Q := Q) (post := fun r' v' => r' = r ∧ i_Rel (k + 5) (nI L, nI T, F, To, P, Q, TP, TA, TB, D, ft') v') (ix := v2) hx h (fw_pmF hO hG) (fun a h1 h2 h3 => ⟨k1 a h1 h2 h3, fw_rel hO hD⟩) (fun h1 => ⟨k2 h1, fw_rel hO hD⟩) 256 0 rfl (fun j hj => by rw [fw_ct00] at hj; exact absurd hj (Nat.not_lt_zero j))
      rw [fw_ct00] at this
      exact this
    rcases pk_ix v2 (n := fw_cn 16 (fw_eB (fw_nv D) (fw_nv TP) (fw_nv TA) (fw_nv TB) T) 16) (by omega) with h | h | ⟨j, hj, rfl⟩
    · refine br_t h (key (-1) (fun a h1 h2 h3 => ?_) (fun _ => rfl))
      rw [← h3] at h
      exact absurd h (nI_pos (by have := fw_cn_le (C := 16) (e := fw_eB (fw_nv D) (fw_nv TP) (fw_nv TA) (fw_nv TB) T) a; omega))
    · have h0 : ¬ v2 < 0 := Int32.not_lt.mpr (Int32.le_trans (nI_pos' (by omega)) h)
      refine br_f h0 (br_f (Int32.not_lt.mpr h) (key (-1) (fun a h1 h2 h3 => ?_) (fun _ => rfl)))
      rw [← h3] at h
      exact absurd h (nI_ge (fw_cnM h2 16 h1) (by omega))
    · have hc : (nI j).toNatClampNeg = j := nI_clamp (by omega)
      refine br_f (nI_pos (by omega)) (br_t (nI_lt hj (by omega)) ⟨vp_in_nI (by omega) (by decide), key _ (fun a h1 h2 h3 => ?_) (fun h1 => absurd rfl (h1 j hj))⟩)
      have := fw_cn_le (C := 16) (e := fw_eB (fw_nv D) (fw_nv TP) (fw_nv TA) (fw_nv TB) T) a
      have e := (nI_eq (by omega) (by omega)).mp h3
      rw [hc, ← e]
      exact (hft a h1 h2).symm
  · exact hX _ (br_t rfl (hY _ (br_f fw_10 ⟨rfl, hI⟩)))
theorem i_vc_shortest {k : Nat} {u : SX} {v : SY} (I : i_Rel k u v) (hk : k + 5 ≤ 2560) (v1 : Int32) (v2 : Int32) : wpX_shortest (fun r u' => wpY_shortest (fun r' v' => r' = r ∧ i_Rel (k + 5) u' v') v v1 v2) u v1 v2 := by
  obtain ⟨L, T, F, To, P, Q, TP, TA, TB, lq, ft, th, rfl, rfl, hO, hlq⟩ := I
  have hI : i_Rel (k + 5) (nI L, nI T, F, To, P, Q, TP, TA, TB, lq, ft) (nI L, nI T, F, To, P, Q, TP, TA, TB, th) := fw_rel hO hlq
  obtain ⟨g1, g2, g3, g4⟩ := fw_okT hO
  unfold wpX_shortest wpY_shortest
  dsimp only
  rcases fw_pl v1 with ⟨x, hx, rfl⟩ | ⟨hX, hY, _⟩
  · rcases fw_pl v2 with ⟨y, hy, rfl⟩ | ⟨hX, hY, _⟩
    · refine fw_plX hx (br_f fw_10 (fw_plX hy (br_f fw_10 (fw_find hO hlq hy (fun D hD hG => ⟨20, ?_⟩)))))
      refine fw_xs31 (ft := ft) hx hD ?_ 19 0 rfl
      refine fw_plY hx (br_t rfl (fw_plY hy (br_t rfl (fw_empty (fun th1 h1 => fw_set (a := 0) (b := 0) hx (by decide) (by decide) (fw_spr hO (I := fw_one x) (fun _ _ _ z => by rw [z.1]; exact hx) (fw_isU (S := fun _ _ _ => False) (by decide) (by decide) (fw_is0 h1 (fun _ _ _ z => z)) (fun _ _ _ => ⟨fun z => Or.inr z, fun z => z.elim False.elim (fun z => z)⟩)) (fun th2 h2 => ⟨362, ?_⟩)))))))
      have := fw_ys36 (L := L) (T := T) (TP := TP) (TA := TA) (TB := TB) (F := F) (To := To) (P := P) (Q := Q) (post := fun r' v' => r' = nI (fw_cn 1000 (fun s => fw_nv D (x * 19 + s)) 19) ∧ i_Rel (k + 5) (nI L, nI T, F, To, P, Q, TP, TA, TB, D, ft) v') (e := fun s => fw_nv D (x * 19 + s)) hy h2 (fun a ha h => fw_shortB g1 g2 g3 hG hx ha h) (fun a b ha hb => fw_pm2 (by decide) (fw_shortH g1 g2 g3 hG hx) ha hb) ⟨rfl, fw_rel hO hD⟩ 361 0 rfl
      rw [fw_ct00] at this
      exact this
    · exact fw_plX hx (br_f fw_10 (hX _ (br_t rfl (fw_plY hx (br_t rfl (hY _ (br_f fw_10 ⟨rfl, hI⟩)))))))
  · exact hX _ (br_t rfl (hY _ (br_f fw_10 ⟨rfl, hI⟩)))
end FWI
end
