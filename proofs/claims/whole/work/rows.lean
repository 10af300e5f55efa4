section
section FWA
/-! A: numbers, stores (the rows named pk_ are pasted from the rows to paste) -/
theorem pk_us {f : Nat → Int32} {k : Nat} {x : Int32} : upd f k x k = x := if_pos rfl
theorem pk_un {f : Nat → Int32} {k j : Nat} {x : Int32} (h : j ≠ k) : upd f k x j = f j := if_neg h
theorem pk_sub {a b : Nat} (h : b ≤ a) : nI a - nI b = nI (a - b) := by
  obtain ⟨c, rfl⟩ : ∃ c, a = c + b := ⟨a - b, by omega⟩
  rw [← nI_add, Int32.add_sub_cancel, Nat.add_sub_cancel]
theorem pk_mul (a b : Nat) : nI a * nI b = nI (a * b) := (Int32.ofNat_mul a b).symm
theorem pk_div {a d : Nat} (ha : a < 2 ^ 31) (h0 : 0 < d) (hd : d < 2 ^ 31) : nI a / nI d = nI (a / d) := by
  apply Int32.toInt_inj.mp
  rw [lg_idiv_nonneg (by rw [nI_toInt ha]; omega) (by rw [nI_toInt hd]; omega), nI_toInt ha, nI_toInt hd, nI_toInt (Nat.lt_of_le_of_lt (Nat.div_le_self a d) ha)]
  first | rfl | exact (Int.natCast_ediv _ _).symm
theorem pk_rem {a d : Nat} (ha : a < 2 ^ 31) (h0 : 0 < d) (hd : d < 2 ^ 31) : nI a - nI a / nI d * nI d = nI (a % d) := by
  rw [pk_div ha h0 hd, pk_mul, pk_sub (Nat.div_mul_le_self a d)]
  exact congrArg nI (by have := Nat.div_add_mod' a d; omega)
theorem pk_sub_toInt {a b : Nat} (ha : a < 2 ^ 30) (hb : b < 2 ^ 30) : (nI a - nI b).toInt = (a : Int) - b := by
  rw [Int32.toInt_sub, nI_toInt (by omega), nI_toInt (by omega)]
  exact Int.bmod_eq_of_le (by omega) (by omega)
theorem pk_sneg {a b : Nat} (hb : b < 2 ^ 30) (h : a < b) : nI a - nI b < 0 := by
  rw [Int32.lt_iff_toInt_lt, pk_sub_toInt (by omega) hb, show (0 : Int32).toInt = 0 from by decide]
  omega
theorem pk_ix (x : Int32) {n : Nat} (hn : n < 2 ^ 31) : x < 0 ∨ nI n ≤ x ∨ ∃ j : Nat, j < n ∧ x = nI j := by
  by_cases h : x < 0
  · exact Or.inl h
  · obtain ⟨j, hj, rfl⟩ := nI_of h
    by_cases h2 : j < n
    · exact Or.inr (Or.inr ⟨j, h2, rfl⟩)
    · exact Or.inr (Or.inl (nI_le (by omega) hj))
theorem pk_le {x y : Int32} {A B : Prop} (a b : Nat) (f : a ≤ b → A) (g : b < a → B) (hx : x = nI a := by rfl) (hy : y = nI b := by rfl) (ha : a < 2 ^ 31 := by omega) (hb : b < 2 ^ 31 := by omega) : (x ≤ y → A) ∧ (¬ x ≤ y → B) := by
  subst hx hy
  rw [nI_leI ha hb]
  exact ⟨f, fun z => g (by omega)⟩
theorem pk_lt {x y : Int32} {A B : Prop} (a b : Nat) (f : a < b → A) (g : b ≤ a → B) (hx : x = nI a := by rfl) (hy : y = nI b := by rfl) (ha : a < 2 ^ 31 := by omega) (hb : b < 2 ^ 31 := by omega) : (x < y → A) ∧ (¬ x < y → B) := by
  subst hx hy
  rw [nI_ltI ha hb]
  exact ⟨f, fun z => g (by omega)⟩
theorem pk_eq {x y : Int32} {A B : Prop} (a b : Nat) (f : a = b → A) (g : a ≠ b → B) (hx : x = nI a := by rfl) (hy : y = nI b := by rfl) (ha : a < 2 ^ 31 := by omega) (hb : b < 2 ^ 31 := by omega) : (x = y → A) ∧ (¬ x = y → B) := by
  subst hx hy
  rw [nI_eq ha hb]
  exact ⟨f, g⟩
theorem pk_in {x : Int32} (n N : Nat) (h : n < N) (hx : x = nI n := by rfl) (hN : N < 2 ^ 31 := by omega) : vp_in x N := by
  subst hx
  exact vp_in_nI h hN
theorem pk_cl {x : Int32} (n : Nat) (hx : x = nI n := by rfl) (h : n < 2 ^ 31 := by omega) : x.toNatClampNeg = n := by
  subst hx
  exact nI_clamp h
theorem fw_b0 : vp_nar .boolean 0 = 0 := by decide
theorem fw_b1 : vp_nar .boolean 1 = 1 := by decide
theorem fw_10 : ¬ (1 : Int32) = 0 := by decide
theorem fw_n1le : ¬ (0 : Int32) ≤ -1 := by decide
theorem fw_n1 {a : Nat} (h : a < 2 ^ 31) : ¬ nI a = -1 := by
  intro e
  have := nI_pos (n := a) h
  rw [e] at this
  exact this (by decide)
theorem fw_p1 {n : Nat} (h : 0 < n) : nI n - 1 = nI (n - 1) := by
  obtain ⟨m, rfl⟩ : ∃ m, n = m + 1 := ⟨n - 1, by omega⟩
  exact nI_pred m
def fw_nv (F : Nat → Int32) (i : Nat) : Nat := (F i).toNatClampNeg
def fw_Rg (F : Nat → Int32) (m : Nat) : Prop := ∀ i, ∃ n, n < m ∧ F i = nI n
theorem fw_rg {F : Nat → Int32} {m : Nat} (h : fw_Rg F m) (hm : m ≤ 2000) (i : Nat) : fw_nv F i < m ∧ F i = nI (fw_nv F i) := by
  obtain ⟨n, hn, e⟩ := h i
  have : fw_nv F i = n := by
    unfold fw_nv
    rw [e, nI_clamp (by omega)]
  rw [this]
  exact ⟨hn, e⟩
theorem fw_rgU {F : Nat → Int32} {m k n : Nat} {x : Int32} (h : fw_Rg F m) (hn : n < m) (hx : x = nI n) : fw_Rg (upd F k x) m := by
  intro i
  by_cases e : i = k
  · subst e
    exact ⟨n, hn, by rw [pk_us]; exact hx⟩
  · rw [pk_un e]
    exact h i
theorem fw_rgV {F H : Nat → Int32} {m k j : Nat} (h : fw_Rg F m) (h' : fw_Rg H m) : fw_Rg (upd F k (H j)) m := by
  obtain ⟨n, hn, e⟩ := h' j
  exact fw_rgU h hn e
theorem fw_rg0 {m : Nat} (h : 0 < m) : fw_Rg (fun _ => 0) m := fun _ => ⟨0, h, rfl⟩
theorem fw_nvS {F : Nat → Int32} {k n : Nat} {x : Int32} (hx : x = nI n) (hn : n < 2 ^ 31) : fw_nv (upd F k x) k = n := by
  unfold fw_nv
  rw [pk_us, hx, nI_clamp hn]
theorem fw_nvN {F : Nat → Int32} {k j : Nat} {x : Int32} (h : j ≠ k) : fw_nv (upd F k x) j = fw_nv F j := by
  unfold fw_nv
  rw [pk_un h]
/-! B: least values, counts of new least ones -/
def fw_mn (C : Nat) (g : Nat → Nat) : Nat → Nat
  | 0 => C
  | n + 1 => if g n < fw_mn C g n then g n else fw_mn C g n
theorem fw_mn_lt {C : Nat} {g : Nat → Nat} {v : Nat} : ∀ n, v < fw_mn C g n ↔ v < C ∧ ∀ i, i < n → v < g i
  | 0 => ⟨fun h => ⟨h, fun i hi => absurd hi (Nat.not_lt_zero i)⟩, fun h => h.1⟩
  | n + 1 => by
    have ih := fw_mn_lt (C := C) (g := g) (v := v) n
    show v < (if g n < fw_mn C g n then g n else fw_mn C g n) ↔ _
    constructor
    · intro h
      have h2 : v < fw_mn C g n ∧ v < g n := by
        split at h <;> omega
      refine ⟨(ih.mp h2.1).1, fun i hi => ?_⟩
      by_cases e : i = n
      · rw [e]; exact h2.2
      · exact (ih.mp h2.1).2 i (by omega)
    · intro h
      have h1 : v < fw_mn C g n := ih.mpr ⟨h.1, fun i hi => h.2 i (by omega)⟩
      have h2 := h.2 n (by omega)
      split <;> omega
theorem fw_mn_le {C : Nat} {g : Nat → Nat} {b n : Nat} (hb : b < C) : fw_mn C g n ≤ b ↔ ∃ i, i < n ∧ g i ≤ b := by
  have h := fw_mn_lt (C := C) (g := g) (v := b) n
  constructor
  · intro hl
    apply Classical.byContradiction
    intro hn
    have : b < fw_mn C g n := h.mpr ⟨hb, fun i hi => by
      apply Classical.byContradiction
      intro hc
      exact hn ⟨i, hi, by omega⟩⟩
    omega
  · rintro ⟨i, hi, hg⟩
    apply Classical.byContradiction
    intro hc
    have := (h.mp (by omega)).2 i hi
    omega
theorem fw_mn_C {C : Nat} {g : Nat → Nat} : ∀ n, fw_mn C g n ≤ C
  | 0 => Nat.le_refl C
  | n + 1 => by
    have ih := fw_mn_C (C := C) (g := g) n
    show (if g n < fw_mn C g n then g n else fw_mn C g n) ≤ C
    split <;> omega
def fw_cn (C : Nat) (e : Nat → Nat) : Nat → Nat
  | 0 => 0
  | n + 1 => if e n < fw_mn C e n then fw_cn C e n + 1 else fw_cn C e n
theorem fw_cn_le {C : Nat} {e : Nat → Nat} : ∀ n, fw_cn C e n ≤ n
  | 0 => Nat.le_refl 0
  | n + 1 => by
    have ih := fw_cn_le (C := C) (e := e) n
    show (if e n < fw_mn C e n then fw_cn C e n + 1 else fw_cn C e n) ≤ n + 1
    split <;> omega
def fw_ct (C : Nat) (e : Nat → Nat) (a b : Nat) : Nat := if e a < fw_mn C e a ∧ e a < b then fw_cn C e a + 1 else fw_cn C e a
theorem fw_ct_0 {C : Nat} {e : Nat → Nat} {a : Nat} : fw_ct C e a 0 = fw_cn C e a := by
  unfold fw_ct
  rw [if_neg (by omega)]
theorem fw_ct_K {C K : Nat} {e : Nat → Nat} {a : Nat} (h : e a < fw_mn C e a → e a < K) : fw_ct C e a K = fw_cn C e (a + 1) := by
  unfold fw_ct
  show _ = if e a < fw_mn C e a then fw_cn C e a + 1 else fw_cn C e a
  by_cases c : e a < fw_mn C e a
  · rw [if_pos ⟨c, h c⟩, if_pos c]
  · rw [if_neg (by omega), if_neg c]
theorem fw_ct_s {C : Nat} {e : Nat → Nat} {a b : Nat} : fw_ct C e a (b + 1) = if e a = b ∧ b < fw_mn C e a then fw_ct C e a b + 1 else fw_ct C e a b := by
  unfold fw_ct
  by_cases c : e a < fw_mn C e a
  · by_cases c1 : e a < b
    · rw [if_pos ⟨c, by omega⟩, if_neg (by omega), if_pos ⟨c, c1⟩]
    · by_cases c2 : e a = b
      · rw [if_pos ⟨c, by omega⟩, if_pos ⟨c2, by omega⟩, if_neg (by omega)]
      · rw [if_neg (by omega), if_neg (by omega), if_neg (by omega)]
  · rw [if_neg (by omega), if_neg (by omega), if_neg (by omega)]
theorem fw_ct_eq {C : Nat} {e : Nat → Nat} {a b : Nat} (h : e a = b) : fw_ct C e a b = fw_cn C e a := by
  unfold fw_ct
  rw [if_neg (by omega)]
/-- the least times: those that no other time is below -/
def fw_PM (R : Nat → Nat → Prop) (a b : Nat) : Prop := R a b ∧ ¬ ∃ x y, x ≤ a ∧ y ≤ b ∧ R x y ∧ ¬ (x = a ∧ y = b)
theorem fw_pm {R : Nat → Nat → Prop} {e : Nat → Nat} {K : Nat} (H : ∀ a b, a < K → b < K → ((∃ s, s ≤ a ∧ e s ≤ b) ↔ ∃ x y, x ≤ a ∧ y ≤ b ∧ R x y)) {a b : Nat} (ha : a < K) (hb : b < K) : fw_PM R a b ↔ e a = b ∧ ∀ i, i < a → b < e i := by
  constructor
  · rintro ⟨h1, h2⟩
    obtain ⟨s, hs, hes⟩ := (H a b ha hb).mpr ⟨a, b, Nat.le_refl a, Nat.le_refl b, h1⟩
    obtain ⟨x, y, hx, hy, hr⟩ := (H s (e s) (by omega) (by omega)).mp ⟨s, Nat.le_refl s, Nat.le_refl _⟩
    have hxy : x = a ∧ y = b := by
      apply Classical.byContradiction
      intro hn
      exact h2 ⟨x, y, by omega, by omega, hr, hn⟩
    have hsa : s = a := by omega
    subst hsa
    refine ⟨by omega, fun i hi => ?_⟩
    apply Classical.byContradiction
    intro hc
    obtain ⟨x', y', hx', hy', hr'⟩ := (H i b (by omega) hb).mp ⟨i, Nat.le_refl i, by omega⟩
    exact h2 ⟨x', y', by omega, hy', hr', by omega⟩
  · rintro ⟨h1, h2⟩
    have key : ∀ x y, x ≤ a → y ≤ b → R x y → x = a ∧ y = b := by
      intro x y hx hy hr
      obtain ⟨s, hs, hes⟩ := (H x y (by omega) (by omega)).mpr ⟨x, y, Nat.le_refl x, Nat.le_refl y, hr⟩
      by_cases c : s < a
      · have := h2 s c
        omega
      · have : s = a := by omega
        subst this
        omega
    obtain ⟨x, y, hx, hy, hr⟩ := (H a b ha hb).mp ⟨a, Nat.le_refl a, by omega⟩
    obtain ⟨rfl, rfl⟩ := key x y hx hy hr
    exact ⟨hr, fun ⟨x', y', hx', hy', hr', hn⟩ => hn (key x' y' hx' hy' hr')⟩
theorem fw_pm2 {R : Nat → Nat → Prop} {e : Nat → Nat} {K C : Nat} (hC : K ≤ C) (H : ∀ a b, a < K → b < K → ((∃ s, s ≤ a ∧ e s ≤ b) ↔ ∃ x y, x ≤ a ∧ y ≤ b ∧ R x y)) {a b : Nat} (ha : a < K) (hb : b < K) : fw_PM R a b ↔ e a = b ∧ b < fw_mn C e a := by
  rw [fw_pm H ha hb, fw_mn_lt]
  constructor
  · rintro ⟨h1, h2⟩
    exact ⟨h1, by omega, h2⟩
  · rintro ⟨h1, _, h2⟩
    exact ⟨h1, h2⟩
end FWA
end
section
section FWB
/-! C: ways -/
def fw_W (L : Nat) (f t p q : Nat → Nat) : Nat → Nat → Nat → Nat → Nat → Prop
  | 0, x, y, s, r => x = y ∧ s = 0 ∧ r = 0
  | n + 1, x, y, s, r => ∃ l, l < L ∧ f l = x ∧ ∃ s' r', fw_W L f t p q n (t l) y s' r' ∧ s = p l + s' ∧ r = q l + r'
def fw_V (L : Nat) (f t p q : Nat → Nat) (S : List Nat) : Nat → Nat → Nat → Nat → Nat → Prop
  | 0, x, y, s, r => x ∈ S ∧ x = y ∧ s = 0 ∧ r = 0
  | n + 1, x, y, s, r => x ∈ S ∧ ∃ l, l < L ∧ f l = x ∧ ∃ s' r', fw_V L f t p q S n (t l) y s' r' ∧ s = p l + s' ∧ r = q l + r'
variable {L : Nat} {f t p q : Nat → Nat}
theorem fw_app {l : Nat} (hl : l < L) : ∀ (n x s r : Nat), fw_W L f t p q n x (f l) s r → fw_W L f t p q (n + 1) x (t l) (s + p l) (r + q l) := by
  intro n
  induction n with
  | zero =>
    rintro x s r ⟨h1, h2, h3⟩
    exact ⟨l, hl, h1.symm, 0, 0, ⟨rfl, rfl, rfl⟩, by omega, by omega⟩
  | succ n ih =>
    rintro x s r ⟨l', h1, h2, s', r', h3, h4, h5⟩
    exact ⟨l', h1, h2, s' + p l, r' + q l, ih _ _ _ h3, by omega, by omega⟩
theorem fw_bnd (hp : ∀ i, p i ≤ 3) (hq : ∀ i, q i ≤ 3) : ∀ (n x y s r : Nat), fw_W L f t p q n x y s r → s ≤ 3 * n ∧ r ≤ 3 * n := by
  intro n
  induction n with
  | zero =>
    rintro x y s r ⟨h1, h2, h3⟩
    omega
  | succ n ih =>
    rintro x y s r ⟨l', h1, h2, s', r', h3, h4, h5⟩
    have := ih _ _ _ _ h3
    have := hp l'
    have := hq l'
    omega
theorem fw_toV (S : List Nat) (ht : ∀ i, t i ∈ S) : ∀ (n x y s r : Nat), x ∈ S → fw_W L f t p q n x y s r → fw_V L f t p q S n x y s r := by
  intro n
  induction n with
  | zero =>
    rintro x y s r hx h
    exact ⟨hx, h⟩
  | succ n ih =>
    rintro x y s r hx ⟨l', h1, h2, s', r', h3, h4, h5⟩
    exact ⟨hx, l', h1, h2, s', r', ih _ _ _ _ (ht l') h3, h4, h5⟩
def fw_Q (L : Nat) (f t p q : Nat → Nat) (S : List Nat) (v y s r : Nat) : Prop :=
  v = y ∨ ∃ l, l < L ∧ f l = v ∧ ∃ m s' r', fw_V L f t p q (S.filter (fun z => decide (z ≠ v))) m (t l) y s' r' ∧ p l + s' ≤ s ∧ q l + r' ≤ r
theorem fw_last (S : List Nat) (v : Nat) : ∀ (n x y s r : Nat), fw_V L f t p q S n x y s r → fw_V L f t p q (S.filter (fun z => decide (z ≠ v))) n x y s r ∨ fw_Q L f t p q S v y s r := by
  intro n
  induction n with
  | zero =>
    rintro x y s r ⟨h1, h2, h3⟩
    by_cases e : x = v
    · exact Or.inr (Or.inl (by omega))
    · exact Or.inl ⟨List.mem_filter.mpr ⟨h1, by simp [e]⟩, h2, h3⟩
  | succ n ih =>
    rintro x y s r ⟨hx, l', h1, h2, s', r', h3, h4, h5⟩
    cases ih _ _ _ _ h3 with
    | inl h =>
      by_cases e : x = v
      · exact Or.inr (Or.inr ⟨l', h1, by omega, n, s', r', h, by omega, by omega⟩)
      · exact Or.inl ⟨List.mem_filter.mpr ⟨hx, by simp [e]⟩, l', h1, h2, s', r', h, h4, h5⟩
    | inr h =>
      cases h with
      | inl h => exact Or.inr (Or.inl h)
      | inr h =>
        obtain ⟨l2, g1, g2, m, s2, r2, g3, g4, g5⟩ := h
        exact Or.inr (Or.inr ⟨l2, g1, g2, m, s2, r2, g3, by omega, by omega⟩)
theorem fw_flt {v : Nat} : ∀ (S : List Nat), v ∈ S → (S.filter (fun z => decide (z ≠ v))).length < S.length := by
  intro S
  induction S with
  | nil => intro h; cases h
  | cons a S ih =>
    intro h
    by_cases e : a = v
    · rw [List.filter_cons_of_neg (by simp [e])]
      have := List.length_filter_le (fun z => decide (z ≠ v)) S
      simp only [List.length_cons]
      omega
    · rw [List.filter_cons_of_pos (by simp [e])]
      have h2 : v ∈ S := by
        cases h with
        | head => exact absurd rfl e
        | tail _ h => exact h
      have := ih h2
      simp only [List.length_cons]
      omega
theorem fw_short : ∀ (k : Nat) (S : List Nat) (n x y s r : Nat), S.length ≤ k → fw_V L f t p q S n x y s r → ∃ m s' r', m + 1 ≤ k ∧ s' ≤ s ∧ r' ≤ r ∧ fw_W L f t p q m x y s' r' := by
  intro k
  induction k with
  | zero =>
    intro S n x y s r hk h
    have hx : x ∈ S := by cases n <;> exact h.1
    have : S = [] := List.eq_nil_of_length_eq_zero (by omega)
    rw [this] at hx
    cases hx
  | succ k ih =>
    intro S n x y s r hk h
    have hx : x ∈ S := by cases n <;> exact h.1
    cases fw_last S x n x y s r h with
    | inl h =>
      have hx' : x ∈ S.filter (fun z => decide (z ≠ x)) := by cases n <;> exact h.1
      have := (List.mem_filter.mp hx').2
      simp at this
    | inr h =>
      cases h with
      | inl h => exact ⟨0, 0, 0, by omega, by omega, by omega, h, rfl, rfl⟩
      | inr h =>
        obtain ⟨l2, g1, g2, m, s2, r2, g3, g4, g5⟩ := h
        have := fw_flt S hx
        obtain ⟨m', s3, r3, e1, e2, e3, e4⟩ := ih _ _ _ _ _ _ (by omega) g3
        exact ⟨m' + 1, p l2 + s3, q l2 + r3, by omega, by omega, by omega, l2, g1, g2, s3, r3, e4, rfl, rfl⟩
theorem fw_six (ht : ∀ i, t i < 7) {n x y s r : Nat} (hx : x < 7) (h : fw_W L f t p q n x y s r) : ∃ m s' r', m ≤ 6 ∧ s' ≤ s ∧ r' ≤ r ∧ fw_W L f t p q m x y s' r' := by
  obtain ⟨m, s', r', h1, h2⟩ := fw_short 7 (List.range 7) n x y s r (by simp) (fw_toV (List.range 7) (fun i => List.mem_range.mpr (ht i)) n x y s r (List.mem_range.mpr hx) h)
  exact ⟨m, s', r', by omega, h2⟩
/-! D: the table of least sums -/
def fw_Good (L : Nat) (f t p q : Nat → Nat) (to : Nat) (d : Nat → Nat) : Prop :=
  (∀ x s, x < 7 → s < 19 → d (x * 19 + s) < 1000 → ∃ n, fw_W L f t p q n x to s (d (x * 19 + s))) ∧ (∀ n x s r, n ≤ 6 → x < 7 → fw_W L f t p q n x to s r → d (x * 19 + s) ≤ r)
end FWB
end
