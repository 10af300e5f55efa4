section FWF
/-! I: Y's starts, below, inFront -/
theorem fw_isU {S S' : Nat → Nat → Nat → Prop} {th : Nat → Int32} {x a b : Nat} (ha : a < 19) (hb : b < 19) (h : fw_Is S th) (hS : ∀ x' a' b', S' x' a' b' ↔ S x' a' b' ∨ (x' = x ∧ a' = a ∧ b' = b)) : fw_Is S' (upd th (361 * x + 19 * a + b) 1) := by
  intro x' a' b' hx' ha' hb'
  rw [hS, ← h x' a' b' hx' ha' hb']
  by_cases c : x' = x ∧ a' = a ∧ b' = b
  · obtain ⟨rfl, rfl, rfl⟩ := c
    rw [pk_us]
    exact ⟨fun _ => Or.inr ⟨rfl, rfl, rfl⟩, fun _ => fw_10⟩
  · rw [pk_un (by omega)]
    exact ⟨fun g => Or.inl g, fun g => g.elim (fun z => z) (fun z => absurd z c)⟩
theorem fw_tokS {T : Nat} {tp ta tb : Nat → Nat} {K : Nat → Prop} (hK : K T) (x a b : Nat) : fw_tok (T + 1) tp ta tb K x a b ↔ fw_tok T tp ta tb K x a b ∨ (x = tp T ∧ a = ta T ∧ b = tb T) := by
  constructor
  · rintro ⟨i, h1, h2, h3⟩
    by_cases c : i = T
    · subst c; exact Or.inr h3
    · exact Or.inl ⟨i, by omega, h2, h3⟩
  · rintro (⟨i, h1, h2⟩ | h)
    · exact ⟨i, by omega, h2⟩
    · exact ⟨T, by omega, hK, h⟩
theorem fw_tokN {T : Nat} {tp ta tb : Nat → Nat} {K : Nat → Prop} (hK : ¬ K T) (x a b : Nat) : fw_tok (T + 1) tp ta tb K x a b ↔ fw_tok T tp ta tb K x a b := by
  constructor
  · rintro ⟨i, h1, h2, h3⟩
    by_cases c : i = T
    · subst c; exact absurd h2 hK
    · exact ⟨i, by omega, h2, h3⟩
  · rintro ⟨i, h1, h2⟩
    exact ⟨i, by omega, h2⟩
theorem fw_is0 {S : Nat → Nat → Nat → Prop} {th : Nat → Int32} (h : ∀ i, i < 2527 → th i = 0) (hS : ∀ x a b, ¬ S x a b) : fw_Is S th :=
  fun x a b hx ha hb => ⟨fun g => absurd (h _ (by omega)) g, fun g => absurd g (hS x a b)⟩
theorem fw_tok0 {tp ta tb : Nat → Nat} {K : Nat → Prop} (x a b : Nat) : ¬ fw_tok 0 tp ta tb K x a b := fun ⟨i, h, _⟩ => Nat.not_lt_zero i h
theorem fw_tok7 {T : Nat} {TP TA TB : Nat → Int32} {K : Nat → Prop} (hTP : fw_Rg TP 7) (x a b : Nat) (h : fw_tok T (fw_nv TP) (fw_nv TA) (fw_nv TB) K x a b) : x < 7 := by
  obtain ⟨i, _, _, rfl, _⟩ := h
  exact (fw_rg hTP (by decide) i).1
theorem fw_st6 {L T : Nat} {F To P Q TP TA TB : Nat → Int32} {post : SY → Prop} (hO : fw_Ok L T F To P Q TP TA TB) (hpost : ∀ th, fw_Is (fw_R L (fw_nv F) (fw_nv To) (fw_nv P) (fw_nv Q) (fw_tok T (fw_nv TP) (fw_nv TA) (fw_nv TB) (fun _ => True))) th → post (nI L, nI T, F, To, P, Q, TP, TA, TB, th)) :
    ∀ m j th, j + m = T → fw_Is (fw_tok j (fw_nv TP) (fw_nv TA) (fw_nv TB) (fun _ => True)) th → wY_spreadTokens_6 post (m + 1) (nI j) (nI L) (nI T) F To P Q TP TA TB th := by
  have hT := hO.2.1
  have hTP := hO.2.2.2.2.2.2.1
  have hTA := hO.2.2.2.2.2.2.2.1
  have hTB := hO.2.2.2.2.2.2.2.2
  intro m
  induction m with
  | zero =>
    intro j th hj h
    have : j = T := by omega
    subst this
    exact br_t (nI_le (Nat.le_refl j) (by omega)) (fw_spr hO (fw_tok7 hTP) h (fun th' h' => hpost th' h'))
  | succ m ih =>
    intro j th hj h
    have hv : vp_in (nI j) 20 := vp_in_nI (by omega) (by decide)
    have hc : (nI j).toNatClampNeg = j := nI_clamp (by omega)
    obtain ⟨a1, b1⟩ := fw_rg hTP (by decide) j
    obtain ⟨a2, b2⟩ := fw_rg hTA (by decide) j
    obtain ⟨a3, b3⟩ := fw_rg hTB (by decide) j
    refine br_f (nI_ge (by omega) (by omega)) ⟨hv, hv, hv, ?_⟩
    rw [hc, b1, b2, b3]
    exact fw_set a1 (by omega) (by omega) (nm_r (nI_1 j) (ih (j + 1) _ (by omega) (fw_isU (by omega) (by omega) h (fw_tokS trivial))))
theorem fw_st {L T : Nat} {F To P Q TP TA TB : Nat → Int32} {th : Nat → Int32} {post : SY → Prop} (hO : fw_Ok L T F To P Q TP TA TB) (hpost : ∀ th, fw_Is (fw_R L (fw_nv F) (fw_nv To) (fw_nv P) (fw_nv Q) (fw_tok T (fw_nv TP) (fw_nv TA) (fw_nv TB) (fun _ => True))) th → post (nI L, nI T, F, To, P, Q, TP, TA, TB, th)) : wpY_spreadTokens post (nI L, nI T, F, To, P, Q, TP, TA, TB, th) := by
  unfold wpY_spreadTokens
  dsimp only
  exact fw_empty (fun th' h => ⟨T + 1, fw_st6 hO hpost T 0 th' (by omega) (fw_is0 h fw_tok0)⟩)
/-! J: below -/
def fw_Hit (th : Nat → Int32) (pl a b : Nat) (o : Int32) (x y : Nat) : Prop := th (361 * pl + 19 * x + y) ≠ 0 ∧ ¬ (¬ o = 0 ∧ x = a ∧ y = b)
theorem fw_be12 {L T : Nat} {F To P Q TP TA TB : Nat → Int32} {th : Nat → Int32} {post : Int32 → Prop} {J3 : Int32 → Prop} {pl a b x : Nat} {o : Int32} (hpl : pl < 7) (ha : a < 19) (hb : b < 19) (hx : x ≤ a) (h1 : ∀ x y, x ≤ a → y ≤ b → fw_Hit th pl a b o x y → post 1) (hJ : (∀ y, y ≤ b → ¬ fw_Hit th pl a b o x y) → J3 (nI (x + 1))) :
    ∀ k y, y + k = b + 1 → (∀ y', y' < y → ¬ fw_Hit th pl a b o x y') → wY_below_12 post J3 (nI pl) (nI a) (nI b) o (nI x) (nI L) (nI T) F To P Q TP TA TB th (k + 1) (nI y) := by
  intro k
  induction k with
  | zero =>
    intro y hy h
    have : y = b + 1 := by omega
    subst this
    exact br_t (nI_lt (by omega) (by omega)) (nm_r (nI_1 x) (hJ (fun y hy => h y (by omega))))
  | succ k ih =>
    intro y hy h
    have hk : ¬ fw_Hit th pl a b o x y → ∀ z, z = nI y + 1 → wY_below_12 post J3 (nI pl) (nI a) (nI b) o (nI x) (nI L) (nI T) F To P Q TP TA TB th (k + 1) z := fun hn => nm_r (nI_1 y) (ih (y + 1) (by omega) (fun y' hy' => by
      by_cases c : y' = y
      · subst c; exact hn
      · exact h y' (by omega)))
    refine br_f (nI_nlt (by omega) (by omega)) ?_
    rw [fw_ix, nI_clamp (by omega)]
    refine ⟨vp_in_nI (by omega) (by decide), br_c (fun z => hk (fun g => g.1 z)) (fun z => br_c (fun ho => h1 x y hx (by omega) ⟨z, fun g => g.1 ho⟩) (fun ho => pk_eq x a (fun e1 => pk_eq y b (fun e2 => hk (fun g => g.2 ⟨ho, e1, e2⟩)) (fun e2 => h1 x y hx (by omega) ⟨z, fun g => e2 g.2.2⟩) rfl rfl (by omega) (by omega)) (fun e1 => h1 x y hx (by omega) ⟨z, fun g => e1 g.2.1⟩) rfl rfl (by omega) (by omega)))⟩
theorem fw_be3 {L T : Nat} {F To P Q TP TA TB : Nat → Int32} {th : Nat → Int32} {post : Int32 → Prop} {pl a b : Nat} {o : Int32} (hpl : pl < 7) (ha : a < 19) (hb : b < 19) (h1 : ∀ x y, x ≤ a → y ≤ b → fw_Hit th pl a b o x y → post 1) (h0 : (∀ x y, x ≤ a → y ≤ b → ¬ fw_Hit th pl a b o x y) → post 0) :
    ∀ k x, x + k = a + 1 → (∀ x' y, x' < x → y ≤ b → ¬ fw_Hit th pl a b o x' y) → wY_below_3 post (nI pl) (nI a) (nI b) o (nI L) (nI T) F To P Q TP TA TB th (k + 1) (nI x) := by
  intro k
  induction k with
  | zero =>
    intro x hx h
    have : x = a + 1 := by omega
    subst this
    exact br_t (nI_lt (by omega) (by omega)) (h0 (fun x y hx hy => h x y (by omega) hy))
  | succ k ih =>
    intro x hx h
    refine br_f (nI_nlt (by omega) (by omega)) ⟨b + 1 + 1, fw_be12 hpl ha hb (by omega) h1 (fun hn => ih (x + 1) (by omega) (fun x' y hx' hy => ?_)) (b + 1) 0 (by omega) (fun y' hy' => absurd hy' (Nat.not_lt_zero y'))⟩
    by_cases c : x' = x
    · subst c; exact hn y hy
    · exact h x' y (by omega) hy
theorem fw_below {L T : Nat} {F To P Q TP TA TB : Nat → Int32} {th : Nat → Int32} {post : Int32 → Prop} {pl a b : Nat} {o : Int32} (hpl : pl < 7) (ha : a < 19) (hb : b < 19) (h1 : (∃ x y, x ≤ a ∧ y ≤ b ∧ fw_Hit th pl a b o x y) → post 1) (h0 : (¬ ∃ x y, x ≤ a ∧ y ≤ b ∧ fw_Hit th pl a b o x y) → post 0) : wpY_below post (nI L, nI T, F, To, P, Q, TP, TA, TB, th) (nI pl) (nI a) (nI b) o :=
  ⟨a + 1 + 1, fw_be3 hpl ha hb (fun x y hx hy h => h1 ⟨x, y, hx, hy, h⟩) (fun h => h0 (fun ⟨x, y, hx, hy, hh⟩ => h x y hx hy hh)) (a + 1) 0 (by omega) (fun x' y hx' => absurd hx' (Nat.not_lt_zero x'))⟩
theorem fw_below0 {L T : Nat} {F To P Q TP TA TB : Nat → Int32} {th : Nat → Int32} {R : Nat → Nat → Nat → Prop} {post : Int32 → Prop} {pl a b : Nat} (hpl : pl < 7) (ha : a < 19) (hb : b < 19) (h : fw_Is R th) (h1 : (∃ x y, x ≤ a ∧ y ≤ b ∧ R pl x y) → post 1) (h0 : (¬ ∃ x y, x ≤ a ∧ y ≤ b ∧ R pl x y) → post 0) : wpY_below post (nI L, nI T, F, To, P, Q, TP, TA, TB, th) (nI pl) (nI a) (nI b) 0 := by
  refine fw_below hpl ha hb (fun ⟨x, y, hx, hy, hh⟩ => h1 ⟨x, y, hx, hy, (h pl x y hpl (by omega) (by omega)).mp hh.1⟩) (fun hn => h0 (fun ⟨x, y, hx, hy, hh⟩ => hn ⟨x, y, hx, hy, (h pl x y hpl (by omega) (by omega)).mpr hh, fun g => g.1 rfl⟩))
theorem fw_inF {L T : Nat} {F To P Q TP TA TB : Nat → Int32} {th : Nat → Int32} {R : Nat → Nat → Nat → Prop} {post : Int32 → Prop} {pl a b : Nat} (hpl : pl < 7) (ha : a < 19) (hb : b < 19) (h : fw_Is R th) (h1 : fw_PM (R pl) a b → post 1) (h0 : ¬ fw_PM (R pl) a b → post 0) : wpY_inFront post (nI L, nI T, F, To, P, Q, TP, TA, TB, th) (nI pl) (nI a) (nI b) := by
  have hi : vp_in (nI (361 * pl + 19 * a + b)) 2527 := vp_in_nI (by omega) (by decide)
  unfold wpY_inFront
  dsimp only
  rw [fw_ix, nI_clamp (by omega)]
  refine ⟨hi, br_c (fun z => h0 (fun g => (h pl a b hpl ha hb).mpr g.1 z)) (fun z => fw_below hpl ha hb (fun g => br_f fw_10 (h0 ?_)) (fun g => br_t rfl (h1 ?_)))⟩
  · obtain ⟨x, y, hx, hy, hh⟩ := g
    exact fun gg => gg.2 ⟨x, y, hx, hy, (h pl x y hpl (by omega) (by omega)).mp hh.1, fun e => hh.2 ⟨fw_10, e⟩⟩
  · exact ⟨(h pl a b hpl ha hb).mp z, fun ⟨x, y, hx, hy, hr, hn⟩ => g ⟨x, y, hx, hy, (h pl x y hpl (by omega) (by omega)).mpr hr, fun e => hn e.2⟩⟩
end FWF
