section FWE
/-! H: Y's set of what is reached -/
theorem fw_ix (x a b : Nat) : 361 * nI x + 19 * nI a + nI b = nI (361 * x + 19 * a + b) := by
  show nI 361 * nI x + nI 19 * nI a + nI b = _
  rw [pk_mul, pk_mul, nI_add, nI_add]
theorem fw_emp {L T : Nat} {F To P Q TP TA TB : Nat → Int32} {post : SY → Prop} (hpost : ∀ th : Nat → Int32, (∀ i, i < 2527 → th i = 0) → post (nI L, nI T, F, To, P, Q, TP, TA, TB, th)) :
    ∀ m j th, j + m = 2527 → (∀ i, i < j → th i = 0) → wY_empty_2 post (nI L) (nI T) (m + 1) (nI j) F To P Q TP TA TB th := by
  intro m
  induction m with
  | zero =>
    intro j th hj h
    have : j = 2527 := by omega
    subst this
    exact br_t (nI_le (Nat.le_refl 2527) (by decide)) (hpost th h)
  | succ m ih =>
    intro j th hj h
    refine br_f (nI_ge (b := 2527) (by omega) (by decide)) ⟨vp_in_nI (by omega) (by decide), nm_r (e' := upd th j 0) (by rw [nI_clamp (by omega), fw_b0]) (nm_r (nI_1 j) (ih (j + 1) _ (by omega) (fun i hi => ?_)))⟩
    by_cases c : i = j
    · subst c; exact pk_us
    · rw [pk_un c]; exact h i (by omega)
theorem fw_empty {L T : Nat} {F To P Q TP TA TB : Nat → Int32} {th : Nat → Int32} {post : SY → Prop} (hpost : ∀ th : Nat → Int32, (∀ i, i < 2527 → th i = 0) → post (nI L, nI T, F, To, P, Q, TP, TA, TB, th)) : wpY_empty post (nI L, nI T, F, To, P, Q, TP, TA, TB, th) :=
  ⟨2528, fw_emp hpost 2527 0 th rfl (fun i hi => absurd hi (Nat.not_lt_zero i))⟩
theorem fw_set {L T : Nat} {F To P Q TP TA TB : Nat → Int32} {th : Nat → Int32} {post : SY → Prop} {x a b : Nat} (hx : x < 7) (ha : a < 19) (hb : b < 19) (hpost : post (nI L, nI T, F, To, P, Q, TP, TA, TB, upd th (361 * x + 19 * a + b) 1)) : wpY_set post (nI L, nI T, F, To, P, Q, TP, TA, TB, th) (nI x) (nI a) (nI b) := by
  have e := fw_ix x a b
  exact ⟨by rw [e]; exact vp_in_nI (by omega) (by decide), nm_r (by rw [e, nI_clamp (by omega), fw_b1]) hpost⟩
theorem fw_u1 {th : Nat → Int32} {k j : Nat} : upd th k 1 j = 0 ↔ j ≠ k ∧ th j = 0 := by
  by_cases c : j = k
  · subst c
    rw [pk_us]
    exact ⟨fun h => absurd h fw_10, fun h => absurd rfl h.1⟩
  · rw [pk_un c]
    exact ⟨fun h => ⟨c, h⟩, fun h => h.2⟩
def fw_Cl (F To P Q th : Nat → Int32) (l a b : Nat) : Prop :=
  th (361 * fw_nv F l + 19 * a + b) ≠ 0 → a + fw_nv P l < 19 → b + fw_nv Q l < 19 → th (361 * fw_nv To l + 19 * (a + fw_nv P l) + (b + fw_nv Q l)) ≠ 0
def fw_Sub (R : Nat → Nat → Nat → Prop) (th : Nat → Int32) : Prop := ∀ x a b, x < 7 → a < 19 → b < 19 → th (361 * x + 19 * a + b) ≠ 0 → R x a b
def fw_Sp (R : Nat → Nat → Nat → Prop) (L : Nat) (F To P Q th0 th : Nat → Int32) (c : Int32) (i : Nat) : Prop :=
  (∀ j, th j = 0 → th0 j = 0) ∧ fw_Sub R th ∧ ((c = 0 ∧ (∀ j, th0 j = 0 → th j = 0) ∧ ∀ i', i' < i → i' / 361 < L → fw_Cl F To P Q th (i' / 361) (i' / 19 % 19) (i' % 19)) ∨ (c = 1 ∧ ∃ j, j < 2527 ∧ th0 j = 0 ∧ th j ≠ 0))
theorem fw_SpK {R : Nat → Nat → Nat → Prop} {L : Nat} {F To P Q th0 th : Nat → Int32} {c : Int32} {i : Nat} (h : fw_Sp R L F To P Q th0 th c i) (hk : i / 361 < L → fw_Cl F To P Q th (i / 361) (i / 19 % 19) (i % 19)) : fw_Sp R L F To P Q th0 th c (i + 1) := by
  refine ⟨h.1, h.2.1, ?_⟩
  rcases h.2.2 with ⟨h1, h2, h3⟩ | h1
  · refine Or.inl ⟨h1, h2, fun i' hi' hl => ?_⟩
    by_cases e : i' = i
    · subst e; exact hk hl
    · exact h3 i' (by omega) hl
  · exact Or.inr h1
theorem fw_subU {R : Nat → Nat → Nat → Prop} {th : Nat → Int32} {x a b : Nat} (ha : a < 19) (hb : b < 19) (h : fw_Sub R th) (hr : R x a b) : fw_Sub R (upd th (361 * x + 19 * a + b) 1) := by
  intro x' a' b' hx' ha' hb' hne
  by_cases c : 361 * x' + 19 * a' + b' = 361 * x + 19 * a + b
  · have c1 : x' = x := by omega
    have c2 : a' = a := by omega
    have c3 : b' = b := by omega
    subst c1 c2 c3
    exact hr
  · rw [pk_un c] at hne
    exact h x' a' b' hx' ha' hb' hne
theorem fw_Sp1 {R : Nat → Nat → Nat → Prop} {L : Nat} {F To P Q th0 th : Nat → Int32} {c : Int32} {i x a b : Nat} (hx : x < 7) (ha : a < 19) (hb : b < 19) (hr : R x a b) (h : fw_Sp R L F To P Q th0 th c i) (hc : th (361 * x + 19 * a + b) = 0 ∨ c = 1) : fw_Sp R L F To P Q th0 (upd th (361 * x + 19 * a + b) 1) 1 (i + 1) := by
  refine ⟨fun j hj => h.1 j (fw_u1.mp hj).2, fw_subU ha hb h.2.1 hr, Or.inr ⟨rfl, ?_⟩⟩
  by_cases e : th (361 * x + 19 * a + b) = 0
  · exact ⟨_, by omega, h.1 _ e, by rw [pk_us]; exact fw_10⟩
  · rcases h.2.2 with ⟨h1, _⟩ | ⟨_, j, h1, h2, h3⟩
    · rcases hc with hc | hc
      · exact absurd hc e
      · rw [h1] at hc
        exact absurd hc.symm fw_10
    · exact ⟨j, h1, h2, fun z => h3 (fw_u1.mp z).2⟩
theorem fw_Sp0 {R : Nat → Nat → Nat → Prop} {L : Nat} {F To P Q th0 th : Nat → Int32} {i x a b : Nat} (ha : a < 19) (hb : b < 19) (hr : R x a b) (h : fw_Sp R L F To P Q th0 th 0 i) (hne : th (361 * x + 19 * a + b) ≠ 0) (hk : fw_Cl F To P Q th (i / 361) (i / 19 % 19) (i % 19)) : fw_Sp R L F To P Q th0 (upd th (361 * x + 19 * a + b) 1) 0 (i + 1) := by
  have hz : ∀ j, upd th (361 * x + 19 * a + b) 1 j = 0 ↔ th j = 0 := by
    intro j
    rw [fw_u1]
    refine ⟨fun z => z.2, fun z => ⟨fun e => ?_, z⟩⟩
    rw [e] at z
    exact hne z
  have hC : ∀ l a' b', fw_Cl F To P Q th l a' b' → fw_Cl F To P Q (upd th (361 * x + 19 * a + b) 1) l a' b' := by
    intro l a' b' g g1 g2 g3 z
    exact g (fun z' => g1 ((hz _).mpr z')) g2 g3 ((hz _).mp z)
  refine ⟨fun j hj => h.1 j ((hz j).mp hj), fw_subU ha hb h.2.1 hr, Or.inl ⟨rfl, ?_⟩⟩
  rcases h.2.2 with ⟨_, h2, h3⟩ | ⟨h1, _⟩
  · refine ⟨fun j hj => (hz j).mpr (h2 j hj), fun i' hi' hl => hC _ _ _ ?_⟩
    by_cases e : i' = i
    · subst e; exact hk
    · exact h3 i' (by omega) hl
  · exact absurd h1.symm fw_10
theorem fw_s155 {L T : Nat} {F To P Q TP TA TB : Nat → Int32} {th : Nat → Int32} {post : SY → Prop} {J2 : Int32 → (Nat → Int32) → (Nat → Int32) → (Nat → Int32) → (Nat → Int32) → (Nat → Int32) → (Nat → Int32) → (Nat → Int32) → (Nat → Int32) → Prop} {J : Int32 → Int32 → (Nat → Int32) → (Nat → Int32) → (Nat → Int32) → (Nat → Int32) → (Nat → Int32) → (Nat → Int32) → (Nat → Int32) → (Nat → Int32) → Prop} {i k : Nat} {z : Int32} (hk : k < 2527) (h : J z (nI (i + 1)) F To P Q TP TA TB (upd th k 1)) : wY_spread_155 post J2 J (nI i) (nI k) z (nI L) (nI T) F To P Q TP TA TB th :=
  ⟨vp_in_nI hk (by decide), nm_r (by rw [nI_clamp (by omega), fw_b1]) (nm_r (nI_1 i) h)⟩
theorem fw_sp10 {L T : Nat} {F To P Q TP TA TB : Nat → Int32} {th0 : Nat → Int32} {R : Nat → Nat → Nat → Prop} {post : SY → Prop} {J2 : Int32 → (Nat → Int32) → (Nat → Int32) → (Nat → Int32) → (Nat → Int32) → (Nat → Int32) → (Nat → Int32) → (Nat → Int32) → (Nat → Int32) → Prop} (hO : fw_Ok L T F To P Q TP TA TB) (hR : ∀ l a b, l < L → R (fw_nv F l) a b → R (fw_nv To l) (a + fw_nv P l) (b + fw_nv Q l)) (hJ : ∀ c th, fw_Sp R L F To P Q th0 th c 4332 → J2 c F To P Q TP TA TB th) :
    ∀ m i c th, i + m = 4332 → fw_Sp R L F To P Q th0 th c i → wY_spread_10 post J2 (nI L) (nI T) (m + 1) c (nI i) F To P Q TP TA TB th := by
  obtain ⟨hL, hT, hF, hTo, hP, hQ, _⟩ := hO
  intro m
  induction m with
  | zero =>
    intro i c th hi h
    have : i = 4332 := by omega
    subst this
    exact br_t (nI_le (Nat.le_refl 4332) (by decide)) (hJ c th h)
  | succ m ih =>
    intro i c th hi h
    have d1 : nI i / 361 = nI (i / 361) := pk_div (d := 361) (by omega) (by decide) (by decide)
    have d2 : nI i / 19 = nI (i / 19) := pk_div (d := 19) (by omega) (by decide) (by decide)
    have d3 : nI (i / 19) - nI (i / 19) / 19 * 19 = nI (i / 19 % 19) := pk_rem (d := 19) (by omega) (by decide) (by decide)
    have d4 : nI i - nI (i / 19) * 19 = nI (i % 19) := by
      have := pk_rem (a := i) (d := 19) (by omega) (by decide) (by decide)
      rw [← this, ← d2]
      rfl
    refine br_f (nI_ge (b := 4332) (by omega) (by decide)) ⟨by decide, nm_r d1 ⟨by decide, by decide, nm_r (e' := nI (i / 19 % 19)) (by rw [d2]; exact d3) ⟨by decide, nm_r (e' := nI (i % 19)) (by rw [d2]; exact d4) ?_⟩⟩⟩
    have hkeep : (i / 361 < L → fw_Cl F To P Q th (i / 361) (i / 19 % 19) (i % 19)) → ∀ x, x = nI i + 1 → wY_spread_10 post J2 (nI L) (nI T) (m + 1) c x F To P Q TP TA TB th := fun hk => nm_r (nI_1 i) (ih (i + 1) c th (by omega) (fw_SpK h hk))
    have h1 := fun (x a b : Nat) (hx : x < 7) (ha : a < 19) (hb : b < 19) (hr : R x a b) (hc : th (361 * x + 19 * a + b) = 0 ∨ c = 1) => ih (i + 1) 1 _ (by omega) (fw_Sp1 hx ha hb hr h hc)
    have h0 := fun (x a b : Nat) (ha : a < 19) (hb : b < 19) (hr : R x a b) (h : fw_Sp R L F To P Q th0 th 0 i) (hne : th (361 * x + 19 * a + b) ≠ 0) (hk : fw_Cl F To P Q th (i / 361) (i / 19 % 19) (i % 19)) => ih (i + 1) 0 _ (by omega) (fw_Sp0 ha hb hr h hne hk)
    have ga : i / 19 % 19 < 19 := Nat.mod_lt _ (by decide)
    have gb : i % 19 < 19 := Nat.mod_lt _ (by decide)
    have gl : i / 361 < 12 := by omega
    clear ih d1 d2 d3 d4
    generalize i / 361 = l at *
    generalize i / 19 % 19 = a at *
    generalize i % 19 = b at *
    obtain ⟨aF, bF⟩ := fw_rg hF (by decide) l
    obtain ⟨aTo, bTo⟩ := fw_rg hTo (by decide) l
    obtain ⟨aP, bP⟩ := fw_rg hP (by decide) l
    obtain ⟨aQ, bQ⟩ := fw_rg hQ (by decide) l
    have hv : vp_in (nI l) 12 := vp_in_nI gl (by decide)
    refine pk_le L l (fun hk => hkeep (fun z => absurd z (by omega))) (fun hl => ⟨hv, ?_⟩) rfl rfl (by omega) (by omega)
    rw [nI_clamp (by omega), bF, bTo, bP, bQ, fw_ix, nI_clamp (by omega), nI_add, nI_add, fw_ix]
    refine ⟨vp_in_nI (by omega) (by decide), br_c (fun z => hkeep (fun _ g => absurd z g)) (fun hne => ⟨hv, pk_le 19 (a + fw_nv P l) (fun z => hkeep (fun _ _ g => absurd g (by omega))) (fun ha => ⟨hv, pk_le 19 (b + fw_nv Q l) (fun z => hkeep (fun _ _ _ g => absurd g (by omega))) (fun hb => ⟨hv, hv, hv, ?_⟩) rfl rfl (by omega) (by omega)⟩) rfl rfl (by omega) (by omega)⟩)⟩
    have hr := hR l a b hl (h.2.1 _ a b aF ga gb hne)
    refine nm_r (e' := nI (361 * fw_nv To l + 19 * (a + fw_nv P l) + (b + fw_nv Q l))) (by rw [nI_add]; exact congrArg nI (by omega)) (br_c (fun hc => ⟨vp_in_nI (by omega) (by decide), ?_⟩) (fun hc => ?_))
    · rw [nI_clamp (by omega)]
      refine br_c (fun z => fw_s155 (by omega) (h1 _ _ _ aTo ha hb hr (Or.inl z))) (fun z => fw_s155 (by omega) (h0 _ _ _ ha hb hr (by rw [← hc]; exact h) z (fun _ _ _ => z)))
    · have hc1 : c = 1 := by
        rcases h.2.2 with ⟨g, _⟩ | ⟨g, _⟩
        · exact absurd g hc
        · exact g
      exact fw_s155 (by omega) (h1 _ _ _ aTo ha hb hr (Or.inr hc1))
def fw_zc (th : Nat → Int32) : Nat → Nat
  | 0 => 0
  | n + 1 => if th n = 0 then fw_zc th n + 1 else fw_zc th n
theorem fw_zcM {th th0 : Nat → Int32} (h : ∀ j, th j = 0 → th0 j = 0) : ∀ n, fw_zc th n ≤ fw_zc th0 n
  | 0 => Nat.le_refl 0
  | n + 1 => by
    have ih := fw_zcM h n
    show (if th n = 0 then fw_zc th n + 1 else fw_zc th n) ≤ (if th0 n = 0 then fw_zc th0 n + 1 else fw_zc th0 n)
    by_cases c : th n = 0
    · rw [if_pos c, if_pos (h n c)]; omega
    · rw [if_neg c]
      split <;> omega
theorem fw_zcS {th th0 : Nat → Int32} (h : ∀ j, th j = 0 → th0 j = 0) {j : Nat} (h1 : th0 j = 0) (h2 : th j ≠ 0) : ∀ n, j < n → fw_zc th n < fw_zc th0 n
  | 0 => fun h => absurd h (Nat.not_lt_zero j)
  | n + 1 => fun hj => by
    have hm := fw_zcM h n
    show (if th n = 0 then fw_zc th n + 1 else fw_zc th n) < (if th0 n = 0 then fw_zc th0 n + 1 else fw_zc th0 n)
    by_cases c : j = n
    · subst c
      rw [if_neg h2, if_pos h1]
      omega
    · have ih := fw_zcS h h1 h2 n (by omega)
      by_cases c : th n = 0
      · rw [if_pos c, if_pos (h n c)]; omega
      · rw [if_neg c]
        split <;> omega
theorem fw_sp2 {L T : Nat} {F To P Q TP TA TB : Nat → Int32} {th0 : Nat → Int32} {R : Nat → Nat → Nat → Prop} {post : SY → Prop} (hO : fw_Ok L T F To P Q TP TA TB) (hR : ∀ l a b, l < L → R (fw_nv F l) a b → R (fw_nv To l) (a + fw_nv P l) (b + fw_nv Q l)) (hpost : ∀ th, (∀ j, th j = 0 → th0 j = 0) → fw_Sub R th → (∀ l a b, l < L → a < 19 → b < 19 → fw_Cl F To P Q th l a b) → post (nI L, nI T, F, To, P, Q, TP, TA, TB, th)) :
    ∀ m th, fw_zc th 2527 ≤ m → (∀ j, th j = 0 → th0 j = 0) → fw_Sub R th → wY_spread_2 post (nI L) (nI T) (m + 2) 1 F To P Q TP TA TB th := by
  intro m
  induction m with
  | zero =>
    intro th hz h1 h2
    refine br_f fw_10 ⟨4333, fw_sp10 (th0 := th) hO hR (fun c th' h => ?_) 4332 0 0 th rfl ⟨fun _ g => g, h2, Or.inl ⟨rfl, fun _ g => g, fun i hi => absurd hi (Nat.not_lt_zero i)⟩⟩⟩
    rcases h.2.2 with ⟨g1, g2, g3⟩ | ⟨g1, j, g2, g3, g4⟩
    · refine br_t g1 (hpost th' (fun j g => h1 j (h.1 j g)) h.2.1 (fun l a b hl ha hb => ?_))
      have hL := hO.1
      have := g3 (361 * l + 19 * a + b) (by omega)
      have e1 : (361 * l + 19 * a + b) / 361 = l := by omega
      have e2 : (361 * l + 19 * a + b) / 19 % 19 = a := by omega
      have e3 : (361 * l + 19 * a + b) % 19 = b := by omega
      rw [e1, e2, e3] at this
      exact this hl
    · have := fw_zcS h.1 g3 g4 2527 g2
      omega
  | succ m ih =>
    intro th hz h1 h2
    refine br_f fw_10 ⟨4333, fw_sp10 (th0 := th) hO hR (fun c th' h => ?_) 4332 0 0 th rfl ⟨fun _ g => g, h2, Or.inl ⟨rfl, fun _ g => g, fun i hi => absurd hi (Nat.not_lt_zero i)⟩⟩⟩
    rcases h.2.2 with ⟨g1, g2, g3⟩ | ⟨g1, j, g2, g3, g4⟩
    · refine br_t g1 (hpost th' (fun j g => h1 j (h.1 j g)) h.2.1 (fun l a b hl ha hb => ?_))
      have hL := hO.1
      have := g3 (361 * l + 19 * a + b) (by omega)
      have e1 : (361 * l + 19 * a + b) / 361 = l := by omega
      have e2 : (361 * l + 19 * a + b) / 19 % 19 = a := by omega
      have e3 : (361 * l + 19 * a + b) % 19 = b := by omega
      rw [e1, e2, e3] at this
      exact this hl
    · have := fw_zcS h.1 g3 g4 2527 g2
      rw [g1]
      exact ih th' (by omega) (fun j g => h1 j (h.1 j g)) h.2.1
theorem fw_reach {L : Nat} {F To P Q th : Nat → Int32} (hTo : ∀ i, fw_nv To i < 7) (hc : ∀ l a b, l < L → a < 19 → b < 19 → fw_Cl F To P Q th l a b) : ∀ n x0 a0 b0 x s r, th (361 * x0 + 19 * a0 + b0) ≠ 0 → fw_W L (fw_nv F) (fw_nv To) (fw_nv P) (fw_nv Q) n x0 x s r → a0 + s < 19 → b0 + r < 19 → th (361 * x + 19 * (a0 + s) + (b0 + r)) ≠ 0 := by
  intro n
  induction n with
  | zero =>
    rintro x0 a0 b0 x s r h ⟨rfl, rfl, rfl⟩ ha hb
    exact h
  | succ n ih =>
    rintro x0 a0 b0 x s r h ⟨l, g1, g2, s', r', g3, g4, g5⟩ ha hb
    rw [← g2] at h
    have := ih _ _ _ x s' r' (hc l a0 b0 g1 (by omega) (by omega) h (by omega) (by omega)) g3 (by omega) (by omega)
    rw [g4, g5, ← Nat.add_assoc a0, ← Nat.add_assoc b0]
    exact this
/-- the array holds just what S says -/
def fw_Is (S : Nat → Nat → Nat → Prop) (th : Nat → Int32) : Prop := ∀ x a b, x < 7 → a < 19 → b < 19 → (th (361 * x + 19 * a + b) ≠ 0 ↔ S x a b)
theorem fw_spr {L T : Nat} {F To P Q TP TA TB : Nat → Int32} {th : Nat → Int32} {I : Nat → Nat → Nat → Prop} {post : SY → Prop} (hO : fw_Ok L T F To P Q TP TA TB) (hI : ∀ x a b, I x a b → x < 7) (h : fw_Is I th) (hpost : ∀ th, fw_Is (fw_R L (fw_nv F) (fw_nv To) (fw_nv P) (fw_nv Q) I) th → post (nI L, nI T, F, To, P, Q, TP, TA, TB, th)) : wpY_spread post (nI L, nI T, F, To, P, Q, TP, TA, TB, th) := by
  have hTo : ∀ i, fw_nv To i < 7 := fun i => (fw_rg hO.2.2.2.1 (by decide) i).1
  refine ⟨fw_zc th 2527 + 2, fw_sp2 (th0 := th) (R := fw_R L (fw_nv F) (fw_nv To) (fw_nv P) (fw_nv Q) I) hO ?_ ?_ _ th (Nat.le_refl _) (fun _ g => g) ?_⟩
  · rintro l a b hl ⟨x0, a0, b0, h1, n, s, r, h2, h3, h4⟩
    exact ⟨x0, a0, b0, h1, n + 1, s + fw_nv P l, r + fw_nv Q l, fw_app hl n x0 s r h2, by omega, by omega⟩
  · intro th' g1 g2 g3
    refine hpost th' (fun x a b hx ha hb => ⟨g2 x a b hx ha hb, ?_⟩)
    rintro ⟨x0, a0, b0, h1, n, s, r, h2, rfl, rfl⟩
    exact fw_reach hTo g3 n x0 a0 b0 x s r (fun z => (h x0 a0 b0 (hI _ _ _ h1) (by omega) (by omega)).mpr h1 (g1 _ z)) h2 ha hb
  · intro x a b hx ha hb g
    exact ⟨x, a, b, (h x a b hx ha hb).mp g, 0, 0, 0, ⟨rfl, rfl, rfl⟩, rfl, rfl⟩
end FWE
