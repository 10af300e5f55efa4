section FWC
/-! E: X's table of least sums -/
def fw_Ok (L T : Nat) (F To P Q TP TA TB : Nat → Int32) : Prop := L ≤ 12 ∧ T ≤ 20 ∧ fw_Rg F 7 ∧ fw_Rg To 7 ∧ fw_Rg P 4 ∧ fw_Rg Q 4 ∧ fw_Rg TP 7 ∧ fw_Rg TA 16 ∧ fw_Rg TB 16
def fw_So (G : Nat → Nat → Nat → Prop) (D : Nat → Int32) : Prop := ∀ z s, z < 7 → s < 19 → fw_nv D (z * 19 + s) < 1000 → G z s (fw_nv D (z * 19 + s))
def fw_St (G : Nat → Nat → Nat → Prop) (D0 D : Nat → Int32) (x y p q s : Nat) : Prop :=
  fw_Rg D 1001 ∧ (∀ i, fw_nv D i ≤ fw_nv D0 i) ∧ fw_So G D ∧ ∀ s', p + s' < s → fw_nv D (x * 19 + (p + s')) ≤ fw_nv D0 (y * 19 + s') + q
theorem fw_StK {G : Nat → Nat → Nat → Prop} {D0 D : Nat → Int32} {x y p q s : Nat} (hp : p ≤ s) (h : fw_St G D0 D x y p q s) (hk : fw_nv D (x * 19 + s) ≤ fw_nv D (y * 19 + (s - p)) + q) : fw_St G D0 D x y p q (s + 1) := by
  refine ⟨h.1, h.2.1, h.2.2.1, fun s' hs => ?_⟩
  by_cases e : p + s' < s
  · exact h.2.2.2 s' e
  · have e1 : s' = s - p := by omega
    have e2 : p + s' = s := by omega
    rw [e2, e1]
    have := h.2.1 (y * 19 + (s - p))
    omega
theorem fw_StU {G : Nat → Nat → Nat → Prop} {D0 D : Nat → Int32} {x y p q s : Nat} (hx : x < 7) (hy : y < 7) (hs : s < 19) (hp : p ≤ s) (hG : ∀ s r, G y s r → G x (p + s) (q + r)) (h : fw_St G D0 D x y p q s) (hk : fw_nv D (y * 19 + (s - p)) + q < fw_nv D (x * 19 + s)) : fw_St G D0 (upd D (x * 19 + s) (nI (fw_nv D (y * 19 + (s - p)) + q))) x y p q (s + 1) := by
  have hb := (fw_rg h.1 (by decide) (x * 19 + s)).1
  refine ⟨fw_rgU h.1 (by omega) rfl, fun i => ?_, fun z s2 hz hs2 hlt => ?_, fun s' hs' => ?_⟩
  · by_cases e : i = x * 19 + s
    · subst e
      rw [fw_nvS rfl (by omega)]
      have := h.2.1 (x * 19 + s)
      omega
    · rw [fw_nvN e]
      exact h.2.1 i
  · by_cases e : z * 19 + s2 = x * 19 + s
    · have e1 : z = x := by omega
      have e2 : s2 = s := by omega
      subst e1 e2
      rw [fw_nvS rfl (by omega)]
      have g := hG (s2 - p) _ (h.2.2.1 y (s2 - p) hy (by omega) (by omega))
      have e3 : p + (s2 - p) = s2 := by omega
      rw [e3, Nat.add_comm q] at g
      exact g
    · rw [fw_nvN e] at hlt ⊢
      exact h.2.2.1 z s2 hz hs2 hlt
  · by_cases e : p + s' < s
    · rw [fw_nvN (by omega)]
      exact h.2.2.2 s' e
    · have e1 : s' = s - p := by omega
      have e2 : p + s' = s := by omega
      rw [e2, fw_nvS rfl (by omega), e1]
      have := h.2.1 (y * 19 + (s - p))
      omega
theorem fw_sbl {L T : Nat} {F To P Q TP TA TB : Nat → Int32} {ft D0 : Nat → Int32} {G : Nat → Nat → Nat → Prop} {l x y p q : Nat} {post : SX → Prop} (hl : l < 12) (hx : x < 7) (hy : y < 7) (hq : q ≤ 3) (eq : Q l = nI q) (hG : ∀ s r, G y s r → G x (p + s) (q + r)) (hpost : ∀ D, fw_St G D0 D x y p q 19 → post (nI L, nI T, F, To, P, Q, TP, TA, TB, D, ft)) :
    ∀ k s D, s + k = 19 → p ≤ s → fw_St G D0 D x y p q s → wX_setBeforeWays_32 post (nI l) (nI (x * 19)) (nI (y * 19)) (nI p) (nI L) (nI T) (k + 1) (nI s) F To P Q TP TA TB D ft := by
  intro k
  induction k with
  | zero =>
    intro s D hs hps h
    have : s = 19 := by omega
    subst this
    exact br_t (nI_le (Nat.le_refl 19) (by decide)) (hpost D h)
  | succ k ih =>
    intro s D hs hps h
    have e1 : (nI (y * 19) + nI s) - nI p = nI (y * 19 + (s - p)) := by
      rw [nI_add, pk_sub (by omega)]
      exact congrArg nI (by omega)
    have e2 : nI (x * 19) + nI s = nI (x * 19 + s) := nI_add _ _
    obtain ⟨a3, b3⟩ := fw_rg h.1 (by decide) (y * 19 + (s - p))
    obtain ⟨a4, b4⟩ := fw_rg h.1 (by decide) (x * 19 + s)
    refine br_f (nI_ge (a := s) (b := 19) (by omega) (by decide)) ⟨by rw [e1]; exact vp_in_nI (by omega) (by decide), vp_in_nI hl (by decide), ?_⟩
    refine nm_r (e' := nI (fw_nv D (y * 19 + (s - p)) + q)) (by rw [e1, nI_clamp (by omega), nI_clamp (by omega), b3, eq, nI_add]) ⟨by rw [e2]; exact vp_in_nI (by omega) (by decide), ?_⟩
    rw [e2, nI_clamp (by omega)]
    refine pk_le (fw_nv D (x * 19 + s)) (fw_nv D (y * 19 + (s - p)) + q) (fun hk => nm_r (nI_1 s) (ih (s + 1) D (by omega) (by omega) (fw_StK hps h hk))) (fun hk => ⟨vp_in_nI (by omega) (by decide), nm_e (nm_r (nI_1 s) (ih (s + 1) _ (by omega) (by omega) (fw_StU hx hy (by omega) hps hG h hk)))⟩) b4 rfl (by omega) (by omega)
theorem fw_sb {L T : Nat} {F To P Q TP TA TB : Nat → Int32} {ft D0 : Nat → Int32} {G : Nat → Nat → Nat → Prop} {l : Nat} {post : SX → Prop} (hO : fw_Ok L T F To P Q TP TA TB) (hl : l < L) (h0 : fw_Rg D0 1001) (hs : fw_So G D0) (hG : ∀ s r, G (fw_nv To l) s r → G (fw_nv F l) (fw_nv P l + s) (fw_nv Q l + r)) (hpost : ∀ D, fw_St G D0 D (fw_nv F l) (fw_nv To l) (fw_nv P l) (fw_nv Q l) 19 → post (nI L, nI T, F, To, P, Q, TP, TA, TB, D, ft)) :
    wpX_setBeforeWays post (nI L, nI T, F, To, P, Q, TP, TA, TB, D0, ft) (nI l) := by
  obtain ⟨hL, hT, hF, hTo, hP, hQ, _⟩ := hO
  obtain ⟨aF, bF⟩ := fw_rg hF (by decide) l
  obtain ⟨aTo, bTo⟩ := fw_rg hTo (by decide) l
  obtain ⟨aP, bP⟩ := fw_rg hP (by decide) l
  obtain ⟨aQ, bQ⟩ := fw_rg hQ (by decide) l
  have hi : vp_in (nI l) 12 := vp_in_nI (by omega) (by decide)
  have hc : (nI l).toNatClampNeg = l := nI_clamp (by omega)
  refine ⟨hi, nm_r (e' := nI (fw_nv F l * 19)) (by rw [hc, bF]; exact pk_mul _ 19) ⟨hi, nm_r (e' := nI (fw_nv To l * 19)) (by rw [hc, bTo]; exact pk_mul _ 19) ⟨hi, nm_r (e' := nI (fw_nv P l)) (by rw [hc, bP]) ⟨19 - fw_nv P l + 1, ?_⟩⟩⟩⟩
  exact fw_sbl (by omega) aF aTo (by omega) bQ hG hpost _ _ _ (by omega) (Nat.le_refl _) ⟨h0, fun i => Nat.le_refl _, hs, fun s' h => absurd h (by omega)⟩
def fw_Rd (G : Nat → Nat → Nat → Prop) (D0 D F To P Q : Nat → Int32) (j : Nat) : Prop :=
  fw_Rg D 1001 ∧ (∀ i, fw_nv D i ≤ fw_nv D0 i) ∧ fw_So G D ∧ ∀ l, l < j → ∀ s', fw_nv P l + s' < 19 → fw_nv D (fw_nv F l * 19 + (fw_nv P l + s')) ≤ fw_nv D0 (fw_nv To l * 19 + s') + fw_nv Q l
theorem fw_f44 {L T : Nat} {F To P Q TP TA TB : Nat → Int32} {ft D0 : Nat → Int32} {G : Nat → Nat → Nat → Prop} {k : Nat} {post : SX → Prop} {J : Int32 → Int32 → Int32 → (Nat → Int32) → (Nat → Int32) → (Nat → Int32) → (Nat → Int32) → (Nat → Int32) → (Nat → Int32) → (Nat → Int32) → (Nat → Int32) → (Nat → Int32) → Prop} (hO : fw_Ok L T F To P Q TP TA TB) (hG : ∀ l s r, l < L → G (fw_nv To l) s r → G (fw_nv F l) (fw_nv P l + s) (fw_nv Q l + r)) (hJ : ∀ D, fw_Rd G D0 D F To P Q L → J (nI (k + 1)) (nI L) (nI T) F To P Q TP TA TB D ft) :
    ∀ m j D, j + m = L → fw_Rd G D0 D F To P Q j → wX_findWaysTo_44 post J (nI k) (m + 1) (nI j) (nI L) (nI T) F To P Q TP TA TB D ft := by
  have hL := hO.1
  intro m
  induction m with
  | zero =>
    intro j D hj h
    have : j = L := by omega
    subst this
    exact br_t (nI_le (Nat.le_refl j) (by omega)) (nm_r (nI_1 k) (hJ D h))
  | succ m ih =>
    intro j D hj h
    refine br_f (nI_ge (a := j) (b := L) (by omega) (by omega)) (fw_sb (G := G) hO (by omega) h.1 h.2.2.1 (fun s r => hG j s r (by omega)) (fun D' hD' => nm_r (nI_1 j) (ih (j + 1) D' (by omega) ⟨hD'.1, fun i => Nat.le_trans (hD'.2.1 i) (h.2.1 i), hD'.2.2.1, fun l hl s' hs' => ?_⟩)))
    by_cases e : l = j
    · subst e
      have h1 := hD'.2.2.2 s' hs'
      have h2 := h.2.1 (fw_nv To l * 19 + s')
      omega
    · have h1 := h.2.2.2 l (by omega) s' hs'
      have h2 := hD'.2.1 (fw_nv F l * 19 + (fw_nv P l + s'))
      omega
def fw_Cm (L : Nat) (F To P Q : Nat → Int32) (to k : Nat) (D : Nat → Int32) : Prop := ∀ n x s r, n ≤ k → x < 7 → fw_W L (fw_nv F) (fw_nv To) (fw_nv P) (fw_nv Q) n x to s r → fw_nv D (x * 19 + s) ≤ r
def fw_Gd (L : Nat) (F To P Q : Nat → Int32) (to : Nat) : Nat → Nat → Nat → Prop := fun z s r => ∃ n, fw_W L (fw_nv F) (fw_nv To) (fw_nv P) (fw_nv Q) n z to s r
theorem fw_f36 {L T : Nat} {F To P Q TP TA TB : Nat → Int32} {ft : Nat → Int32} {to : Nat} {post : SX → Prop} (hO : fw_Ok L T F To P Q TP TA TB) (hpost : ∀ D, fw_Rg D 1001 → fw_Good L (fw_nv F) (fw_nv To) (fw_nv P) (fw_nv Q) to (fw_nv D) → post (nI L, nI T, F, To, P, Q, TP, TA, TB, D, ft)) :
    ∀ m k D, k + m = 6 → fw_Rg D 1001 → fw_So (fw_Gd L F To P Q to) D → fw_Cm L F To P Q to k D → wX_findWaysTo_36 post (m + 1) (nI k) (nI L) (nI T) F To P Q TP TA TB D ft := by
  have hP : ∀ i, fw_nv P i ≤ 3 := fun i => Nat.le_of_lt_succ (fw_rg hO.2.2.2.2.1 (by decide) i).1
  have hQ : ∀ i, fw_nv Q i ≤ 3 := fun i => Nat.le_of_lt_succ (fw_rg hO.2.2.2.2.2.1 (by decide) i).1
  have hTo : ∀ i, fw_nv To i < 7 := fun i => (fw_rg hO.2.2.2.1 (by decide) i).1
  intro m
  induction m with
  | zero =>
    intro k D hk h1 h2 h3
    have : k = 6 := by omega
    subst this
    exact br_t (nI_le (Nat.le_refl 6) (by decide)) (hpost D h1 ⟨h2, h3⟩)
  | succ m ih =>
    intro k D hk h1 h2 h3
    refine br_f (nI_ge (a := k) (b := 6) (by omega) (by decide)) ⟨L + 1, fw_f44 (G := fw_Gd L F To P Q to) (D0 := D) hO (fun l s r hl ⟨n, h⟩ => ⟨n + 1, l, hl, rfl, s, r, h, rfl, rfl⟩) (fun D' hD' => ih (k + 1) D' (by omega) hD'.1 hD'.2.2.1 (fun n x s r hn hx hW => ?_)) L 0 D (by omega) ⟨h1, fun i => Nat.le_refl _, h2, fun l hl => absurd hl (Nat.not_lt_zero l)⟩⟩
    cases n with
    | zero => exact Nat.le_trans (hD'.2.1 _) (h3 0 x s r (Nat.zero_le k) hx hW)
    | succ n =>
      have hb := fw_bnd hP hQ _ _ _ _ _ hW
      obtain ⟨l, g1, g2, s', r', g3, g4, g5⟩ := hW
      have g6 := hD'.2.2.2 l g1 s' (by omega)
      have g7 := h3 n _ s' r' (by omega) (hTo l) g3
      rw [g2] at g6
      rw [g4, g5]
      omega
theorem fw_f2 {L T : Nat} {F To P Q TP TA TB : Nat → Int32} {ft : Nat → Int32} {to : Nat} {post : SX → Prop} (hO : fw_Ok L T F To P Q TP TA TB) (hto : to < 7) (hpost : ∀ D, fw_Rg D 1001 → fw_Good L (fw_nv F) (fw_nv To) (fw_nv P) (fw_nv Q) to (fw_nv D) → post (nI L, nI T, F, To, P, Q, TP, TA, TB, D, ft)) :
    ∀ m j D, j + m = 133 → fw_Rg D 1001 → (∀ i, i < j → fw_nv D i = 1000) → wX_findWaysTo_2 post (nI to) (nI L) (nI T) (m + 1) (nI j) F To P Q TP TA TB D ft := by
  intro m
  induction m with
  | zero =>
    intro j D hj h1 h2
    have : j = 133 := by omega
    subst this
    have e : nI to * 19 = nI (to * 19) := pk_mul to 19
    refine br_t (nI_le (Nat.le_refl 133) (by decide)) ⟨by rw [e]; exact vp_in_nI (by omega) (by decide), nm_r (e' := upd D (to * 19) 0) (by rw [e, nI_clamp (by omega)]) ⟨7, ?_⟩⟩
    refine fw_f36 hO hpost 6 0 _ rfl (fw_rgU h1 (n := 0) (by decide) rfl) (fun z s hz hs hlt => ?_) (fun n x s r hn hx hW => ?_)
    · by_cases c : z * 19 + s = to * 19
      · have c1 : z = to := by omega
        have c2 : s = 0 := by omega
        subst c1 c2
        refine ⟨0, rfl, rfl, ?_⟩
        exact fw_nvS (n := 0) rfl (by decide)
      · rw [fw_nvN c, h2 _ (by omega)] at hlt
        exact absurd hlt (by decide)
    · have : n = 0 := by omega
      subst this
      obtain ⟨rfl, rfl, rfl⟩ := hW
      exact Nat.le_of_eq (fw_nvS (n := 0) rfl (by decide))
  | succ m ih =>
    intro j D hj h1 h2
    refine br_f (nI_ge (a := j) (b := 133) (by omega) (by decide)) ⟨vp_in_nI (by omega) (by decide), nm_r (e' := upd D j 1000) (by rw [nI_clamp (by omega)]) (nm_r (nI_1 j) (ih (j + 1) _ (by omega) (fw_rgU h1 (n := 1000) (by decide) rfl) (fun i hi => ?_)))⟩
    by_cases c : i = j
    · subst c
      exact fw_nvS (n := 1000) rfl (by decide)
    · rw [fw_nvN c]
      exact h2 i (by omega)
theorem fw_find {L T : Nat} {F To P Q TP TA TB : Nat → Int32} {ft lq : Nat → Int32} {to : Nat} {post : SX → Prop} (hO : fw_Ok L T F To P Q TP TA TB) (hlq : fw_Rg lq 1001) (hto : to < 7) (hpost : ∀ D, fw_Rg D 1001 → fw_Good L (fw_nv F) (fw_nv To) (fw_nv P) (fw_nv Q) to (fw_nv D) → post (nI L, nI T, F, To, P, Q, TP, TA, TB, D, ft)) : wpX_findWaysTo post (nI L, nI T, F, To, P, Q, TP, TA, TB, lq, ft) (nI to) :=
  ⟨134, fw_f2 hO hto hpost 133 0 lq rfl hlq (fun i hi => absurd hi (Nat.not_lt_zero i))⟩
end FWC
