section FWG
/-! K: counts of new least values along Y's flat loop -/
theorem fw_ctN {C K : Nat} {e : Nat → Nat} {t : Nat} (hK : 0 < K) (h : e (t / K) < fw_mn C e (t / K) → e (t / K) < K) : fw_ct C e ((t + 1) / K) ((t + 1) % K) = if e (t / K) = t % K ∧ t % K < fw_mn C e (t / K) then fw_ct C e (t / K) (t % K) + 1 else fw_ct C e (t / K) (t % K) := by
  have ht := Nat.div_add_mod t K
  have hb := Nat.mod_lt t hK
  rw [← fw_ct_s]
  generalize t / K = a at *
  generalize t % K = b at *
  subst ht
  rw [Nat.add_assoc]
  by_cases c : b + 1 < K
  · rw [Nat.mul_add_div hK, Nat.mul_add_mod, Nat.div_eq_of_lt c, Nat.mod_eq_of_lt c]
    rfl
  · have e1 : b + 1 = K := by omega
    rw [e1, Nat.mul_add_div hK, Nat.mul_add_mod, Nat.div_self hK, Nat.mod_self, fw_ct_0, fw_ct_K h]
theorem fw_cnM {C : Nat} {e : Nat → Nat} {a : Nat} (h : e a < fw_mn C e a) : ∀ n, a < n → fw_cn C e a < fw_cn C e n
  | 0 => fun z => absurd z (Nat.not_lt_zero a)
  | n + 1 => fun z => by
    show _ < if e n < fw_mn C e n then fw_cn C e n + 1 else fw_cn C e n
    by_cases c : a = n
    · subst c
      rw [if_pos h]
      omega
    · have := fw_cnM h n (by omega)
      split <;> omega
def fw_FT (e : Nat → Nat) (ft : Nat → Int32) (n : Nat) : Prop := ∀ a, a < n → e a < fw_mn 16 e a → ft (fw_cn 16 e a) = nI (16 * a + e a)
theorem fw_fFl {L T : Nat} {F To P Q TP TA TB : Nat → Int32} {D : Nat → Int32} {post : Int32 → SX → Prop} {e : Nat → Nat} (hO : fw_Ok L T F To P Q TP TA TB) (hD : fw_Rg D 1001) (he : ∀ a, e a = fw_eB (fw_nv D) (fw_nv TP) (fw_nv TA) (fw_nv TB) T a) (hpost : ∀ ft, fw_FT e ft 16 → post (nI (fw_cn 16 e 16)) (nI L, nI T, F, To, P, Q, TP, TA, TB, D, ft)) :
    ∀ k a ft, a + k = 16 → fw_FT e ft a → wX_findFront_13 post (nI L) (nI T) (k + 1) (nI (fw_cn 16 e a)) (nI (fw_mn 16 e a)) (nI a) F To P Q TP TA TB D ft := by
  intro k
  induction k with
  | zero =>
    intro a ft ha h
    have : a = 16 := by omega
    subst this
    exact br_t (nI_le (Nat.le_refl 16) (by decide)) (hpost ft h)
  | succ k ih =>
    intro a ft ha h
    have hm := fw_mn_C (C := 16) (g := e) a
    have hm2 : e a ≤ 1000 := by rw [he]; exact fw_mn_C _
    have hcl := fw_cn_le (C := 16) (e := e) a
    refine br_f (nI_ge (b := 16) (by omega) (by decide)) (fw_eb hO hD (by omega) ?_)
    rw [← he]
    refine pk_le (fw_mn 16 e a) (e a) (fun hk => nm_r (nI_1 a) ?_) (fun hk => ⟨vp_in_nI (by omega) (by decide), nm_r (e' := upd ft (fw_cn 16 e a) (nI (16 * a + e a))) ?_ (nm_r (nI_1 _) (nm_r (nI_1 a) ?_))⟩) rfl rfl (by omega) (by omega)
    · have h2 := ih (a + 1) ft (by omega) (fun a' ha' hn => by
        by_cases c : a' = a
        · subst c; omega
        · exact h a' (by omega) hn)
      have e1 : fw_cn 16 e (a + 1) = fw_cn 16 e a := if_neg (by omega)
      have e2 : fw_mn 16 e (a + 1) = fw_mn 16 e a := if_neg (by omega)
      rw [e1, e2] at h2
      exact h2
    · rw [nI_clamp (by omega)]
      show upd ft (fw_cn 16 e a) (nI 16 * nI a + nI (e a)) = _
      rw [pk_mul, nI_add]
    · have h2 := ih (a + 1) (upd ft (fw_cn 16 e a) (nI (16 * a + e a))) (by omega) (fun a' ha' hn => by
        by_cases c : a' = a
        · subst c; exact pk_us
        · rw [pk_un (Nat.ne_of_lt (fw_cnM hn a (by omega)))]
          exact h a' (by omega) hn)
      have e1 : fw_cn 16 e (a + 1) = fw_cn 16 e a + 1 := if_pos hk
      have e2 : fw_mn 16 e (a + 1) = e a := if_pos hk
      rw [e1, e2] at h2
      exact h2
theorem fw_fF {L T : Nat} {F To P Q TP TA TB : Nat → Int32} {lq ft : Nat → Int32} {pl : Nat} {post : Int32 → SX → Prop} (hO : fw_Ok L T F To P Q TP TA TB) (hlq : fw_Rg lq 1001) (hpl : pl < 7) (hpost : ∀ D ft, fw_Rg D 1001 → fw_Good L (fw_nv F) (fw_nv To) (fw_nv P) (fw_nv Q) pl (fw_nv D) → fw_FT (fw_eB (fw_nv D) (fw_nv TP) (fw_nv TA) (fw_nv TB) T) ft 16 → post (nI (fw_cn 16 (fw_eB (fw_nv D) (fw_nv TP) (fw_nv TA) (fw_nv TB) T) 16)) (nI L, nI T, F, To, P, Q, TP, TA, TB, D, ft)) : wpX_findFront post (nI L, nI T, F, To, P, Q, TP, TA, TB, lq, ft) (nI pl) := by
  unfold wpX_findFront
  dsimp only
  exact fw_find hO hlq hpl (fun D hD hG => ⟨17, fw_fFl hO hD (fun _ => rfl) (fun ft' hft => hpost D ft' hD hG hft) 16 0 ft rfl (fun a ha => absurd ha (Nat.not_lt_zero a))⟩)
/-! L: Y's loops over the times -/
theorem fw_yf17 {L T : Nat} {F To P Q TP TA TB : Nat → Int32} {th : Nat → Int32} {R : Nat → Nat → Nat → Prop} {post : Int32 → SY → Prop} {pl : Nat} {e : Nat → Nat} (hpl : pl < 7) (hIs : fw_Is R th) (hpm : ∀ a b, a < 16 → b < 16 → (fw_PM (R pl) a b ↔ e a = b ∧ b < fw_mn 16 e a)) (hpost : post (nI (fw_cn 16 e 16)) (nI L, nI T, F, To, P, Q, TP, TA, TB, th)) :
    ∀ k t, t + k = 256 → wY_front_17 post (nI pl) (nI L) (nI T) F To P Q TP TA TB th (k + 1) (nI (fw_ct 16 e (t / 16) (t % 16))) (nI t) := by
  intro k
  induction k with
  | zero =>
    intro t ht
    have : t = 256 := by omega
    subst this
    have e1 : fw_ct 16 e (256 / 16) (256 % 16) = fw_cn 16 e 16 := fw_ct_0
    rw [e1]
    exact br_t (nI_le (Nat.le_refl 256) (by decide)) hpost
  | succ k ih =>
    intro t ht
    have d1 : nI t / 16 = nI (t / 16) := pk_div (d := 16) (by omega) (by decide) (by decide)
    have d2 : nI t - nI t / 16 * 16 = nI (t % 16) := pk_rem (d := 16) (by omega) (by decide) (by decide)
    have hn := fw_ctN (C := 16) (K := 16) (e := e) (t := t) (by decide) (fun g => Nat.lt_of_lt_of_le g (fw_mn_C _))
    have h2 := ih (t + 1) (by omega)
    refine br_f (nI_ge (b := 256) (by omega) (by decide)) ⟨by decide, by decide, ?_⟩
    rw [d2, d1]
    refine fw_inF hpl (by omega) (by omega) hIs (fun g => br_f fw_10 (nm_r (nI_1 _) (nm_r (nI_1 t) ?_))) (fun g => br_t rfl (nm_r (nI_1 t) ?_))
    · rw [hpm _ _ (by omega) (by omega)] at g
      rw [hn, if_pos g] at h2
      exact h2
    · rw [hpm _ _ (by omega) (by omega)] at g
      rw [hn, if_neg g] at h2
      exact h2
theorem fw_yfa18 {L T : Nat} {F To P Q TP TA TB : Nat → Int32} {th : Nat → Int32} {R : Nat → Nat → Nat → Prop} {post : Int32 → SY → Prop} {pl : Nat} {e : Nat → Nat} {ix : Int32} (hpl : pl < 7) (hIs : fw_Is R th) (hpm : ∀ a b, a < 16 → b < 16 → (fw_PM (R pl) a b ↔ e a = b ∧ b < fw_mn 16 e a)) (hf : ∀ a, a < 16 → e a < fw_mn 16 e a → nI (fw_cn 16 e a) = ix → post (nI (16 * a + e a)) (nI L, nI T, F, To, P, Q, TP, TA, TB, th)) (hno : (∀ j, j < fw_cn 16 e 16 → ¬ nI j = ix) → post (-1) (nI L, nI T, F, To, P, Q, TP, TA, TB, th)) :
    ∀ k t, t + k = 256 → (∀ j, j < fw_ct 16 e (t / 16) (t % 16) → ¬ nI j = ix) → wY_frontAt_18 post (nI pl) ix (nI L) (nI T) F To P Q TP TA TB th (k + 1) (nI (fw_ct 16 e (t / 16) (t % 16))) (nI t) := by
  intro k
  induction k with
  | zero =>
    intro t ht h
    have : t = 256 := by omega
    subst this
    have e1 : fw_ct 16 e (256 / 16) (256 % 16) = fw_cn 16 e 16 := fw_ct_0
    rw [e1] at h ⊢
    exact br_t (nI_le (Nat.le_refl 256) (by decide)) (hno h)
  | succ k ih =>
    intro t ht h
    have d1 : nI t / 16 = nI (t / 16) := pk_div (d := 16) (by omega) (by decide) (by decide)
    have d2 : nI t - nI t / 16 * 16 = nI (t % 16) := pk_rem (d := 16) (by omega) (by decide) (by decide)
    have hn := fw_ctN (C := 16) (K := 16) (e := e) (t := t) (by decide) (fun g => Nat.lt_of_lt_of_le g (fw_mn_C _))
    have h2 := ih (t + 1) (by omega)
    refine br_f (nI_ge (b := 256) (by omega) (by decide)) ⟨by decide, by decide, ?_⟩
    rw [d2, d1]
    refine fw_inF hpl (by omega) (by omega) hIs (fun g => br_f fw_10 (br_c (fun hix => ?_) (fun hix => nm_r (nI_1 _) (nm_r (nI_1 t) ?_)))) (fun g => br_t rfl (nm_r (nI_1 t) ?_))
    · rw [hpm _ _ (by omega) (by omega)] at g
      rw [fw_ct_eq g.1] at hix
      have h3 := hf (t / 16) (by omega) (by omega) hix
      have e3 : 16 * (t / 16) + e (t / 16) = t := by omega
      rw [e3] at h3
      exact h3
    · rw [hpm _ _ (by omega) (by omega)] at g
      rw [hn, if_pos g] at h2
      refine h2 (fun j hj => ?_)
      by_cases c : j = fw_ct 16 e (t / 16) (t % 16)
      · rw [c]; exact hix
      · exact h j (by omega)
    · rw [hpm _ _ (by omega) (by omega)] at g
      rw [hn, if_neg g] at h2
      exact h2 h
theorem fw_xs31 {L T : Nat} {F To P Q TP TA TB : Nat → Int32} {D ft : Nat → Int32} {post : Int32 → SX → Prop} {z : Nat} (hz : z < 7) (hD : fw_Rg D 1001) (hpost : post (nI (fw_cn 1000 (fun s => fw_nv D (z * 19 + s)) 19)) (nI L, nI T, F, To, P, Q, TP, TA, TB, D, ft)) :
    ∀ k s, s + k = 19 → wX_shortest_31 post (nI z) (nI L) (nI T) F To P Q TP TA TB D ft (k + 1) (nI (fw_cn 1000 (fun s => fw_nv D (z * 19 + s)) s)) (nI (fw_mn 1000 (fun s => fw_nv D (z * 19 + s)) s)) (nI s) := by
  intro k
  induction k with
  | zero =>
    intro s hs
    have : s = 19 := by omega
    subst this
    exact br_t (nI_le (Nat.le_refl 19) (by decide)) hpost
  | succ k ih =>
    intro s hs
    have e1 : nI z * 19 + nI s = nI (z * 19 + s) := by
      show nI z * nI 19 + nI s = _
      rw [pk_mul, nI_add]
    obtain ⟨a3, b3⟩ := fw_rg hD (by decide) (z * 19 + s)
    have hm := fw_mn_C (C := 1000) (g := fun s => fw_nv D (z * 19 + s)) s
    have h2 := ih (s + 1) (by omega)
    refine br_f (nI_ge (b := 19) (by omega) (by decide)) ⟨by rw [e1]; exact vp_in_nI (by omega) (by decide), nm_r (e' := nI (fw_nv D (z * 19 + s))) (by rw [e1, nI_clamp (by omega), b3]) ?_⟩
    refine pk_le _ (fw_nv D (z * 19 + s)) (fun hk => nm_r (nI_1 s) ?_) (fun hk => nm_r (nI_1 _) (nm_r (nI_1 s) ?_)) rfl rfl (by omega) (by omega)
    · have e1 : fw_cn 1000 (fun s => fw_nv D (z * 19 + s)) (s + 1) = fw_cn 1000 (fun s => fw_nv D (z * 19 + s)) s := if_neg (Nat.not_lt.mpr hk)
      have e2 : fw_mn 1000 (fun s => fw_nv D (z * 19 + s)) (s + 1) = fw_mn 1000 (fun s => fw_nv D (z * 19 + s)) s := if_neg (Nat.not_lt.mpr hk)
      rw [e1, e2] at h2
      exact h2
    · have e1 : fw_cn 1000 (fun s => fw_nv D (z * 19 + s)) (s + 1) = fw_cn 1000 (fun s => fw_nv D (z * 19 + s)) s + 1 := if_pos hk
      have e2 : fw_mn 1000 (fun s => fw_nv D (z * 19 + s)) (s + 1) = fw_nv D (z * 19 + s) := if_pos hk
      rw [e1, e2] at h2
      exact h2
theorem fw_ys36 {L T : Nat} {F To P Q TP TA TB : Nat → Int32} {th : Nat → Int32} {R : Nat → Nat → Nat → Prop} {post : Int32 → SY → Prop} {pl : Nat} {e : Nat → Nat} (hpl : pl < 7) (hIs : fw_Is R th) (hb : ∀ a, a < 19 → e a < fw_mn 1000 e a → e a < 19) (hpm : ∀ a b, a < 19 → b < 19 → (fw_PM (R pl) a b ↔ e a = b ∧ b < fw_mn 1000 e a)) (hpost : post (nI (fw_cn 1000 e 19)) (nI L, nI T, F, To, P, Q, TP, TA, TB, th)) :
    ∀ k t, t + k = 361 → wY_shortest_36 post (nI pl) (nI L) (nI T) F To P Q TP TA TB th (k + 1) (nI (fw_ct 1000 e (t / 19) (t % 19))) (nI t) := by
  intro k
  induction k with
  | zero =>
    intro t ht
    have : t = 361 := by omega
    subst this
    have e1 : fw_ct 1000 e (361 / 19) (361 % 19) = fw_cn 1000 e 19 := fw_ct_0
    rw [e1]
    exact br_t (nI_le (Nat.le_refl 361) (by decide)) hpost
  | succ k ih =>
    intro t ht
    have d1 : nI t / 19 = nI (t / 19) := pk_div (d := 19) (by omega) (by decide) (by decide)
    have d2 : nI t - nI t / 19 * 19 = nI (t % 19) := pk_rem (d := 19) (by omega) (by decide) (by decide)
    have hn := fw_ctN (C := 1000) (K := 19) (e := e) (t := t) (by decide) (hb _ (by omega))
    have h2 := ih (t + 1) (by omega)
    refine br_f (nI_ge (b := 361) (by omega) (by decide)) ⟨by decide, by decide, ?_⟩
    rw [d2, d1]
    refine fw_inF hpl (by omega) (by omega) hIs (fun g => br_f fw_10 (nm_r (nI_1 _) (nm_r (nI_1 t) ?_))) (fun g => br_t rfl (nm_r (nI_1 t) ?_))
    · rw [hpm _ _ (by omega) (by omega)] at g
      rw [hn, if_pos g] at h2
      exact h2
    · rw [hpm _ _ (by omega) (by omega)] at g
      rw [hn, if_neg g] at h2
      exact h2
/-! M: ready -/
def fw_K (TP TA TB : Nat → Int32) (pl a b : Nat) (i : Nat) : Prop := ¬ (TP i = nI pl ∧ TA i = nI a ∧ TB i = nI b)
theorem fw_xr38 {L T : Nat} {F To P Q TP TA TB : Nat → Int32} {D ft : Nat → Int32} {post : Int32 → SX → Prop} {pl a b : Nat} (hO : fw_Ok L T F To P Q TP TA TB) (hD : fw_Rg D 1001) (ha : a < 16) (hb : b < 16) (h1 : (∀ i, i < T → fw_K TP TA TB pl a b i → b < fw_eT (fw_nv D) (fw_nv TP) (fw_nv TA) (fw_nv TB) i a) → post 1 (nI L, nI T, F, To, P, Q, TP, TA, TB, D, ft)) (h0 : (∃ i, i < T ∧ fw_K TP TA TB pl a b i ∧ fw_eT (fw_nv D) (fw_nv TP) (fw_nv TA) (fw_nv TB) i a ≤ b) → post 0 (nI L, nI T, F, To, P, Q, TP, TA, TB, D, ft)) :
    ∀ k j, j + k = T → (∀ i, i < j → fw_K TP TA TB pl a b i → b < fw_eT (fw_nv D) (fw_nv TP) (fw_nv TA) (fw_nv TB) i a) → wX_ready_38 post (nI pl) (nI a) (nI b) (nI L) (nI T) F To P Q TP TA TB D ft (k + 1) (nI j) := by
  have hT := hO.2.1
  intro k
  induction k with
  | zero =>
    intro j hj h
    have : j = T := by omega
    subst this
    exact br_t (nI_le (Nat.le_refl j) (by omega)) (h1 h)
  | succ k ih =>
    intro j hj h
    have hk : (fw_K TP TA TB pl a b j → b < fw_eT (fw_nv D) (fw_nv TP) (fw_nv TA) (fw_nv TB) j a) → ∀ x, x = nI j + 1 → wX_ready_38 post (nI pl) (nI a) (nI b) (nI L) (nI T) F To P Q TP TA TB D ft (k + 1) x := fun hn => nm_r (nI_1 j) (ih (j + 1) (by omega) (fun i hi => by
      by_cases c : i = j
      · subst c; exact hn
      · exact h i (by omega)))
    have hm : fw_eT (fw_nv D) (fw_nv TP) (fw_nv TA) (fw_nv TB) j a ≤ 1000 := fw_mn_C _
    refine br_f (nI_ge (by omega) (by omega)) ?_
    by_cases c : TP j = nI pl ∧ TA j = nI a ∧ TB j = nI b
    · exact fw_atT (by omega) c (br_f fw_10 (hk (fun g => absurd c g)))
    · exact fw_atF (by omega) c (br_t rfl (fw_ebt hO hD (by omega) ha (pk_lt b (fw_eT (fw_nv D) (fw_nv TP) (fw_nv TA) (fw_nv TB) j a) (fun g => hk (fun _ => g)) (fun g => h0 ⟨j, by omega, c, g⟩) rfl rfl (by omega) (by omega))))
theorem fw_yr36 {L T : Nat} {F To P Q TP TA TB : Nat → Int32} {post : Int32 → SY → Prop} {pl a b : Nat} (hO : fw_Ok L T F To P Q TP TA TB) (hpl : pl < 7) (ha : a < 16) (hb : b < 16) (h1 : (¬ ∃ x y, x ≤ a ∧ y ≤ b ∧ fw_R L (fw_nv F) (fw_nv To) (fw_nv P) (fw_nv Q) (fw_tok T (fw_nv TP) (fw_nv TA) (fw_nv TB) (fw_K TP TA TB pl a b)) pl x y) → ∀ th, post 1 (nI L, nI T, F, To, P, Q, TP, TA, TB, th)) (h0 : (∃ x y, x ≤ a ∧ y ≤ b ∧ fw_R L (fw_nv F) (fw_nv To) (fw_nv P) (fw_nv Q) (fw_tok T (fw_nv TP) (fw_nv TA) (fw_nv TB) (fw_K TP TA TB pl a b)) pl x y) → ∀ th, post 0 (nI L, nI T, F, To, P, Q, TP, TA, TB, th)) :
    ∀ m j th, j + m = T → fw_Is (fw_tok j (fw_nv TP) (fw_nv TA) (fw_nv TB) (fw_K TP TA TB pl a b)) th → wY_ready_36 post (nI pl) (nI a) (nI b) (m + 1) (nI j) (nI L) (nI T) F To P Q TP TA TB th := by
  have hT := hO.2.1
  have hTP := hO.2.2.2.2.2.2.1
  have hTA := hO.2.2.2.2.2.2.2.1
  have hTB := hO.2.2.2.2.2.2.2.2
  intro m
  induction m with
  | zero =>
    intro j th hj h
    have : j = T := by omega
    subst this
    exact br_t (nI_le (Nat.le_refl j) (by omega)) (fw_spr hO (fw_tok7 hTP) h (fun th' h' => fw_below0 hpl (by omega) (by omega) h' (fun g => br_f fw_10 (h0 g th')) (fun g => br_t rfl (h1 g th'))))
  | succ m ih =>
    intro j th hj h
    have hv : vp_in (nI j) 20 := vp_in_nI (by omega) (by decide)
    have hc : (nI j).toNatClampNeg = j := nI_clamp (by omega)
    obtain ⟨a1, b1⟩ := fw_rg hTP (by decide) j
    obtain ⟨a2, b2⟩ := fw_rg hTA (by decide) j
    obtain ⟨a3, b3⟩ := fw_rg hTB (by decide) j
    have hset : fw_K TP TA TB pl a b j → wY_ready_78 post (wY_ready_36 post (nI pl) (nI a) (nI b) (m + 1)) (nI pl) (nI a) (nI b) (nI j) (nI L) (nI T) F To P Q TP TA TB th := by
      intro hK
      refine ⟨hv, hv, hv, ?_⟩
      rw [hc, b1, b2, b3]
      exact fw_set a1 (by omega) (by omega) (nm_r (nI_1 j) (ih (j + 1) _ (by omega) (fw_isU (by omega) (by omega) h (fw_tokS hK))))
    refine br_f (nI_ge (by omega) (by omega)) ⟨hv, ?_⟩
    rw [hc]
    refine br_c (fun g1 => ⟨hv, br_c (fun g2 => ⟨hv, br_c (fun g3 => nm_r (nI_1 j) (ih (j + 1) th (by omega) ?_)) (fun g => hset (fun z => g z.2.2))⟩) (fun g => hset (fun z => g z.2.1))⟩) (fun g => hset (fun z => g z.1))
    intro x' a' b' hx' ha' hb'
    rw [fw_tokN (fun z => z ⟨g1, g2, g3⟩)]
    exact h x' a' b' hx' ha' hb'
theorem fw_readyB {L T : Nat} {f t p q : Nat → Nat} {d tp ta tb : Nat → Nat} {K : Nat → Prop} {to a b : Nat} (ht : ∀ i, t i < 7) (hp : ∀ i, p i ≤ 3) (hq : ∀ i, q i ≤ 3) (hG : fw_Good L f t p q to d) (hx : ∀ i, tp i < 7) (ha : a < 19) (hb : b < 1000) : (∃ i, i < T ∧ K i ∧ fw_eT d tp ta tb i a ≤ b) ↔ ∃ x y, x ≤ a ∧ y ≤ b ∧ fw_R L f t p q (fw_tok T tp ta tb K) to x y := by
  constructor
  · rintro ⟨i, h1, h2, h3⟩
    obtain ⟨x, y, h4, h5, n, s, r, h6, h7, h8⟩ := (fw_eT_le ht hp hq hG (hx i) ha hb).mp h3
    exact ⟨x, y, h4, h5, tp i, ta i, tb i, ⟨i, h1, h2, rfl, rfl, rfl⟩, n, s, r, h6, h7, h8⟩
  · rintro ⟨x, y, h4, h5, _, _, _, ⟨i, h1, h2, rfl, rfl, rfl⟩, n, s, r, h6, h7, h8⟩
    exact ⟨i, h1, h2, (fw_eT_le ht hp hq hG (hx i) ha hb).mpr ⟨x, y, h4, h5, n, s, r, h6, h7, h8⟩⟩
end FWG
