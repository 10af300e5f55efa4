section FWH
/-! N: the relation; lines and tokens -/
def i_Rel (_ : Nat) (u : SX) (v : SY) : Prop := ∃ (L T : Nat) (F To P Q TP TA TB lq ft th : Nat → Int32), u = (nI L, nI T, F, To, P, Q, TP, TA, TB, lq, ft) ∧ v = (nI L, nI T, F, To, P, Q, TP, TA, TB, th) ∧ fw_Ok L T F To P Q TP TA TB ∧ fw_Rg lq 1001
theorem i_up {k : Nat} {u : SX} {v : SY} (h : i_Rel k u v) : i_Rel (k + 5) u v := h
theorem i_vc0 : wpX_init (fun u => wpY_init (fun v => i_Rel 0 u v)) := ⟨0, 0, fun _ => 0, fun _ => 0, fun _ => 0, fun _ => 0, fun _ => 0, fun _ => 0, fun _ => 0, fun _ => 0, fun _ => 0, fun _ => 0, rfl, rfl, ⟨by decide, by decide, fw_rg0 (by decide), fw_rg0 (by decide), fw_rg0 (by decide), fw_rg0 (by decide), fw_rg0 (by decide), fw_rg0 (by decide), fw_rg0 (by decide)⟩, fw_rg0 (by decide)⟩
theorem fw_rel {L T : Nat} {F To P Q TP TA TB : Nat → Int32} {lq ft th : Nat → Int32} {k : Nat} (hO : fw_Ok L T F To P Q TP TA TB) (hlq : fw_Rg lq 1001) : i_Rel k (nI L, nI T, F, To, P, Q, TP, TA, TB, lq, ft) (nI L, nI T, F, To, P, Q, TP, TA, TB, th) := ⟨L, T, F, To, P, Q, TP, TA, TB, lq, ft, th, rfl, rfl, hO, hlq⟩
theorem fw_ad (v3 v4 : Int32) : (∃ p q, p < 4 ∧ q < 4 ∧ v3 = nI p ∧ v4 = nI q ∧ (∀ post : Int32 → Prop, post 1 → wpX_isAddition post v3 v4) ∧ ∀ A B : Prop, B → (v3 < 0 → A) ∧ (¬ v3 < 0 → (3 < v3 → A) ∧ (¬ 3 < v3 → (v4 < 0 → A) ∧ (¬ v4 < 0 → (3 < v4 → A) ∧ (¬ 3 < v4 → B))))) ∨ ((∀ post : Int32 → Prop, post 0 → wpX_isAddition post v3 v4) ∧ ∀ A B : Prop, A → (v3 < 0 → A) ∧ (¬ v3 < 0 → (3 < v3 → A) ∧ (¬ 3 < v3 → (v4 < 0 → A) ∧ (¬ v4 < 0 → (3 < v4 → A) ∧ (¬ 3 < v4 → B))))) := by
  rcases fw_r3 v3 with ⟨p, hp, e, p1, p2⟩ | h | ⟨h1, h2⟩
  · rcases fw_r3 v4 with ⟨q, hq, e2, q1, q2⟩ | h | ⟨h1, h2⟩
    · exact Or.inl ⟨p, q, hp, hq, e, e2, fun _ h => br_f p1 (br_f p2 (br_f q1 (br_f q2 h))), fun _ _ h => br_f p1 (br_f p2 (br_f q1 (br_f q2 h)))⟩
    · exact Or.inr ⟨fun _ z => br_f p1 (br_f p2 (br_t h z)), fun _ _ z => br_f p1 (br_f p2 (br_t h z))⟩
    · exact Or.inr ⟨fun _ z => br_f p1 (br_f p2 (br_f h1 (br_t h2 z))), fun _ _ z => br_f p1 (br_f p2 (br_f h1 (br_t h2 z)))⟩
  · exact Or.inr ⟨fun _ z => br_t h z, fun _ _ z => br_t h z⟩
  · exact Or.inr ⟨fun _ z => br_f h1 (br_t h2 z), fun _ _ z => br_f h1 (br_t h2 z)⟩
theorem i_vc_link {k : Nat} {u : SX} {v : SY} (I : i_Rel k u v) (hk : k + 5 ≤ 2560) (v1 : Int32) (v2 : Int32) (v3 : Int32) (v4 : Int32) : wpX_link (fun r u' => wpY_link (fun r' v' => r' = r ∧ i_Rel (k + 5) u' v') v v1 v2 v3 v4) u v1 v2 v3 v4 := by
  obtain ⟨L, T, F, To, P, Q, TP, TA, TB, lq, ft, th, rfl, rfl, hO, hlq⟩ := I
  have hI : i_Rel (k + 5) (nI L, nI T, F, To, P, Q, TP, TA, TB, lq, ft) (nI L, nI T, F, To, P, Q, TP, TA, TB, th) := fw_rel hO hlq
  unfold wpX_link wpY_link
  dsimp only
  rcases fw_pl v1 with ⟨x, hx, rfl⟩ | ⟨hX, hY, _⟩
  · rcases fw_pl v2 with ⟨y, hy, rfl⟩ | ⟨hX, hY, _⟩
    · rcases fw_ad v3 v4 with ⟨p, q, hp, hq, rfl, rfl, hX, hY⟩ | ⟨hX, hY⟩
      · refine fw_plX hx (br_f fw_10 (fw_plX hy (br_f fw_10 (hX _ (br_f fw_10 ?_)))))
        obtain ⟨hL, hT, hF, hTo, hP, hQ, h7⟩ := hO
        by_cases c : L < 12
        · have hv : vp_in (nI L) 12 := vp_in_nI c (by decide)
          have hc : (nI L).toNatClampNeg = L := nI_clamp (by omega)
          have hne : ¬ nI L = 12 := fun e => Nat.ne_of_lt c ((nI_eq (b := 12) (by omega) (by decide)).mp e)
          refine br_t (nI_lt c (by decide)) ⟨hv, nm_e ⟨hv, nm_e ⟨hv, nm_e ⟨hv, nm_e (nm_r (nI_1 L) ?_)⟩⟩⟩⟩
          refine fw_plY hx (br_t rfl (fw_plY hy (br_t rfl (hY _ _ (br_f hne ⟨hv, nm_e ⟨hv, nm_e ⟨hv, nm_e ⟨hv, nm_e (nm_r (nI_1 L) ⟨rfl, fw_rel ⟨by omega, hT, fw_rgU hF hx rfl, fw_rgU hTo hy rfl, fw_rgU hP hp rfl, fw_rgU hQ hq rfl, h7⟩ hlq⟩)⟩⟩⟩⟩)))))
        · have c2 : L = 12 := by omega
          subst c2
          exact br_f (nI_nlt (b := 12) (Nat.le_refl 12) (by decide)) (fw_plY hx (br_t rfl (fw_plY hy (br_t rfl (hY _ _ (br_t rfl ⟨rfl, hI⟩))))))
      · exact fw_plX hx (br_f fw_10 (fw_plX hy (br_f fw_10 (hX _ (br_t rfl (fw_plY hx (br_t rfl (fw_plY hy (br_t rfl (hY _ _ ⟨rfl, hI⟩))))))))))
    · exact fw_plX hx (br_f fw_10 (hX _ (br_t rfl (fw_plY hx (br_t rfl (hY _ (br_f fw_10 ⟨rfl, hI⟩)))))))
  · exact hX _ (br_t rfl (hY _ (br_f fw_10 ⟨rfl, hI⟩)))
theorem fw_lnX {L T : Nat} {F To P Q TP TA TB : Nat → Int32} {lq ft : Nat → Int32} {post : Int32 → Prop} {j : Nat} (hL : L ≤ 12) (hj : j < L) (h : post 1) : wpX_isLine post (nI L, nI T, F, To, P, Q, TP, TA, TB, lq, ft) (nI j) := br_f (nI_pos (by omega)) (br_f (nI_ge hj (by omega)) h)
theorem fw_ln {L T : Nat} {F To P Q TP TA TB : Nat → Int32} {lq ft : Nat → Int32} (hL : L ≤ 12) (v : Int32) : (∃ j, j < L ∧ v = nI j) ∨ ((∀ post : Int32 → Prop, post 0 → wpX_isLine post (nI L, nI T, F, To, P, Q, TP, TA, TB, lq, ft) v) ∧ ∀ A B C : Prop, A → C → (v < 0 → A) ∧ (¬ v < 0 → (v < nI L → B) ∧ (¬ v < nI L → C))) := by
  rcases pk_ix v (n := L) (by omega) with h | h | h
  · exact Or.inr ⟨fun _ hp => br_t h hp, fun _ _ _ a _ => br_t h a⟩
  · have h0 : ¬ v < 0 := Int32.not_lt.mpr (Int32.le_trans (nI_pos' (by omega)) h)
    exact Or.inr ⟨fun _ hp => br_f h0 (br_t h hp), fun _ _ _ _ c => br_f h0 (br_f (Int32.not_lt.mpr h) c)⟩
  · exact Or.inl h
theorem fw_unl {L T : Nat} {TP TA TB lq ft th : Nat → Int32} (hL : L + 1 ≤ 12) : ∀ k i (F To P Q : Nat → Int32), i + k = L → fw_Rg F 7 → fw_Rg To 7 → fw_Rg P 4 → fw_Rg Q 4 → ∃ F' To' P' Q' : Nat → Int32, (fw_Rg F' 7 ∧ fw_Rg To' 7 ∧ fw_Rg P' 4 ∧ fw_Rg Q' 4) ∧
    (∀ post : Int32 → SX → Prop, post (nI L) (nI L, nI T, F', To', P', Q', TP, TA, TB, lq, ft) → wX_unlink_22 post (nI L) (nI T) (k + 1) (nI i) F To P Q TP TA TB lq ft) ∧
    (∀ post : Int32 → SY → Prop, post (nI L) (nI L, nI T, F', To', P', Q', TP, TA, TB, th) → wY_unlink_26 post (nI L) (nI T) (k + 1) (nI i) F To P Q TP TA TB th) := by
  intro k
  induction k with
  | zero =>
    intro i F To P Q hi hF hTo hP hQ
    have : i = L := by omega
    subst this
    have h : nI i ≤ nI i := nI_le (Nat.le_refl i) (by omega)
    exact ⟨F, To, P, Q, ⟨hF, hTo, hP, hQ⟩, fun _ hp => br_t h hp, fun _ hp => br_t h hp⟩
  | succ k ih =>
    intro i F To P Q hi hF hTo hP hQ
    obtain ⟨F', To', P', Q', hr, hX, hY⟩ := ih (i + 1) (upd F i (F (i + 1))) (upd To i (To (i + 1))) (upd P i (P (i + 1))) (upd Q i (Q (i + 1))) (by omega) (fw_rgV hF hF) (fw_rgV hTo hTo) (fw_rgV hP hP) (fw_rgV hQ hQ)
    have h : ¬ nI L ≤ nI i := nI_ge (by omega) (by omega)
    have hv : vp_in (nI i) 12 := vp_in_nI (by omega) (by decide)
    have hv1 : vp_in (nI i + 1) 12 := by
      rw [nI_1]
      exact vp_in_nI (by omega) (by decide)
    have hc : (nI i).toNatClampNeg = i := nI_clamp (by omega)
    have hc1 : (nI i + 1).toNatClampNeg = i + 1 := by
      rw [nI_1]
      exact nI_clamp (by omega)
    refine ⟨F', To', P', Q', hr, fun post hp => br_f h ⟨hv1, hv, nm_r (e' := upd F i (F (i + 1))) (by rw [hc, hc1]) ⟨hv1, hv, nm_r (e' := upd To i (To (i + 1))) (by rw [hc, hc1]) ⟨hv1, hv, nm_r (e' := upd P i (P (i + 1))) (by rw [hc, hc1]) ⟨hv1, hv, nm_r (e' := upd Q i (Q (i + 1))) (by rw [hc, hc1]) (nm_r (nI_1 i) (hX post hp))⟩⟩⟩⟩, fun post hp => br_f h ⟨hv1, hv, nm_r (e' := upd F i (F (i + 1))) (by rw [hc, hc1]) ⟨hv1, hv, nm_r (e' := upd To i (To (i + 1))) (by rw [hc, hc1]) ⟨hv1, hv, nm_r (e' := upd P i (P (i + 1))) (by rw [hc, hc1]) ⟨hv1, hv, nm_r (e' := upd Q i (Q (i + 1))) (by rw [hc, hc1]) (nm_r (nI_1 i) (hY post hp))⟩⟩⟩⟩⟩
theorem i_vc_unlink {k : Nat} {u : SX} {v : SY} (I : i_Rel k u v) (hk : k + 5 ≤ 2560) (v1 : Int32) : wpX_unlink (fun r u' => wpY_unlink (fun r' v' => r' = r ∧ i_Rel (k + 5) u' v') v v1) u v1 := by
  obtain ⟨L, T, F, To, P, Q, TP, TA, TB, lq, ft, th, rfl, rfl, hO, hlq⟩ := I
  have hI : i_Rel (k + 5) (nI L, nI T, F, To, P, Q, TP, TA, TB, lq, ft) (nI L, nI T, F, To, P, Q, TP, TA, TB, th) := fw_rel hO hlq
  unfold wpX_unlink wpY_unlink
  dsimp only
  rcases fw_ln (lq := lq) (ft := ft) hO.1 v1 with ⟨j, hj, rfl⟩ | ⟨hX, hY⟩
  · obtain ⟨hL, hT, hF, hTo, hP, hQ, h7⟩ := hO
    obtain ⟨F', To', P', Q', ⟨r1, r2, r3, r4⟩, gX, gY⟩ := fw_unl (L := L - 1) (T := T) (TP := TP) (TA := TA) (TB := TB) (lq := lq) (ft := ft) (th := th) (by omega) (L - 1 - j) j F To P Q (by omega) hF hTo hP hQ
    refine fw_lnX hL hj (br_f fw_10 (nm_r (fw_p1 (by omega)) ⟨_, gX _ ?_⟩))
    exact br_f (nI_pos (by omega)) (br_t (nI_lt hj (by omega)) (nm_r (fw_p1 (by omega)) ⟨_, gY _ ⟨rfl, fw_rel ⟨by omega, hT, r1, r2, r3, r4, h7⟩ hlq⟩⟩))
  · exact hX _ (br_t rfl (hY _ _ _ ⟨rfl, hI⟩ ⟨rfl, hI⟩))
theorem i_vc_put {k : Nat} {u : SX} {v : SY} (I : i_Rel k u v) (hk : k + 5 ≤ 2560) (v1 : Int32) (v2 : Int32) (v3 : Int32) : wpX_put (fun r u' => wpY_put (fun r' v' => r' = r ∧ i_Rel (k + 5) u' v') v v1 v2 v3) u v1 v2 v3 := by
  obtain ⟨L, T, F, To, P, Q, TP, TA, TB, lq, ft, th, rfl, rfl, hO, hlq⟩ := I
  have hI : i_Rel (k + 5) (nI L, nI T, F, To, P, Q, TP, TA, TB, lq, ft) (nI L, nI T, F, To, P, Q, TP, TA, TB, th) := fw_rel hO hlq
  unfold wpX_put wpY_put
  dsimp only
  rcases fw_pl v1 with ⟨x, hx, rfl⟩ | ⟨hX, hY, _⟩
  · rcases fw_tm v2 v3 with ⟨a, b, ha, hb, rfl, rfl⟩ | ⟨hX, hY, _⟩
    · refine fw_plX hx (br_f fw_10 (fw_tmX ha hb (br_f fw_10 ?_)))
      obtain ⟨hL, hT, hF, hTo, hP, hQ, hTP, hTA, hTB⟩ := hO
      by_cases c : T < 20
      · have hv : vp_in (nI T) 20 := vp_in_nI c (by decide)
        have hc : (nI T).toNatClampNeg = T := nI_clamp (by omega)
        have hne : ¬ nI T = 20 := fun e => Nat.ne_of_lt c ((nI_eq (b := 20) (by omega) (by decide)).mp e)
        refine br_t (nI_lt c (by decide)) (fw_setT c (nm_r (nI_1 T) ?_))
        exact fw_plY hx (br_t rfl (fw_tmY ha hb (br_t rfl (br_f hne ⟨hv, nm_r (by rw [hc]) ⟨hv, nm_r (by rw [hc]) ⟨hv, nm_r (by rw [hc]) (nm_r (nI_1 T) ⟨rfl, fw_rel ⟨hL, by omega, hF, hTo, hP, hQ, fw_rgU hTP hx rfl, fw_rgU hTA ha rfl, fw_rgU hTB hb rfl⟩ hlq⟩)⟩⟩⟩))))
      · have c2 : T = 20 := by omega
        subst c2
        exact br_f (nI_nlt (b := 20) (Nat.le_refl 20) (by decide)) (fw_plY hx (br_t rfl (fw_tmY ha hb (br_t rfl (br_t rfl ⟨rfl, hI⟩)))))
    · exact fw_plX hx (br_f fw_10 (hX _ (br_t rfl (fw_plY hx (br_t rfl (hY _ (br_f fw_10 ⟨rfl, hI⟩)))))))
  · exact hX _ (br_t rfl (hY _ (br_f fw_10 ⟨rfl, hI⟩)))
theorem i_vc_take {k : Nat} {u : SX} {v : SY} (I : i_Rel k u v) (hk : k + 5 ≤ 2560) (v1 : Int32) (v2 : Int32) (v3 : Int32) : wpX_take (fun r u' => wpY_take (fun r' v' => r' = r ∧ i_Rel (k + 5) u' v') v v1 v2 v3) u v1 v2 v3 := by
  obtain ⟨L, T, F, To, P, Q, TP, TA, TB, lq, ft, th, rfl, rfl, hO, hlq⟩ := I
  have hI : i_Rel (k + 5) (nI L, nI T, F, To, P, Q, TP, TA, TB, lq, ft) (nI L, nI T, F, To, P, Q, TP, TA, TB, th) := fw_rel hO hlq
  obtain ⟨hL, hT, hF, hTo, hP, hQ, hTP, hTA, hTB⟩ := hO
  obtain ⟨r, fX, fY, hr⟩ := fw_fn (L := L) (F := F) (To := To) (P := P) (Q := Q) (TP := TP) (TA := TA) (TB := TB) (D := lq) (ft := ft) (th := th) v1 v2 v3 hT
  unfold wpX_take wpY_take
  dsimp only
  rcases hr with ⟨rfl, hno⟩ | ⟨i, hi, rfl, m1, m2, m3⟩
  · rcases fw_pl v1 with ⟨x, hx, rfl⟩ | ⟨hX, hY, _⟩
    · rcases fw_tm v2 v3 with ⟨a, b, ha, hb, rfl, rfl⟩ | ⟨hX, hY, _⟩
      · exact fw_plX hx (br_f fw_10 (fw_tmX ha hb (br_f fw_10 (fX _ (br_t rfl (fY _ (br_f fw_n1le ⟨rfl, hI⟩)))))))
      · exact fw_plX hx (br_f fw_10 (hX _ (br_t rfl (fY _ (br_f fw_n1le ⟨rfl, hI⟩)))))
    · exact hX _ (br_t rfl (fY _ (br_f fw_n1le ⟨rfl, hI⟩)))
  · obtain ⟨x, hx, e1⟩ := hTP i
    obtain ⟨a, ha, e2⟩ := hTA i
    obtain ⟨b, hb, e3⟩ := hTB i
    rw [m1] at e1
    rw [m2] at e2
    rw [m3] at e3
    subst e1 e2 e3
    have hv : vp_in (nI (T - 1)) 20 := vp_in_nI (by omega) (by decide)
    have hc : (nI (T - 1)).toNatClampNeg = T - 1 := nI_clamp (by omega)
    have hv2 : vp_in (nI i) 20 := vp_in_nI (by omega) (by decide)
    have hc2 : (nI i).toNatClampNeg = i := nI_clamp (by omega)
    refine fw_plX hx (br_f fw_10 (fw_tmX ha hb (br_f fw_10 (fX _ (br_f (fw_n1 (by omega)) (nm_r (fw_p1 (by omega)) ⟨hv, hv, hv, fw_setT (by omega) ?_⟩))))))
    rw [hc]
    refine fY _ (br_t (nI_pos' (by omega)) (nm_r (fw_p1 (by omega)) ⟨hv, hv2, nm_r (e' := upd TP i (TP (T - 1))) (by rw [hc, hc2]) ⟨hv, hv2, nm_r (e' := upd TA i (TA (T - 1))) (by rw [hc, hc2]) ⟨hv, hv2, nm_r (e' := upd TB i (TB (T - 1))) (by rw [hc, hc2]) ⟨rfl, fw_rel ⟨hL, by omega, hF, hTo, hP, hQ, fw_rgV hTP hTP, fw_rgV hTA hTA, fw_rgV hTB hTB⟩ hlq⟩⟩⟩⟩))
theorem i_vc_pass {k : Nat} {u : SX} {v : SY} (I : i_Rel k u v) (hk : k + 5 ≤ 2560) (v1 : Int32) (v2 : Int32) (v3 : Int32) : wpX_pass (fun r u' => wpY_pass (fun r' v' => r' = r ∧ i_Rel (k + 5) u' v') v v1 v2 v3) u v1 v2 v3 := by
  obtain ⟨L, T, F, To, P, Q, TP, TA, TB, lq, ft, th, rfl, rfl, hO, hlq⟩ := I
  have hI : i_Rel (k + 5) (nI L, nI T, F, To, P, Q, TP, TA, TB, lq, ft) (nI L, nI T, F, To, P, Q, TP, TA, TB, th) := fw_rel hO hlq
  unfold wpX_pass wpY_pass
  dsimp only
  rcases fw_ln (lq := lq) (ft := ft) hO.1 v1 with ⟨l, hl, rfl⟩ | ⟨hX, hY⟩
  · obtain ⟨hL, hT, hF, hTo, hP, hQ, hTP, hTA, hTB⟩ := hO
    have hv : vp_in (nI l) 12 := vp_in_nI (by omega) (by decide)
    have hc : (nI l).toNatClampNeg = l := nI_clamp (by omega)
    have g0 : ¬ nI l < 0 := nI_pos (by omega)
    have g1 : nI l < nI L := nI_lt hl (by omega)
    obtain ⟨r, fX, fY, hr⟩ := fw_fn (L := L) (F := F) (To := To) (P := P) (Q := Q) (TP := TP) (TA := TA) (TB := TB) (D := lq) (ft := ft) (th := th) (F l) v2 v3 hT
    refine fw_lnX hL hl (br_f fw_10 ?_)
    rw [hc]
    rcases hr with ⟨rfl, hno⟩ | ⟨i, hi, rfl, m1, m2, m3⟩
    · rcases fw_tm v2 v3 with ⟨a, b, ha, hb, rfl, rfl⟩ | ⟨hX, hY, _⟩
      · exact fw_tmX ha hb (br_f fw_10 ⟨hv, fX _ (br_t rfl (br_f g0 (br_t g1 ⟨hv, fY _ (br_f fw_n1le ⟨rfl, hI⟩)⟩)))⟩)
      · exact hX _ (br_t rfl (br_f g0 (br_t g1 ⟨hv, fY _ (br_f fw_n1le ⟨rfl, hI⟩)⟩)))
    · obtain ⟨a, ha, e2⟩ := hTA i
      obtain ⟨b, hb, e3⟩ := hTB i
      rw [m2] at e2
      rw [m3] at e3
      subst e2 e3
      obtain ⟨p, hp, eP⟩ := hP l
      obtain ⟨q, hq, eQ⟩ := hQ l
      have hv2 : vp_in (nI i) 20 := vp_in_nI (by omega) (by decide)
      have hc2 : (nI i).toNatClampNeg = i := nI_clamp (by omega)
      have eA : nI a + P l = nI (a + p) := by rw [eP, nI_add]
      have eB : nI b + Q l = nI (b + q) := by rw [eQ, nI_add]
      refine fw_tmX ha hb (br_f fw_10 ⟨hv, fX _ (br_f (fw_n1 (by omega)) ⟨hv, nm_r eA ⟨hv, nm_r eB ?_⟩⟩)⟩)
      rcases fw_tm (nI (a + p)) (nI (b + q)) with ⟨a', b', ha', hb', e1, e2⟩ | ⟨hX, hY, _⟩
      · rw [e1, e2]
        refine fw_tmX ha' hb' (br_f fw_10 ⟨hv, fw_setT (by omega) (br_f g0 (br_t g1 ⟨hv, fY _ (br_t (nI_pos' (by omega)) ⟨hv, hv, ?_⟩)⟩))⟩)
        rw [hc, eA, eB, e1, e2]
        exact fw_tmY ha' hb' (br_t rfl ⟨hv, hv2, nm_r (e' := upd TP i (To l)) (by rw [hc2]) ⟨hv, hv2, nm_r (e' := upd TA i (nI a')) (by rw [hc2]) ⟨hv, hv2, nm_r (e' := upd TB i (nI b')) (by rw [hc2]) ⟨rfl, fw_rel ⟨hL, hT, hF, hTo, hP, hQ, fw_rgV hTP hTo, fw_rgU hTA ha' rfl, fw_rgU hTB hb' rfl⟩ hlq⟩⟩⟩⟩)
      · refine hX _ (br_t rfl (br_f g0 (br_t g1 ⟨hv, fY _ (br_t (nI_pos' (by omega)) ⟨hv, hv, ?_⟩)⟩)))
        rw [hc, eA, eB]
        exact hY _ (br_f fw_10 ⟨rfl, hI⟩)
  · exact hX _ (br_t rfl (hY _ _ _ (br_f fw_n1le ⟨rfl, hI⟩) (br_f fw_n1le ⟨rfl, hI⟩)))
end FWH
