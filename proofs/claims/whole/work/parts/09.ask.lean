section FWI
/-! O: what only asks -/
theorem fw_okT {L T : Nat} {F To P Q TP TA TB : Nat → Int32} (hO : fw_Ok L T F To P Q TP TA TB) : (∀ i, fw_nv To i < 7) ∧ (∀ i, fw_nv P i ≤ 3) ∧ (∀ i, fw_nv Q i ≤ 3) ∧ ∀ i, fw_nv TP i < 7 :=
  ⟨fun i => (fw_rg hO.2.2.2.1 (by decide) i).1, fun i => Nat.le_of_lt_succ (fw_rg hO.2.2.2.2.1 (by decide) i).1, fun i => Nat.le_of_lt_succ (fw_rg hO.2.2.2.2.2.1 (by decide) i).1, fun i => (fw_rg hO.2.2.2.2.2.2.1 (by decide) i).1⟩
theorem i_vc_possible {k : Nat} {u : SX} {v : SY} (I : i_Rel k u v) (hk : k + 5 ≤ 2560) (v1 : Int32) (v2 : Int32) (v3 : Int32) : wpX_possible (fun r u' => wpY_possible (fun r' v' => r' = r ∧ i_Rel (k + 5) u' v') v v1 v2 v3) u v1 v2 v3 := by
  obtain ⟨L, T, F, To, P, Q, TP, TA, TB, lq, ft, th, rfl, rfl, hO, hlq⟩ := I
  have hI : i_Rel (k + 5) (nI L, nI T, F, To, P, Q, TP, TA, TB, lq, ft) (nI L, nI T, F, To, P, Q, TP, TA, TB, th) := fw_rel hO hlq
  obtain ⟨g1, g2, g3, g4⟩ := fw_okT hO
  unfold wpX_possible wpY_possible
  dsimp only
  rcases fw_pl v1 with ⟨x, hx, rfl⟩ | ⟨hX, hY, _⟩
  · rcases fw_tm v2 v3 with ⟨a, b, ha, hb, rfl, rfl⟩ | ⟨hX, hY, _⟩
    · refine fw_plX hx (br_f fw_10 (fw_tmX ha hb (br_f fw_10 (fw_find hO hlq hx (fun D hD hG => fw_eb hO hD ha ?_)))))
      have hm : fw_eB (fw_nv D) (fw_nv TP) (fw_nv TA) (fw_nv TB) T a ≤ 1000 := fw_mn_C _
      have hle := fw_eB_le (tp := fw_nv TP) (ta := fw_nv TA) (tb := fw_nv TB) (T := T) g1 g2 g3 hG g4 (a := a) (b := b) (by omega) (by omega)
      refine pk_lt b (fw_eB (fw_nv D) (fw_nv TP) (fw_nv TA) (fw_nv TB) T a) (fun c => ?_) (fun c => ?_) rfl rfl (by omega) (by omega)
      · exact fw_plY hx (br_t rfl (fw_tmY ha hb (br_t rfl (fw_st hO (fun th' h => fw_below0 hx (by omega) (by omega) h (fun z => absurd (hle.mpr z) (by omega)) (fun _ => br_t rfl ⟨rfl, fw_rel hO hD⟩))))))
      · exact fw_plY hx (br_t rfl (fw_tmY ha hb (br_t rfl (fw_st hO (fun th' h => fw_below0 hx (by omega) (by omega) h (fun _ => br_f fw_10 ⟨rfl, fw_rel hO hD⟩) (fun z => absurd (hle.mp c) z))))))
    · exact fw_plX hx (br_f fw_10 (hX _ (br_t rfl (fw_plY hx (br_t rfl (hY _ (br_f fw_10 ⟨rfl, hI⟩)))))))
  · exact hX _ (br_t rfl (hY _ (br_f fw_10 ⟨rfl, hI⟩)))
theorem i_vc_ready {k : Nat} {u : SX} {v : SY} (I : i_Rel k u v) (hk : k + 5 ≤ 2560) (v1 : Int32) (v2 : Int32) (v3 : Int32) : wpX_ready (fun r u' => wpY_ready (fun r' v' => r' = r ∧ i_Rel (k + 5) u' v') v v1 v2 v3) u v1 v2 v3 := by
  obtain ⟨L, T, F, To, P, Q, TP, TA, TB, lq, ft, th, rfl, rfl, hO, hlq⟩ := I
  have hI : i_Rel (k + 5) (nI L, nI T, F, To, P, Q, TP, TA, TB, lq, ft) (nI L, nI T, F, To, P, Q, TP, TA, TB, th) := fw_rel hO hlq
  obtain ⟨g1, g2, g3, g4⟩ := fw_okT hO
  obtain ⟨r, fX, fY, hr⟩ := fw_fn (L := L) (F := F) (To := To) (P := P) (Q := Q) (TP := TP) (TA := TA) (TB := TB) (D := lq) (ft := ft) (th := th) v1 v2 v3 hO.2.1
  unfold wpX_ready wpY_ready
  dsimp only
  rcases fw_pl v1 with ⟨x, hx, rfl⟩ | ⟨hX, hY, _⟩
  · rcases fw_tm v2 v3 with ⟨a, b, ha, hb, rfl, rfl⟩ | ⟨hX, hY, _⟩
    · refine fw_plX hx (br_f fw_10 (fw_tmX ha hb (br_f fw_10 (fX _ ?_))))
      have hT := hO.2.1
      rcases hr with ⟨rfl, hno⟩ | ⟨i, hi, rfl, _⟩
      · exact br_t rfl (fw_plY hx (br_t rfl (fw_tmY ha hb (br_t rfl (fY _ (br_f fw_n1le ⟨rfl, hI⟩))))))
      · refine br_f (fw_n1 (by omega)) (fw_find hO hlq hx (fun D hD hG => ⟨T + 1, fw_xr38 hO hD ha hb (fun hall => ?_) (fun hex => ?_) T 0 (by omega) (fun i hi => absurd hi (Nat.not_lt_zero i))⟩))
        · have hB := fw_readyB (T := T) (tp := fw_nv TP) (ta := fw_nv TA) (tb := fw_nv TB) (K := fw_K TP TA TB x a b) g1 g2 g3 hG g4 (a := a) (b := b) (by omega) (by omega)
          refine fw_plY hx (br_t rfl (fw_tmY ha hb (br_t rfl (fY _ (br_t (nI_pos' (by omega)) (fw_empty (fun th' h0 => ⟨T + 1, fw_yr36 hO hx ha hb (fun _ th2 => ⟨rfl, fw_rel hO hD⟩) (fun z => ?_) T 0 th' (by omega) (fw_is0 h0 fw_tok0)⟩)))))))
          obtain ⟨i, h1, h2, h3⟩ := hB.mpr z
          exact absurd (hall i h1 h2) (by omega)
        · have hB := fw_readyB (T := T) (tp := fw_nv TP) (ta := fw_nv TA) (tb := fw_nv TB) (K := fw_K TP TA TB x a b) g1 g2 g3 hG g4 (a := a) (b := b) (by omega) (by omega)
          exact fw_plY hx (br_t rfl (fw_tmY ha hb (br_t rfl (fY _ (br_t (nI_pos' (by omega)) (fw_empty (fun th' h0 => ⟨T + 1, fw_yr36 hO hx ha hb (fun z => absurd (hB.mp hex) z) (fun _ th2 => ⟨rfl, fw_rel hO hD⟩) T 0 th' (by omega) (fw_is0 h0 fw_tok0)⟩)))))))
    · exact fw_plX hx (br_f fw_10 (hX _ (br_t rfl (fw_plY hx (br_t rfl (hY _ (br_f fw_10 ⟨rfl, hI⟩)))))))
  · exact hX _ (br_t rfl (hY _ (br_f fw_10 ⟨rfl, hI⟩)))
theorem fw_pmF {L T : Nat} {F To P Q TP TA TB : Nat → Int32} {D : Nat → Int32} {pl : Nat} (hO : fw_Ok L T F To P Q TP TA TB) (hG : fw_Good L (fw_nv F) (fw_nv To) (fw_nv P) (fw_nv Q) pl (fw_nv D)) (a b : Nat) (ha : a < 16) (hb : b < 16) : fw_PM (fw_R L (fw_nv F) (fw_nv To) (fw_nv P) (fw_nv Q) (fw_tok T (fw_nv TP) (fw_nv TA) (fw_nv TB) (fun _ => True)) pl) a b ↔ fw_eB (fw_nv D) (fw_nv TP) (fw_nv TA) (fw_nv TB) T a = b ∧ b < fw_mn 16 (fw_eB (fw_nv D) (fw_nv TP) (fw_nv TA) (fw_nv TB) T) a := by
  obtain ⟨g1, g2, g3, g4⟩ := fw_okT hO
  exact fw_pm2 (Nat.le_refl 16) (fw_frontH g1 g2 g3 hG g4) ha hb
theorem fw_ct00 {C : Nat} {e : Nat → Nat} {K : Nat} : fw_ct C e (0 / K) (0 % K) = 0 := by
  rw [Nat.zero_div, Nat.zero_mod, fw_ct_0]
  rfl
theorem i_vc_front {k : Nat} {u : SX} {v : SY} (I : i_Rel k u v) (hk : k + 5 ≤ 2560) (v1 : Int32) : wpX_front (fun r u' => wpY_front (fun r' v' => r' = r ∧ i_Rel (k + 5) u' v') v v1) u v1 := by
  obtain ⟨L, T, F, To, P, Q, TP, TA, TB, lq, ft, th, rfl, rfl, hO, hlq⟩ := I
  have hI : i_Rel (k + 5) (nI L, nI T, F, To, P, Q, TP, TA, TB, lq, ft) (nI L, nI T, F, To, P, Q, TP, TA, TB, th) := fw_rel hO hlq
  unfold wpX_front wpY_front
  dsimp only
  rcases fw_pl v1 with ⟨x, hx, rfl⟩ | ⟨hX, hY, _⟩
  · refine fw_plX hx (br_f fw_10 (fw_fF hO hlq hx (fun D ft' hD hG hft => fw_plY hx (br_t rfl (fw_st hO (fun th' h => ⟨257, ?_⟩))))))
    have := fw_yf17 (T := T) (TP := TP) (TA := TA) (TB := TB) (F := F) (To := To) (P := P) (Q := Q) (post := fun r' v' => r' = nI (fw_cn 16 (fw_eB (fw_nv D) (fw_nv TP) (fw_nv TA) (fw_nv TB) T) 16) ∧ i_Rel (k + 5) (nI L, nI T, F, To, P, Q, TP, TA, TB, D, ft') v') hx h (fw_pmF hO hG) ⟨rfl, fw_rel hO hD⟩ 256 0 rfl
    rw [fw_ct00] at this
    exact this
  · exact hX _ (br_t rfl (hY _ (br_f fw_10 ⟨rfl, hI⟩)))
theorem i_vc_frontAt {k : Nat} {u : SX} {v : SY} (I : i_Rel k u v) (hk : k + 5 ≤ 2560) (v1 : Int32) (v2 : Int32) : wpX_frontAt (fun r u' => wpY_frontAt (fun r' v' => r' = r ∧ i_Rel (k + 5) u' v') v v1 v2) u v1 v2 := by
  obtain ⟨L, T, F, To, P, Q, TP, TA, TB, lq, ft, th, rfl, rfl, hO, hlq⟩ := I
  have hI : i_Rel (k + 5) (nI L, nI T, F, To, P, Q, TP, TA, TB, lq, ft) (nI L, nI T, F, To, P, Q, TP, TA, TB, th) := fw_rel hO hlq
  unfold wpX_frontAt wpY_frontAt
  dsimp only
  rcases fw_pl v1 with ⟨x, hx, rfl⟩ | ⟨hX, hY, _⟩
  · refine fw_plX hx (br_f fw_10 (fw_fF hO hlq hx (fun D ft' hD hG hft => ?_)))
    dsimp only
    have hcn := fw_cn_le (C := 16) (e := fw_eB (fw_nv D) (fw_nv TP) (fw_nv TA) (fw_nv TB) T) 16
    have key : ∀ r : Int32, (∀ a, a < 16 → fw_eB (fw_nv D) (fw_nv TP) (fw_nv TA) (fw_nv TB) T a < fw_mn 16 (fw_eB (fw_nv D) (fw_nv TP) (fw_nv TA) (fw_nv TB) T) a → nI (fw_cn 16 (fw_eB (fw_nv D) (fw_nv TP) (fw_nv TA) (fw_nv TB) T) a) = v2 → nI (16 * a + fw_eB (fw_nv D) (fw_nv TP) (fw_nv TA) (fw_nv TB) T a) = r) → ((∀ j, j < fw_cn 16 (fw_eB (fw_nv D) (fw_nv TP) (fw_nv TA) (fw_nv TB) T) 16 → ¬ nI j = v2) → -1 = r) → wpY_badPlace (fun r_1 => (r_1 = 0 → wpY_spreadTokens (fun u => match u with | (f_lines_4, f_tokens_5, a_froms_6, a_tos_7, a_firsts_8, a_seconds_9, a_places_10, a_as_11, a_bs_12, a_there_13) => ∃ n18 : Nat, wY_frontAt_18 (fun r' v' => r' = r ∧ i_Rel (k + 5) (nI L, nI T, F, To, P, Q, TP, TA, TB, D, ft') v') (nI x) v2 f_lines_4 f_tokens_5 a_froms_6 a_tos_7 a_firsts_8 a_seconds_9 a_places_10 a_as_11 a_bs_12 a_there_13 n18 0 0) (nI L, nI T, F, To, P, Q, TP, TA, TB, th)) ∧ (¬ r_1 = 0 → (-1 = r ∧ i_Rel (k + 5) (nI L, nI T, F, To, P, Q, TP, TA, TB, D, ft') (nI L, nI T, F, To, P, Q, TP, TA, TB, th)))) (nI x) := by
      intro r k1 k2
      refine fw_plY hx (br_t rfl (fw_st hO (fun th' h => ⟨257, ?_⟩)))
      have := fw_yfa18 (T := T) (TP := TP) (TA := TA) (TB := TB) (F := F) (To := To) (P := P) (Q := Q) (post := fun r' v' => r' = r ∧ i_Rel (k + 5) (nI L, nI T, F, To, P, Q, TP, TA, TB, D, ft') v') (ix := v2) hx h (fw_pmF hO hG) (fun a h1 h2 h3 => ⟨k1 a h1 h2 h3, fw_rel hO hD⟩) (fun h1 => ⟨k2 h1, fw_rel hO hD⟩) 256 0 rfl (fun j hj => by rw [fw_ct00] at hj; exact absurd hj (Nat.not_lt_zero j))
      rw [fw_ct00] at this
      exact this
    rcases pk_ix v2 (n := fw_cn 16 (fw_eB (fw_nv D) (fw_nv TP) (fw_nv TA) (fw_nv TB) T) 16) (by omega) with h | h | ⟨j, hj, rfl⟩
    · refine br_t h (key (-1) (fun a h1 h2 h3 => ?_) (fun _ => rfl))
      rw [← h3] at h
      exact absurd h (nI_pos (by have := fw_cn_le (C := 16) (e := fw_eB (fw_nv D) (fw_nv TP) (fw_nv TA) (fw_nv TB) T) a; omega))
    · have h0 : ¬ v2 < 0 := Int32.not_lt.mpr (Int32.le_trans (nI_pos' (by omega)) h)
      refine br_f h0 (br_f (Int32.not_lt.mpr h) (key (-1) (fun a h1 h2 h3 => ?_) (fun _ => rfl)))
      rw [← h3] at h
      exact absurd h (nI_ge (fw_cnM h2 16 h1) (by omega))
    · have hc : (nI j).toNatClampNeg = j := nI_clamp (by omega)
      refine br_f (nI_pos (by omega)) (br_t (nI_lt hj (by omega)) ⟨vp_in_nI (by omega) (by decide), key _ (fun a h1 h2 h3 => ?_) (fun h1 => absurd rfl (h1 j hj))⟩)
      have := fw_cn_le (C := 16) (e := fw_eB (fw_nv D) (fw_nv TP) (fw_nv TA) (fw_nv TB) T) a
      have e := (nI_eq (by omega) (by omega)).mp h3
      rw [hc, ← e]
      exact (hft a h1 h2).symm
  · exact hX _ (br_t rfl (hY _ (br_f fw_10 ⟨rfl, hI⟩)))
theorem i_vc_shortest {k : Nat} {u : SX} {v : SY} (I : i_Rel k u v) (hk : k + 5 ≤ 2560) (v1 : Int32) (v2 : Int32) : wpX_shortest (fun r u' => wpY_shortest (fun r' v' => r' = r ∧ i_Rel (k + 5) u' v') v v1 v2) u v1 v2 := by
  obtain ⟨L, T, F, To, P, Q, TP, TA, TB, lq, ft, th, rfl, rfl, hO, hlq⟩ := I
  have hI : i_Rel (k + 5) (nI L, nI T, F, To, P, Q, TP, TA, TB, lq, ft) (nI L, nI T, F, To, P, Q, TP, TA, TB, th) := fw_rel hO hlq
  obtain ⟨g1, g2, g3, g4⟩ := fw_okT hO
  unfold wpX_shortest wpY_shortest
  dsimp only
  rcases fw_pl v1 with ⟨x, hx, rfl⟩ | ⟨hX, hY, _⟩
  · rcases fw_pl v2 with ⟨y, hy, rfl⟩ | ⟨hX, hY, _⟩
    · refine fw_plX hx (br_f fw_10 (fw_plX hy (br_f fw_10 (fw_find hO hlq hy (fun D hD hG => ⟨20, ?_⟩)))))
      refine fw_xs31 (ft := ft) hx hD ?_ 19 0 rfl
      refine fw_plY hx (br_t rfl (fw_plY hy (br_t rfl (fw_empty (fun th1 h1 => fw_set (a := 0) (b := 0) hx (by decide) (by decide) (fw_spr hO (I := fw_one x) (fun _ _ _ z => by rw [z.1]; exact hx) (fw_isU (S := fun _ _ _ => False) (by decide) (by decide) (fw_is0 h1 (fun _ _ _ z => z)) (fun _ _ _ => ⟨fun z => Or.inr z, fun z => z.elim False.elim (fun z => z)⟩)) (fun th2 h2 => ⟨362, ?_⟩)))))))
      have := fw_ys36 (L := L) (T := T) (TP := TP) (TA := TA) (TB := TB) (F := F) (To := To) (P := P) (Q := Q) (post := fun r' v' => r' = nI (fw_cn 1000 (fun s => fw_nv D (x * 19 + s)) 19) ∧ i_Rel (k + 5) (nI L, nI T, F, To, P, Q, TP, TA, TB, D, ft) v') (e := fun s => fw_nv D (x * 19 + s)) hy h2 (fun a ha h => fw_shortB g1 g2 g3 hG hx ha h) (fun a b ha hb => fw_pm2 (by decide) (fw_shortH g1 g2 g3 hG hx) ha hb) ⟨rfl, fw_rel hO hD⟩ 361 0 rfl
      rw [fw_ct00] at this
      exact this
    · exact fw_plX hx (br_f fw_10 (hX _ (br_t rfl (fw_plY hx (br_t rfl (hY _ (br_f fw_10 ⟨rfl, hI⟩)))))))
  · exact hX _ (br_t rfl (hY _ (br_f fw_10 ⟨rfl, hI⟩)))
end FWI
