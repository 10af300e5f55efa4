section FWD
/-! F: X's least times -/
theorem fw_ebl {L T : Nat} {F To P Q TP TA TB : Nat → Int32} {D ft : Nat → Int32} {post : Int32 → Prop} {i x room : Nat} (hi : i < 20) (hx : x < 7) (hr : room ≤ 15) (hD : fw_Rg D 1001) (hB : fw_Rg TB 16) (hpost : post (nI (fw_mn 1000 (fun s => fw_nv TB i + fw_nv D (x * 19 + s)) (room + 1)))) :
    ∀ k s, s + k = room + 1 → wX_earliestBOfToken_28 post (nI i) (nI (x * 19)) (nI room) (nI L) (nI T) F To P Q TP TA TB D ft (k + 1) (nI (fw_mn 1000 (fun s => fw_nv TB i + fw_nv D (x * 19 + s)) s)) (nI s) := by
  intro k
  induction k with
  | zero =>
    intro s hs
    have : s = room + 1 := by omega
    subst this
    exact br_t (nI_lt (by omega) (by omega)) hpost
  | succ k ih =>
    intro s hs
    obtain ⟨a3, b3⟩ := fw_rg hD (by decide) (x * 19 + s)
    obtain ⟨a4, b4⟩ := fw_rg hB (by decide) i
    have e2 : nI (x * 19) + nI s = nI (x * 19 + s) := nI_add _ _
    have hm := fw_mn_C (C := 1000) (g := fun s => fw_nv TB i + fw_nv D (x * 19 + s)) s
    refine br_f (nI_nlt (by omega) (by omega)) ⟨vp_in_nI hi (by decide), by rw [e2]; exact vp_in_nI (by omega) (by decide), nm_r (e' := nI (fw_nv TB i + fw_nv D (x * 19 + s))) (by rw [e2, nI_clamp (by omega), nI_clamp (by omega), b3, b4, nI_add]) ?_⟩
    have h := ih (s + 1) (by omega)
    refine pk_le _ (fw_nv TB i + fw_nv D (x * 19 + s)) (fun hk => nm_r (nI_1 s) ?_) (fun hk => nm_r (nI_1 s) ?_) rfl rfl (by omega) (by omega)
    · have e : fw_mn 1000 (fun s => fw_nv TB i + fw_nv D (x * 19 + s)) (s + 1) = fw_mn 1000 (fun s => fw_nv TB i + fw_nv D (x * 19 + s)) s := if_neg (Nat.not_lt.mpr hk)
      rw [e] at h
      exact h
    · have e : fw_mn 1000 (fun s => fw_nv TB i + fw_nv D (x * 19 + s)) (s + 1) = fw_nv TB i + fw_nv D (x * 19 + s) := if_pos hk
      rw [e] at h
      exact h
theorem fw_ebt {L T : Nat} {F To P Q TP TA TB : Nat → Int32} {D ft : Nat → Int32} {post : Int32 → Prop} {i a : Nat} (hO : fw_Ok L T F To P Q TP TA TB) (hD : fw_Rg D 1001) (hi : i < 20) (ha : a < 16) (hpost : post (nI (fw_eT (fw_nv D) (fw_nv TP) (fw_nv TA) (fw_nv TB) i a))) : wpX_earliestBOfToken post (nI L, nI T, F, To, P, Q, TP, TA, TB, D, ft) (nI i) (nI a) := by
  obtain ⟨hL, hT, hF, hTo, hP, hQ, hTP, hTA, hTB⟩ := hO
  obtain ⟨a1, b1⟩ := fw_rg hTP (by decide) i
  obtain ⟨a2, b2⟩ := fw_rg hTA (by decide) i
  have hv : vp_in (nI i) 20 := vp_in_nI hi (by decide)
  have hc : (nI i).toNatClampNeg = i := nI_clamp (by omega)
  unfold fw_eT at hpost
  refine ⟨hv, nm_r (e' := nI (fw_nv TP i * 19)) (by rw [hc, b1]; exact pk_mul _ 19) ⟨hv, ?_⟩⟩
  by_cases c : a < fw_nv TA i
  · have e : a + 1 - fw_nv TA i = 0 := by omega
    rw [e] at hpost
    refine nm_r (e' := nI a - nI (fw_nv TA i)) (by rw [hc, b2]) ⟨1, br_t (pk_sneg (by omega) c) hpost⟩
  · have e : a + 1 - fw_nv TA i = a - fw_nv TA i + 1 := by omega
    rw [e] at hpost
    exact nm_r (e' := nI (a - fw_nv TA i)) (by rw [hc, b2, pk_sub (by omega)]) ⟨a - fw_nv TA i + 1 + 1, fw_ebl hi a1 (by omega) hD hTB hpost _ 0 (by omega)⟩
theorem fw_ebb {L T : Nat} {F To P Q TP TA TB : Nat → Int32} {D ft : Nat → Int32} {post : Int32 → Prop} {a : Nat} (hO : fw_Ok L T F To P Q TP TA TB) (hD : fw_Rg D 1001) (ha : a < 16) (hpost : post (nI (fw_eB (fw_nv D) (fw_nv TP) (fw_nv TA) (fw_nv TB) T a))) :
    ∀ k j, j + k = T → wX_earliestB_6 post (nI a) (nI L) (nI T) F To P Q TP TA TB D ft (k + 1) (nI (fw_eB (fw_nv D) (fw_nv TP) (fw_nv TA) (fw_nv TB) j a)) (nI j) := by
  have hT := hO.2.1
  intro k
  induction k with
  | zero =>
    intro j hj
    have : j = T := by omega
    subst this
    exact br_t (nI_le (Nat.le_refl _) (by omega)) hpost
  | succ k ih =>
    intro j hj
    have h := ih (j + 1) (by omega)
    have hm : fw_eB (fw_nv D) (fw_nv TP) (fw_nv TA) (fw_nv TB) j a ≤ 1000 := fw_mn_C _
    have hm2 : fw_eT (fw_nv D) (fw_nv TP) (fw_nv TA) (fw_nv TB) j a ≤ 1000 := fw_mn_C _
    refine br_f (nI_ge (by omega) (by omega)) (fw_ebt hO hD (by omega) ha ?_)
    refine pk_le (fw_eB (fw_nv D) (fw_nv TP) (fw_nv TA) (fw_nv TB) j a) (fw_eT (fw_nv D) (fw_nv TP) (fw_nv TA) (fw_nv TB) j a) (fun hk => nm_r (nI_1 j) ?_) (fun hk => nm_r (nI_1 j) ?_) rfl rfl (by omega) (by omega)
    · have e : fw_eB (fw_nv D) (fw_nv TP) (fw_nv TA) (fw_nv TB) (j + 1) a = fw_eB (fw_nv D) (fw_nv TP) (fw_nv TA) (fw_nv TB) j a := if_neg (Nat.not_lt.mpr hk)
      rw [e] at h
      exact h
    · have e : fw_eB (fw_nv D) (fw_nv TP) (fw_nv TA) (fw_nv TB) (j + 1) a = fw_eT (fw_nv D) (fw_nv TP) (fw_nv TA) (fw_nv TB) j a := if_pos hk
      rw [e] at h
      exact h
theorem fw_eb {L T : Nat} {F To P Q TP TA TB : Nat → Int32} {D ft : Nat → Int32} {post : Int32 → Prop} {a : Nat} (hO : fw_Ok L T F To P Q TP TA TB) (hD : fw_Rg D 1001) (ha : a < 16) (hpost : post (nI (fw_eB (fw_nv D) (fw_nv TP) (fw_nv TA) (fw_nv TB) T a))) : wpX_earliestB post (nI L, nI T, F, To, P, Q, TP, TA, TB, D, ft) (nI a) :=
  ⟨T + 1, fw_ebb hO hD ha hpost T 0 (by omega)⟩
/-! G: places, times, additions, tokens -/
theorem fw_plX {post : Int32 → Prop} {j : Nat} (hj : j < 7) (h : post 1) : wpX_isPlace post (nI j) := br_f (nI_pos (by omega)) (br_f (nI_ge (b := 7) hj (by decide)) h)
theorem fw_plY {post : Int32 → Prop} {j : Nat} (hj : j < 7) (h : post 0) : wpY_badPlace post (nI j) := br_f (nI_pos (by omega)) (br_t (nI_le (b := 6) (by omega) (by decide)) h)
theorem fw_pl (v : Int32) : (∃ j, j < 7 ∧ v = nI j) ∨ ((∀ post : Int32 → Prop, post 0 → wpX_isPlace post v) ∧ (∀ post : Int32 → Prop, post 1 → wpY_badPlace post v) ∧ ∀ j, j < 7 → ¬ nI j = v) := by
  rcases pk_ix v (n := 7) (by decide) with h | h | h
  · exact Or.inr ⟨fun _ hp => br_t h hp, fun _ hp => br_t h hp, fun j hj e => by rw [← e] at h; exact nI_pos (by omega) h⟩
  · have h0 : ¬ v < 0 := Int32.not_lt.mpr (Int32.le_trans (by decide) h)
    have h6 : ¬ v ≤ 6 := Int32.not_le.mpr (Int32.lt_of_lt_of_le (by decide) h)
    exact Or.inr ⟨fun _ hp => br_f h0 (br_t h hp), fun _ hp => br_f h0 (br_f h6 hp), fun j hj e => by rw [← e] at h; exact nI_ge hj (by decide) h⟩
  · exact Or.inl h
theorem fw_tmX {post : Int32 → Prop} {i j : Nat} (hi : i < 16) (hj : j < 16) (h : post 1) : wpX_isTime post (nI i) (nI j) := br_f (nI_pos (by omega)) (br_f (nI_nlt (a := 15) (by omega) (by decide)) (br_f (nI_pos (by omega)) (br_f (nI_nlt (a := 15) (by omega) (by decide)) h)))
theorem fw_tmY {post : Int32 → Prop} {i j : Nat} (hi : i < 16) (hj : j < 16) (h : post 0) : wpY_badTime post (nI i) (nI j) := br_f (nI_pos (by omega)) (br_f (nI_nlt (a := 15) (by omega) (by decide)) (br_f (nI_pos (by omega)) (br_t (nI_le (b := 15) (by omega) (by decide)) h)))
theorem fw_r15 (v : Int32) : (∃ j, j < 16 ∧ v = nI j) ∨ (v < 0 ∧ ∀ j, j < 16 → ¬ nI j = v) ∨ (¬ v < 0 ∧ 15 < v ∧ ¬ v ≤ 15 ∧ ∀ j, j < 16 → ¬ nI j = v) := by
  rcases pk_ix v (n := 16) (by decide) with h | h | h
  · exact Or.inr (Or.inl ⟨h, fun j hj e => by rw [← e] at h; exact nI_pos (by omega) h⟩)
  · have h0 : ¬ v < 0 := Int32.not_lt.mpr (Int32.le_trans (by decide) h)
    have h6 : 15 < v := Int32.lt_of_lt_of_le (by decide) h
    exact Or.inr (Or.inr ⟨h0, h6, Int32.not_le.mpr h6, fun j hj e => by rw [← e] at h; exact nI_ge hj (by decide) h⟩)
  · exact Or.inl h
theorem fw_tm (a b : Int32) : (∃ i j, i < 16 ∧ j < 16 ∧ a = nI i ∧ b = nI j) ∨ ((∀ post : Int32 → Prop, post 0 → wpX_isTime post a b) ∧ (∀ post : Int32 → Prop, post 1 → wpY_badTime post a b) ∧ ∀ i j, i < 16 → j < 16 → ¬ (nI i = a ∧ nI j = b)) := by
  rcases fw_r15 a with ⟨i, hi, rfl⟩ | ⟨h, hn⟩ | ⟨h0, h1, h2, hn⟩
  · have g0 : ¬ nI i < 0 := nI_pos (by omega)
    have g1 : ¬ 15 < nI i := nI_nlt (a := 15) (by omega) (by decide)
    rcases fw_r15 b with ⟨j, hj, rfl⟩ | ⟨h, hn⟩ | ⟨h0, h1, h2, hn⟩
    · exact Or.inl ⟨i, j, hi, hj, rfl, rfl⟩
    · exact Or.inr ⟨fun _ hp => br_f g0 (br_f g1 (br_t h hp)), fun _ hp => br_f g0 (br_f g1 (br_t h hp)), fun i j _ hj e => hn j hj e.2⟩
    · exact Or.inr ⟨fun _ hp => br_f g0 (br_f g1 (br_f h0 (br_t h1 hp))), fun _ hp => br_f g0 (br_f g1 (br_f h0 (br_f h2 hp))), fun i j _ hj e => hn j hj e.2⟩
  · exact Or.inr ⟨fun _ hp => br_t h hp, fun _ hp => br_t h hp, fun i j hi _ e => hn i hi e.1⟩
  · exact Or.inr ⟨fun _ hp => br_f h0 (br_t h1 hp), fun _ hp => br_f h0 (br_t h1 hp), fun i j hi _ e => hn i hi e.1⟩
theorem fw_r3 (v : Int32) : (∃ j, j < 4 ∧ v = nI j ∧ ¬ v < 0 ∧ ¬ 3 < v) ∨ v < 0 ∨ (¬ v < 0 ∧ 3 < v) := by
  rcases pk_ix v (n := 4) (by decide) with h | h | ⟨j, hj, rfl⟩
  · exact Or.inr (Or.inl h)
  · exact Or.inr (Or.inr ⟨Int32.not_lt.mpr (Int32.le_trans (by decide) h), Int32.lt_of_lt_of_le (by decide) h⟩)
  · exact Or.inl ⟨j, hj, rfl, nI_pos (by omega), nI_nlt (a := 3) (by omega) (by decide)⟩
theorem fw_atT {L T : Nat} {F To P Q TP TA TB : Nat → Int32} {D ft : Nat → Int32} {post : Int32 → Prop} {j : Nat} {v1 v2 v3 : Int32} (hj : j < 20) (hm : TP j = v1 ∧ TA j = v2 ∧ TB j = v3) (h : post 1) : wpX_isTokenAt post (nI L, nI T, F, To, P, Q, TP, TA, TB, D, ft) (nI j) v1 v2 v3 := by
  have hv : vp_in (nI j) 20 := vp_in_nI hj (by decide)
  have hc : (nI j).toNatClampNeg = j := nI_clamp (by omega)
  exact ⟨hv, br_t (by rw [hc]; exact hm.1) ⟨hv, br_t (by rw [hc]; exact hm.2.1) ⟨hv, br_t (by rw [hc]; exact hm.2.2) h⟩⟩⟩
theorem fw_atF {L T : Nat} {F To P Q TP TA TB : Nat → Int32} {D ft : Nat → Int32} {post : Int32 → Prop} {j : Nat} {v1 v2 v3 : Int32} (hj : j < 20) (hm : ¬ (TP j = v1 ∧ TA j = v2 ∧ TB j = v3)) (h : post 0) : wpX_isTokenAt post (nI L, nI T, F, To, P, Q, TP, TA, TB, D, ft) (nI j) v1 v2 v3 := by
  have hv : vp_in (nI j) 20 := vp_in_nI hj (by decide)
  have hc : (nI j).toNatClampNeg = j := nI_clamp (by omega)
  refine ⟨hv, ?_⟩
  rw [hc]
  refine br_c (fun h1 => ⟨hv, br_c (fun h2 => ⟨hv, br_c (fun h3 => absurd ⟨h1, h2, h3⟩ hm) (fun _ => h)⟩) (fun _ => h)⟩) (fun _ => h)
theorem fw_fnl {L T : Nat} {F To P Q TP TA TB : Nat → Int32} {D ft th : Nat → Int32} (v1 v2 v3 : Int32) (hT : T ≤ 20) : ∀ k j, j + k = T → ∃ r : Int32,
    (∀ post : Int32 → Prop, post r → wX_findToken_3 post v1 v2 v3 (nI L) (nI T) F To P Q TP TA TB D ft (k + 1) (nI j)) ∧ (∀ post : Int32 → Prop, post r → wY_find_3 post v1 v2 v3 (nI L) (nI T) F To P Q TP TA TB th (k + 1) (nI j)) ∧
    ((r = -1 ∧ ∀ i, j ≤ i → i < T → ¬ (TP i = v1 ∧ TA i = v2 ∧ TB i = v3)) ∨ ∃ i, i < T ∧ r = nI i ∧ TP i = v1 ∧ TA i = v2 ∧ TB i = v3) := by
  intro k
  induction k with
  | zero =>
    intro j hj
    have : j = T := by omega
    subst this
    have h : nI j ≤ nI j := nI_le (Nat.le_refl _) (by omega)
    exact ⟨-1, fun _ hp => br_t h hp, fun _ hp => br_t h hp, Or.inl ⟨rfl, fun i h1 h2 => absurd h2 (by omega)⟩⟩
  | succ k ih =>
    intro j hj
    have h : ¬ nI T ≤ nI j := nI_ge (by omega) (by omega)
    have hv : vp_in (nI j) 20 := vp_in_nI (by omega) (by decide)
    have hc : (nI j).toNatClampNeg = j := nI_clamp (by omega)
    by_cases hm : TP j = v1 ∧ TA j = v2 ∧ TB j = v3
    · refine ⟨nI j, fun _ hp => br_f h (fw_atT (by omega) hm (br_f fw_10 hp)), fun _ hp => br_f h ⟨hv, br_t (by rw [hc]; exact hm.1) ⟨hv, br_t (by rw [hc]; exact hm.2.1) ⟨hv, br_t (by rw [hc]; exact hm.2.2) hp⟩⟩⟩, Or.inr ⟨j, by omega, rfl, hm⟩⟩
    · obtain ⟨r, hX, hY, hr⟩ := ih (j + 1) (by omega)
      refine ⟨r, fun _ hp => br_f h (fw_atF (by omega) hm (br_t rfl (nm_r (nI_1 j) (hX _ hp)))), fun post hp => br_f h ⟨hv, ?_⟩, ?_⟩
      · have hk : ∀ x, x = nI j + 1 → wY_find_3 post v1 v2 v3 (nI L) (nI T) F To P Q TP TA TB th (k + 1) x := nm_r (nI_1 j) (hY _ hp)
        rw [hc]
        exact br_c (fun h1 => ⟨hv, br_c (fun h2 => ⟨hv, br_c (fun h3 => absurd ⟨h1, h2, h3⟩ hm) (fun _ => hk)⟩) (fun _ => hk)⟩) (fun _ => hk)
      · rcases hr with ⟨e, hr⟩ | hr
        · refine Or.inl ⟨e, fun i h1 h2 => ?_⟩
          by_cases c : i = j
          · subst c; exact hm
          · exact hr i (by omega) h2
        · exact Or.inr hr
theorem fw_fn {L T : Nat} {F To P Q TP TA TB : Nat → Int32} {D ft th : Nat → Int32} (v1 v2 v3 : Int32) (hT : T ≤ 20) : ∃ r : Int32,
    (∀ post : Int32 → Prop, post r → wpX_findToken post (nI L, nI T, F, To, P, Q, TP, TA, TB, D, ft) v1 v2 v3) ∧ (∀ post : Int32 → Prop, post r → wpY_find post (nI L, nI T, F, To, P, Q, TP, TA, TB, th) v1 v2 v3) ∧
    ((r = -1 ∧ ∀ i, i < T → ¬ (TP i = v1 ∧ TA i = v2 ∧ TB i = v3)) ∨ ∃ i, i < T ∧ r = nI i ∧ TP i = v1 ∧ TA i = v2 ∧ TB i = v3) := by
  obtain ⟨r, hX, hY, hr⟩ := fw_fnl (L := L) (F := F) (To := To) (P := P) (Q := Q) (TP := TP) (TA := TA) (TB := TB) (D := D) (ft := ft) (th := th) v1 v2 v3 hT T 0 (by omega)
  refine ⟨r, fun post hp => ⟨T + 1, hX post hp⟩, fun post hp => ⟨T + 1, hY post hp⟩, ?_⟩
  rcases hr with ⟨e, hr⟩ | hr
  · exact Or.inl ⟨e, fun i h => hr i (Nat.zero_le i) h⟩
  · exact Or.inr hr
theorem fw_setT {L T : Nat} {F To P Q TP TA TB : Nat → Int32} {lq ft : Nat → Int32} {post : SX → Prop} {i : Nat} {a b c : Int32} (hi : i < 20) (h : post (nI L, nI T, F, To, P, Q, upd TP i a, upd TA i b, upd TB i c, lq, ft)) : wpX_setToken post (nI L, nI T, F, To, P, Q, TP, TA, TB, lq, ft) (nI i) a b c := by
  have hv : vp_in (nI i) 20 := vp_in_nI hi (by decide)
  have hc : (nI i).toNatClampNeg = i := nI_clamp (by omega)
  exact ⟨hv, nm_r (by rw [hc]) ⟨hv, nm_r (by rw [hc]) ⟨hv, nm_r (by rw [hc]) h⟩⟩⟩
end FWD
