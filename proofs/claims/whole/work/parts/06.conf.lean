/-! the constructors; getters; what changes the configuration -/
section
variable {pN pK sT tM fR tC sC : Int32} {c n p kk : Nat} {pe dl hd tl os ga tx rs cs pr pd nx bX na fl aa co ov mx rm sX lX sY dY bY nY lY : Nat → Int32}
theorem cf_i0 (k0 : Int32) : ∃ p, 1 ≤ p ∧ p ≤ 4 ∧ (∀ post : Int32 → Prop, post (nI p) → wpX_clamp post k0 1 4) ∧ (∀ (post : SY → Prop) (k1 : Int32), wY_init_179 post k1 (nI p) 0 0 0 0 0 0 0 (fun _ => 0) (fun _ => 0) (fun _ => 0) (fun _ => 0) (fun _ => 0) (fun _ => 0) (fun _ => 0) (fun _ => 0) (fun _ => 0) (fun _ => 0) (fun _ => 0) (fun _ => 0) (fun _ => 0) (fun _ => 0) (fun _ => 0) (fun _ => 0) (fun _ => 0) (fun _ => 0) (fun _ => 0) (fun _ => 0) → wpY_init post k0 k1) := by
  rcases sm_in3 k0 1 4 (by omega) (by omega) with h | ⟨h, h'⟩ | ⟨a, h1, h4, rfl⟩
  · have g : ¬ (1 : Int32) ≤ k0 := sm_nle h
    exact ⟨1, by omega, by omega, fun post hp => br_f g hp, fun post k1 hp => br_f g (br_t (by decide) hp)⟩
  · have g : (1 : Int32) ≤ k0 := Int32.not_lt.mp h
    have g' : ¬ k0 ≤ (4 : Int32) := sm_nle h'
    exact ⟨4, by omega, by omega, fun post hp => br_t g (br_f g' hp), fun post k1 hp => br_t g (br_f g' hp)⟩
  · have g : (1 : Int32) ≤ nI a := nI_le (a := 1) (b := a) h1 (by omega)
    have g' : nI a ≤ (4 : Int32) := nI_le (a := a) (b := 4) h4 (by omega)
    exact ⟨a, h1, h4, fun post hp => br_t g (br_t g' hp), fun post k1 hp => br_t g (br_t g' hp)⟩
theorem cf_i1 (k1 : Int32) : ∃ k, 4 ≤ k ∧ k ≤ 16 ∧ (∀ post : Int32 → Prop, post (nI k) → wpX_clamp post k1 4 16) ∧ (∀ (post : SY → Prop) (x3 : Int32), wY_init_202 post x3 (nI k) pN pK tC sC sT tM fR pe dl os ga na aa co ov mx fl tx rs cs pr rm sY dY bY nY lY → wY_init_179 post k1 x3 pN pK tC sC sT tM fR pe dl os ga na aa co ov mx fl tx rs cs pr rm sY dY bY nY lY) := by
  rcases sm_in3 k1 4 16 (by omega) (by omega) with h | ⟨h, h'⟩ | ⟨a, h1, h4, rfl⟩
  · have g : ¬ (4 : Int32) ≤ k1 := sm_nle h
    exact ⟨4, by omega, by omega, fun post hp => br_f g hp, fun post x3 hp => br_f g (br_t (by decide) hp)⟩
  · have g : (4 : Int32) ≤ k1 := Int32.not_lt.mp h
    have g' : ¬ k1 ≤ (16 : Int32) := sm_nle h'
    exact ⟨16, by omega, by omega, fun post hp => br_t g (br_f g' hp), fun post x3 hp => br_t g (br_f g' hp)⟩
  · have g : (4 : Int32) ≤ nI a := nI_le (a := 4) (b := a) h1 (by omega)
    have g' : nI a ≤ (16 : Int32) := nI_le (a := a) (b := 16) h4 (by omega)
    exact ⟨a, h1, h4, fun post hp => br_t g (br_t g' hp), fun post x3 hp => br_t g (br_t g' hp)⟩
theorem i_vc0 (k0 : Int32) (k1 : Int32) : wpX_init (fun u => wpY_init (fun v => i_Rel 2 u v) k0 k1) k0 k1 := by
  obtain ⟨p, hp1, hp4, hpX, hpY⟩ := cf_i0 k0
  obtain ⟨k, hk4, hk16, hkX, hkY⟩ := cf_i1 (pN := 0) (pK := 0) (tC := 0) (sC := 0) (sT := 0) (tM := 0) (fR := 0) (pe := fun _ => 0) (dl := fun _ => 0) (os := fun _ => 0) (ga := fun _ => 0) (na := fun _ => 0) (aa := fun _ => 0) (co := fun _ => 0) (ov := fun _ => 0) (mx := fun _ => 0) (fl := fun _ => 0) (tx := fun _ => 0) (rs := fun _ => 0) (cs := fun _ => 0) (pr := fun _ => 0) (rm := fun _ => 0) (sY := fun _ => 0) (dY := fun _ => 0) (bY := fun _ => 0) (nY := fun _ => 0) (lY := fun _ => 0) k1
  unfold wpX_init
  refine hpX _ (hkX _ ?_)
  refine rs_x (c := 0) (n := 0) (by omega) (by omega) ?_
  refine hpY _ k1 (hkY _ _ ?_)
  unfold wY_init_202
  refine rs_y (c := 0) (by omega) ?_
  exact rl_rst (c := 0) (n := 0) (p := p) (q := k) ⟨by omega, by omega, by omega, hp1, hp4⟩ ⟨fun s h => absurd h (Nat.not_lt_zero s), fun s h => absurd h (Nat.not_lt_zero s), fun s h => absurd h (Nat.not_lt_zero s), fun s h => absurd h (Nat.not_lt_zero s), fun s h => absurd h (Nat.not_lt_zero s)⟩ ⟨fun s h => absurd h (Nat.not_lt_zero s), fun s h => absurd h (Nat.not_lt_zero s), fun s h => absurd h (Nat.not_lt_zero s), fun s h => absurd h (Nat.not_lt_zero s)⟩ (fun _ _ => rfl) (Or.inl rfl)
theorem i_vc_analysisState {k : Nat} {u : SX} {v : SY} (I : i_Rel k u v) (hk : k + 5 ≤ 2562) : wpX_analysisState (fun r => wpY_analysisState (fun r' => r' = r ∧ i_Rel (k + 5) u v) v) u := by
  have I' : i_Rel (k + 5) u v := I
  obtain ⟨c, n, p, kk, sT, tM, fR, pe, dl, hd, tl, os, ga, tx, rs, cs, pr, pd, nx, bX, na, fl, aa, co, ov, mx, rm, sX, lX, sY, dY, bY, nY, lY, rfl, rfl, hs, hf, hch, hsi, ha⟩ := I
  exact ⟨rfl, I'⟩
theorem i_vc_now {k : Nat} {u : SX} {v : SY} (I : i_Rel k u v) (hk : k + 5 ≤ 2562) : wpX_now (fun r => wpY_now (fun r' => r' = r ∧ i_Rel (k + 5) u v) v) u := by
  have I' : i_Rel (k + 5) u v := I
  obtain ⟨c, n, p, kk, sT, tM, fR, pe, dl, hd, tl, os, ga, tx, rs, cs, pr, pd, nx, bX, na, fl, aa, co, ov, mx, rm, sX, lX, sY, dY, bY, nY, lY, rfl, rfl, hs, hf, hch, hsi, ha⟩ := I
  exact ⟨rfl, I'⟩
theorem i_vc_observedMax {k : Nat} {u : SX} {v : SY} (I : i_Rel k u v) (hk : k + 5 ≤ 2562) (v1 : Int32) : wpX_observedMax (fun r => wpY_observedMax (fun r' => r' = r ∧ i_Rel (k + 5) u v) v v1) u v1 := by
  have I' : i_Rel (k + 5) u v := I
  obtain ⟨c, n, p, kk, sT, tM, fR, pe, dl, hd, tl, os, ga, tx, rs, cs, pr, pd, nx, bX, na, fl, aa, co, ov, mx, rm, sX, lX, sY, dY, bY, nY, lY, rfl, rfl, hs, hf, hch, hsi, ha⟩ := I
  unfold wpX_observedMax
  rcases pk_ix v1 (n := c) (by omega) with h | h | ⟨j, hj, rfl⟩
  · refine sm_t0 h (br_t rfl ?_)
    exact br_t h ⟨rfl, I'⟩
  · by_cases h0 : v1 < 0
    · refine sm_t0 h0 (br_t rfl ?_)
      exact br_t h0 ⟨rfl, I'⟩
    · refine sm_t2 h0 h (br_t rfl ?_)
      exact br_f h0 (br_f (Int32.not_lt.mpr h) ⟨rfl, I'⟩)
  · refine sm_t1 hj (by omega) (br_f sm_1 ⟨vp_in_nI (by omega) (by omega), ?_⟩)
    exact br_f (nI_pos (by omega)) (br_t (nI_lt hj (by omega)) ⟨vp_in_nI (by omega) (by omega), rfl, I'⟩)
theorem i_vc_completedCount {k : Nat} {u : SX} {v : SY} (I : i_Rel k u v) (hk : k + 5 ≤ 2562) (v1 : Int32) : wpX_completedCount (fun r => wpY_completedCount (fun r' => r' = r ∧ i_Rel (k + 5) u v) v v1) u v1 := by
  have I' : i_Rel (k + 5) u v := I
  obtain ⟨c, n, p, kk, sT, tM, fR, pe, dl, hd, tl, os, ga, tx, rs, cs, pr, pd, nx, bX, na, fl, aa, co, ov, mx, rm, sX, lX, sY, dY, bY, nY, lY, rfl, rfl, hs, hf, hch, hsi, ha⟩ := I
  unfold wpX_completedCount
  rcases pk_ix v1 (n := c) (by omega) with h | h | ⟨j, hj, rfl⟩
  · refine sm_t0 h (br_t rfl ?_)
    exact br_t h ⟨rfl, I'⟩
  · by_cases h0 : v1 < 0
    · refine sm_t0 h0 (br_t rfl ?_)
      exact br_t h0 ⟨rfl, I'⟩
    · refine sm_t2 h0 h (br_t rfl ?_)
      exact br_f h0 (br_f (Int32.not_lt.mpr h) ⟨rfl, I'⟩)
  · refine sm_t1 hj (by omega) (br_f sm_1 ⟨vp_in_nI (by omega) (by omega), ?_⟩)
    exact br_f (nI_pos (by omega)) (br_t (nI_lt hj (by omega)) ⟨vp_in_nI (by omega) (by omega), rfl, I'⟩)
theorem i_vc_overrunCount {k : Nat} {u : SX} {v : SY} (I : i_Rel k u v) (hk : k + 5 ≤ 2562) (v1 : Int32) : wpX_overrunCount (fun r => wpY_overrunCount (fun r' => r' = r ∧ i_Rel (k + 5) u v) v v1) u v1 := by
  have I' : i_Rel (k + 5) u v := I
  obtain ⟨c, n, p, kk, sT, tM, fR, pe, dl, hd, tl, os, ga, tx, rs, cs, pr, pd, nx, bX, na, fl, aa, co, ov, mx, rm, sX, lX, sY, dY, bY, nY, lY, rfl, rfl, hs, hf, hch, hsi, ha⟩ := I
  unfold wpX_overrunCount
  rcases pk_ix v1 (n := c) (by omega) with h | h | ⟨j, hj, rfl⟩
  · refine sm_t0 h (br_t rfl ?_)
    exact br_t h ⟨rfl, I'⟩
  · by_cases h0 : v1 < 0
    · refine sm_t0 h0 (br_t rfl ?_)
      exact br_t h0 ⟨rfl, I'⟩
    · refine sm_t2 h0 h (br_t rfl ?_)
      exact br_f h0 (br_f (Int32.not_lt.mpr h) ⟨rfl, I'⟩)
  · refine sm_t1 hj (by omega) (br_f sm_1 ⟨vp_in_nI (by omega) (by omega), ?_⟩)
    exact br_f (nI_pos (by omega)) (br_t (nI_lt hj (by omega)) ⟨vp_in_nI (by omega) (by omega), rfl, I'⟩)
theorem i_vc_stepObservedMax {k : Nat} {u : SX} {v : SY} (I : i_Rel k u v) (hk : k + 5 ≤ 2562) (v1 : Int32) : wpX_stepObservedMax (fun r => wpY_stepObservedMax (fun r' => r' = r ∧ i_Rel (k + 5) u v) v v1) u v1 := by
  have I' : i_Rel (k + 5) u v := I
  obtain ⟨c, n, p, kk, sT, tM, fR, pe, dl, hd, tl, os, ga, tx, rs, cs, pr, pd, nx, bX, na, fl, aa, co, ov, mx, rm, sX, lX, sY, dY, bY, nY, lY, rfl, rfl, hs, hf, hch, hsi, ha⟩ := I
  unfold wpX_stepObservedMax
  rcases pk_ix v1 (n := n) (by omega) with h | h | ⟨j, hj, rfl⟩
  · refine sm_s0 h (br_t rfl ?_)
    exact br_t h ⟨rfl, I'⟩
  · by_cases h0 : v1 < 0
    · refine sm_s0 h0 (br_t rfl ?_)
      exact br_t h0 ⟨rfl, I'⟩
    · refine sm_s2 h0 h (br_t rfl ?_)
      exact br_f h0 (br_f (Int32.not_lt.mpr h) ⟨rfl, I'⟩)
  · refine sm_s1 hj (by omega) (br_f sm_1 ⟨vp_in_nI (by omega) (by omega), ?_⟩)
    exact br_f (nI_pos (by omega)) (br_t (nI_lt hj (by omega)) ⟨vp_in_nI (by omega) (by omega), by rw [nI_clamp (by omega)]; exact hsi.2.2.1 j hj, I'⟩)
theorem i_vc_stepRemaining {k : Nat} {u : SX} {v : SY} (I : i_Rel k u v) (hk : k + 5 ≤ 2562) (v1 : Int32) : wpX_stepRemaining (fun r => wpY_stepRemaining (fun r' => r' = r ∧ i_Rel (k + 5) u v) v v1) u v1 := by
  have I' : i_Rel (k + 5) u v := I
  obtain ⟨c, n, p, kk, sT, tM, fR, pe, dl, hd, tl, os, ga, tx, rs, cs, pr, pd, nx, bX, na, fl, aa, co, ov, mx, rm, sX, lX, sY, dY, bY, nY, lY, rfl, rfl, hs, hf, hch, hsi, ha⟩ := I
  unfold wpX_stepRemaining
  rcases pk_ix v1 (n := n) (by omega) with h | h | ⟨j, hj, rfl⟩
  · refine sm_s0 h (br_t rfl ?_)
    exact br_t h ⟨rfl, I'⟩
  · by_cases h0 : v1 < 0
    · refine sm_s0 h0 (br_t rfl ?_)
      exact br_t h0 ⟨rfl, I'⟩
    · refine sm_s2 h0 h (br_t rfl ?_)
      exact br_f h0 (br_f (Int32.not_lt.mpr h) ⟨rfl, I'⟩)
  · refine sm_s1 hj (by omega) (br_f sm_1 ⟨vp_in_nI (by omega) (by omega), ?_⟩)
    exact br_f (nI_pos (by omega)) (br_t (nI_lt hj (by omega)) ⟨vp_in_nI (by omega) (by omega), rfl, I'⟩)
theorem i_vc_runningOn {k : Nat} {u : SX} {v : SY} (I : i_Rel k u v) (hk : k + 5 ≤ 2562) (v1 : Int32) : wpX_runningOn (fun r => wpY_runningOn (fun r' => r' = r ∧ i_Rel (k + 5) u v) v v1) u v1 := by
  have I' : i_Rel (k + 5) u v := I
  obtain ⟨c, n, p, kk, sT, tM, fR, pe, dl, hd, tl, os, ga, tx, rs, cs, pr, pd, nx, bX, na, fl, aa, co, ov, mx, rm, sX, lX, sY, dY, bY, nY, lY, rfl, rfl, hs, hf, hch, hsi, ha⟩ := I
  unfold wpX_runningOn wpY_runningOn
  rcases sm_res (sC := nI n) (tC := nI c) (pK := nI kk) (sT := sT) (tM := tM) (fR := fR) (pe := pe) (dl := dl) (hd := hd) (tl := tl) (os := os) (ga := ga) (tx := tx) (rs := rs) (cs := cs) (pr := pr) (pd := pd) (nx := nx) (bX := bX) (na := na) (fl := fl) (aa := aa) (co := co) (ov := ov) (mx := mx) (rm := rm) (sX := sX) (lX := lX) (sY := sY) (dY := dY) (bY := bY) (nY := nY) (lY := lY) p (by omega) v1 with ⟨z, _, hx, hy⟩ | ⟨hr, hx, hy⟩
  · exact hx _ (br_t rfl (hy _ (br_t rfl ⟨rfl, I'⟩)))
  · rcases hr with rfl | ⟨q, hq, rfl⟩
    · exact hx _ (br_f sm_1 ⟨vp_in_nI (n := 8) (by omega) (by omega), hy _ (br_f sm_1 (br_t rfl ⟨hsi.2.2.2.2, I'⟩))⟩)
    · have h8 : ¬ nI q = (8 : Int32) := fun z => by
        have := (nI_eq (a := q) (b := 8) (by omega) (by omega)).mp z
        omega
      exact hx _ (br_f sm_1 ⟨vp_in_nI (by omega) (by omega), hy _ (br_f sm_1 (br_f h8 ⟨vp_in_nI (by omega) (by omega), by rw [nI_clamp (by omega)]; exact hsi.2.2.2.1 q (by omega), I'⟩))⟩)
theorem rl_en_1 {r : Nat} (h : r ≤ 200 ∨ r = 1000000) : (r = 1000000 ∧ rl_en r = -1) ∨ (r ≤ 200 ∧ rl_en r = nI r) := by
  unfold rl_en
  by_cases e : r = 1000000
  · exact Or.inl ⟨e, if_pos e⟩
  · exact Or.inr ⟨by omega, if_neg e⟩
theorem rl_inf {r : Nat} (h : r ≤ 200 ∨ r = 1000000) : nI r = 1000000 ↔ r = 1000000 := nI_eq (a := r) (b := 1000000) (by omega) (by omega)
theorem i_vc_stepBound {k : Nat} {u : SX} {v : SY} (I : i_Rel k u v) (hk : k + 5 ≤ 2562) (v1 : Int32) : wpX_stepBound (fun r => wpY_stepBound (fun r' => r' = r ∧ i_Rel (k + 5) u v) v v1) u v1 := by
  have I' : i_Rel (k + 5) u v := I
  obtain ⟨c, n, p, kk, sT, tM, fR, pe, dl, hd, tl, os, ga, tx, rs, cs, pr, pd, nx, bX, na, fl, aa, co, ov, mx, rm, sX, lX, sY, dY, bY, nY, lY, rfl, rfl, hs, hf, hch, hsi, ha⟩ := I
  unfold wpX_stepBound
  rcases pk_ix v1 (n := n) (by omega) with h | h | ⟨j, hj, rfl⟩
  · refine sm_s0 h (br_t rfl ?_)
    exact br_t h ⟨rfl, I'⟩
  · by_cases h0 : v1 < 0
    · refine sm_s0 h0 (br_t rfl ?_)
      exact br_t h0 ⟨rfl, I'⟩
    · refine sm_s2 h0 h (br_t rfl ?_)
      exact br_f h0 (br_f (Int32.not_lt.mpr h) ⟨rfl, I'⟩)
  · refine sm_s1 hj (by omega) (br_f sm_1 ?_)
    have hj0 : ¬ nI j < 0 := nI_pos (by omega)
    have hjn : nI j < nI n := nI_lt hj (by omega)
    have hin : vp_in (nI j) 16 := vp_in_nI (by omega) (by omega)
    by_cases hT : sT = 0
    · exact br_t hT (br_f hj0 (br_t hjn (br_t hT ⟨rfl, I'⟩)))
    · rcases ha with z | ⟨_, R, hR⟩
      · exact absurd z hT
      · obtain ⟨r1, r2, r3⟩ := hR j hj
        refine br_f hT ⟨hin, br_f hj0 (br_t hjn (br_f hT ⟨hin, ?_⟩))⟩
        rw [nI_clamp (by omega), r3, r2]
        rcases rl_en_1 r1 with ⟨e, e'⟩ | ⟨e, e'⟩
        · rw [e']
          exact br_t ((rl_inf r1).mpr e) ⟨rfl, I'⟩
        · rw [e']
          exact br_f (fun z => by have := (rl_inf r1).mp z; omega) ⟨hin, rfl, I'⟩
theorem i_vc_transactionBound {k : Nat} {u : SX} {v : SY} (I : i_Rel k u v) (hk : k + 5 ≤ 2562) (v1 : Int32) : wpX_transactionBound (fun r => wpY_transactionBound (fun r' => r' = r ∧ i_Rel (k + 5) u v) v v1) u v1 := by
  have I' : i_Rel (k + 5) u v := I
  obtain ⟨c, n, p, kk, sT, tM, fR, pe, dl, hd, tl, os, ga, tx, rs, cs, pr, pd, nx, bX, na, fl, aa, co, ov, mx, rm, sX, lX, sY, dY, bY, nY, lY, rfl, rfl, hs, hf, hch, hsi, ha⟩ := I
  unfold wpX_transactionBound
  rcases pk_ix v1 (n := c) (by omega) with h | h | ⟨j, hj, rfl⟩
  · refine sm_t0 h (br_t rfl ?_)
    exact br_t h ⟨rfl, I'⟩
  · by_cases h0 : v1 < 0
    · refine sm_t0 h0 (br_t rfl ?_)
      exact br_t h0 ⟨rfl, I'⟩
    · refine sm_t2 h0 h (br_t rfl ?_)
      exact br_f h0 (br_f (Int32.not_lt.mpr h) ⟨rfl, I'⟩)
  · refine sm_t1 hj (by omega) (br_f sm_1 ?_)
    have hj0 : ¬ nI j < 0 := nI_pos (by omega)
    have hjn : nI j < nI c := nI_lt hj (by omega)
    have hin : vp_in (nI j) 8 := vp_in_nI (by omega) (by omega)
    by_cases hT : sT = 0
    · exact br_t hT (br_f hj0 (br_t hjn (br_t hT ⟨rfl, I'⟩)))
    · rcases ha with z | ⟨hh, R, hR⟩
      · exact absurd z hT
      · obtain ⟨c1, c2, _, _⟩ := hch
        have hhj := hh j hj
        rcases sn_L_some tx (nI j) n with ⟨_, b⟩ | ⟨l, hl, a, b, d⟩
        · exfalso
          rcases sn_F_some tx (nI j) n 0 with ⟨a, _⟩ | ⟨m, _, hm, _, e, _⟩
          · exact hhj (by rw [c1 j hj, a])
          · exact b m (by omega) e
        · have etl : tl j = nI l := by rw [c2 j hj, a]
          obtain ⟨r1, r2, r3⟩ := hR l hl
          have hil : vp_in (nI l) 16 := vp_in_nI (by omega) (by omega)
          refine br_f hT ⟨hin, ?_⟩
          rw [nI_clamp (by omega), etl, nI_clamp (by omega)]
          refine ⟨hil, br_f hj0 (br_t hjn (br_f hT (sm_yt (by omega) ?_)))⟩
          rw [a]
          refine br_f (bs_ne (by omega)) ⟨hil, ?_⟩
          rw [nI_clamp (by omega), r3, r2]
          rcases rl_en_1 r1 with ⟨e, e'⟩ | ⟨e, e'⟩
          · rw [e']
            exact br_t ((rl_inf r1).mpr e) ⟨rfl, I'⟩
          · rw [e']
            exact br_f (fun z => by have := (rl_inf r1).mp z; omega) ⟨hil, rfl, I'⟩
end
