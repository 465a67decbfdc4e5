/-! what changes the configuration or the arrivals -/
section
variable {pN pK sT tM fR tC sC : Int32} {c n p kk : Nat} {pe dl hd tl os ga tx rs cs pr pd nx bX na fl aa co ov mx rm sX lX sY dY bY nY lY : Nat → Int32}
theorem cf_up {f : Nat → Int32} {v : Int32} {i : Nat} (h : i < 2 ^ 31) : upd f (nI i).toNatClampNeg v = upd f i v := by rw [nI_clamp h]
theorem cf_cc {post : SX → Prop} (hc : c ≤ 8) (hn : n ≤ 16) (hp : post (pN, pK, nI c, nI n, 0, 0, -1, pe, dl, hd, tl, os, ga, tx, rs, cs, pr, pd, nx, bX, bs_mz na os c, bs_mz fl (fun _ => 0) c, aa, bs_mz co (fun _ => 0) c, bs_mz ov (fun _ => 0) c, bs_mz mx (fun _ => -1) c, bs_mz rm (fun _ => 0) n, bs_mz sX (fun _ => -1) n, bs_mz lX (fun _ => -1) 9)) : wpX_configurationChanged post (pN, pK, nI c, nI n, sT, tM, fR, pe, dl, hd, tl, os, ga, tx, rs, cs, pr, pd, nx, bX, na, fl, aa, co, ov, mx, rm, sX, lX) := by
  unfold wpX_configurationChanged
  exact rs_x hc hn hp
theorem cf_Cf_tx (hf : rl_Cf c n p pe dl tx rs cs) {a b : Nat} (h1 : 1 ≤ a) (h2 : a ≤ 200) (k1 : 1 ≤ b) (k2 : b ≤ 200) : rl_Cf (c + 1) n p (upd pe c (nI a)) (upd dl c (nI b)) tx rs cs := by
  obtain ⟨f1, f2, f3, f4, f5⟩ := hf
  refine ⟨fun s hs => ?_, f2, f3, fun x hx => ?_, fun x hx => ?_⟩
  · obtain ⟨y, hy, e⟩ := f1 s hs
    exact ⟨y, by omega, e⟩
  · by_cases e : x = c
    · subst e
      exact ⟨a, h1, h2, pk_us⟩
    · rw [pk_un e]
      exact f4 x (by omega)
  · by_cases e : x = c
    · subst e
      exact ⟨b, k1, k2, pk_us⟩
    · rw [pk_un e]
      exact f5 x (by omega)
theorem cf_Cf_st (hf : rl_Cf c n p pe dl tx rs cs) {x v : Nat} {r : Int32} (hx : x < c) (hr : r = 8 ∨ ∃ q, q < p ∧ r = nI q) (h1 : 1 ≤ v) (h2 : v ≤ 20) : rl_Cf c (n + 1) p pe dl (upd tx n (nI x)) (upd rs n r) (upd cs n (nI v)) := by
  obtain ⟨f1, f2, f3, f4, f5⟩ := hf
  refine ⟨fun s hs => ?_, fun s hs => ?_, fun s hs => ?_, f4, f5⟩
  · by_cases e : s = n
    · subst e
      exact ⟨x, hx, pk_us⟩
    · rw [pk_un e]
      exact f1 s (by omega)
  · by_cases e : s = n
    · subst e
      rw [pk_us]; exact hr
    · rw [pk_un e]
      exact f2 s (by omega)
  · by_cases e : s = n
    · subst e
      exact ⟨v, h1, h2, pk_us⟩
    · rw [pk_un e]
      exact f3 s (by omega)
theorem i_vc_addTransaction {k : Nat} {u : SX} {v : SY} (I : i_Rel k u v) (hk : k + 5 ≤ 2562) (v1 : Int32) (v2 : Int32) : wpX_addTransaction (fun r u' => wpY_addTransaction (fun r' v' => r' = r ∧ i_Rel (k + 5) u' v') v v1 v2) u v1 v2 := by
  have I' : i_Rel (k + 5) u v := I
  obtain ⟨c, n, p, kk, sT, tM, fR, pe, dl, hd, tl, os, ga, tx, rs, cs, pr, pd, nx, bX, na, fl, aa, co, ov, mx, rm, sX, lX, sY, dY, bY, nY, lY, rfl, rfl, hs, hf, hch, hsi, ha⟩ := I
  unfold wpX_addTransaction
  by_cases hc : c < 8
  · have h8 : nI c < (8 : Int32) := nI_lt (a := c) (b := 8) hc (by omega)
    rcases sm_in3 v1 1 200 (by omega) (by omega) with h | ⟨h, h'⟩ | ⟨a, h1, h2, rfl⟩
    · refine br_t h8 (sm_w0 h (br_t rfl ?_))
      exact br_t h8 (br_t h ⟨rfl, I'⟩)
    · refine br_t h8 (sm_w2 h h' (br_t rfl ?_))
      exact br_t h8 (br_f h (br_f (sm_nle h') ⟨rfl, I'⟩))
    · have g1 : ¬ nI a < (1 : Int32) := nI_nlt (a := a) (b := 1) h1 (by omega)
      have g2 : nI a ≤ (200 : Int32) := nI_le (a := a) (b := 200) h2 (by omega)
      rcases sm_in3 v2 1 a (by omega) (by omega) with h | ⟨h, h'⟩ | ⟨b, k1, k2, rfl⟩
      · refine br_t h8 (sm_w1 (lo := 1) (hi := 200) h1 h2 (by omega) (br_f sm_1 (sm_w0 h (br_t rfl ?_))))
        exact br_t h8 (br_f g1 (br_t g2 (br_t h ⟨rfl, I'⟩)))
      · refine br_t h8 (sm_w1 (lo := 1) (hi := 200) h1 h2 (by omega) (br_f sm_1 (sm_w2 h h' (br_t rfl ?_))))
        exact br_t h8 (br_f g1 (br_t g2 (br_f h (br_f (sm_nle h') ⟨rfl, I'⟩))))
      · have g3 : ¬ nI b < (1 : Int32) := nI_nlt (a := b) (b := 1) k1 (by omega)
        have g4 : nI b ≤ nI a := nI_le k2 (by omega)
        have hi : vp_in (nI c) 8 := vp_in_nI (by omega) (by omega)
        refine br_t h8 (sm_w1 (lo := 1) (hi := 200) h1 h2 (by omega) (br_f sm_1 (sm_w1 (lo := 1) (hi := a) k1 k2 (by omega) (br_f sm_1 ?_))))
        refine ⟨hi, nm_r (cf_up (by omega)) ⟨hi, nm_r (cf_up (by omega)) ⟨hi, nm_r (cf_up (by omega)) ⟨hi, nm_r (cf_up (by omega)) ⟨hi, nm_r (cf_up (by omega)) ⟨hi, nm_r (cf_up (by omega)) (nm_r (nI_1 c) ?_)⟩⟩⟩⟩⟩⟩
        refine cf_cc (by omega) (by omega) ?_
        refine br_t h8 (br_f g1 (br_t g2 (br_f g3 (br_t g4 ?_))))
        refine ⟨hi, nm_r (cf_up (by omega)) ⟨hi, nm_r (cf_up (by omega)) ⟨hi, nm_r (cf_up (by omega)) ⟨hi, nm_r (cf_up (by omega)) (nm_r (nI_1 c) ?_)⟩⟩⟩⟩
        refine rs_y (by omega) ⟨rfl, ?_⟩
        exact rl_rst ⟨by omega, by omega, by omega, by omega, by omega⟩ (cf_Cf_tx hf h1 h2 k1 (by omega)) (sn_Ch_tx hch hf.1 hc) hsi.1 (Or.inl rfl)
  · have h8 : ¬ nI c < (8 : Int32) := nI_nlt (a := c) (b := 8) (by omega) (by omega)
    refine br_f h8 ?_
    exact br_f h8 ⟨rfl, I'⟩
theorem i_vc_setArrivals {k : Nat} {u : SX} {v : SY} (I : i_Rel k u v) (hk : k + 5 ≤ 2562) (v1 : Int32) (v2 : Int32) (v3 : Int32) : wpX_setArrivals (fun r u' => wpY_setArrivals (fun r' v' => r' = r ∧ i_Rel (k + 5) u' v') v v1 v2 v3) u v1 v2 v3 := by
  have I' : i_Rel (k + 5) u v := I
  obtain ⟨c, n, p, kk, sT, tM, fR, pe, dl, hd, tl, os, ga, tx, rs, cs, pr, pd, nx, bX, na, fl, aa, co, ov, mx, rm, sX, lX, sY, dY, bY, nY, lY, rfl, rfl, hs, hf, hch, hsi, ha⟩ := I
  unfold wpX_setArrivals
  rcases pk_ix v1 (n := c) (by omega) with h | h | ⟨j, hj, rfl⟩
  · refine sm_t0 h (br_t rfl ?_)
    exact br_t h ⟨rfl, I'⟩
  · by_cases h0 : v1 < 0
    · refine sm_t0 h0 (br_t rfl ?_)
      exact br_t h0 ⟨rfl, I'⟩
    · refine sm_t2 h0 h (br_t rfl ?_)
      exact br_f h0 (br_f (Int32.not_lt.mpr h) ⟨rfl, I'⟩)
  · have j0 : ¬ nI j < 0 := nI_pos (by omega)
    have jc : nI j < nI c := nI_lt hj (by omega)
    refine sm_t1 hj (by omega) (br_f sm_1 ?_)
    rcases sm_in3 v2 0 200 (by omega) (by omega) with h | ⟨h, h'⟩ | ⟨a, h1, h2, rfl⟩
    · refine sm_w0 h (br_t rfl ?_)
      exact br_f j0 (br_t jc (br_t h ⟨rfl, I'⟩))
    · refine sm_w2 h h' (br_t rfl ?_)
      exact br_f j0 (br_t jc (br_f h (br_f (sm_nle h') ⟨rfl, I'⟩)))
    · have g1 : ¬ nI a < (0 : Int32) := nI_pos (by omega)
      have g2 : nI a ≤ (200 : Int32) := nI_le (a := a) (b := 200) h2 (by omega)
      refine sm_w1 (lo := 0) (hi := 200) h1 h2 (by omega) (br_f sm_1 ?_)
      rcases sm_in3 v3 0 200 (by omega) (by omega) with h | ⟨h, h'⟩ | ⟨b, k1, k2, rfl⟩
      · refine sm_w0 h (br_t rfl ?_)
        exact br_f j0 (br_t jc (br_f g1 (br_t g2 (br_t h ⟨rfl, I'⟩))))
      · refine sm_w2 h h' (br_t rfl ?_)
        exact br_f j0 (br_t jc (br_f g1 (br_t g2 (br_f h (br_f (sm_nle h') ⟨rfl, I'⟩)))))
      · have g3 : ¬ nI b < (0 : Int32) := nI_pos (by omega)
        have g4 : nI b ≤ (200 : Int32) := nI_le (a := b) (b := 200) k2 (by omega)
        have hi : vp_in (nI j) 8 := vp_in_nI (by omega) (by omega)
        refine sm_w1 (lo := 0) (hi := 200) k1 k2 (by omega) (br_f sm_1 ⟨hi, nm_r (cf_up (by omega)) ⟨hi, nm_r (cf_up (by omega)) ?_⟩⟩)
        refine rs_x (by omega) (by omega) ?_
        refine br_f j0 (br_t jc (br_f g1 (br_t g2 (br_f g3 (br_t g4 ⟨hi, nm_r (cf_up (by omega)) ⟨hi, nm_r (cf_up (by omega)) ?_⟩⟩)))))
        refine rs_y (by omega) ⟨rfl, ?_⟩
        exact rl_rst hs hf hch hsi.1 ha
theorem cf_xt2 {post : Int32 → Prop} {r q : Int32} (hn : n ≤ 16) (h1 : (∃ j, j < n ∧ rs j = r ∧ pr j = q) → post 1) (h0 : (¬ ∃ j, j < n ∧ rs j = r ∧ pr j = q) → post 0) : ∀ d i, i + d = n → (∀ j, j < i → ¬ (rs j = r ∧ pr j = q)) → wX_isPriorityTaken_2 post r q pN pK tC (nI n) sT tM fR pe dl hd tl os ga tx rs cs pr pd nx bX na fl aa co ov mx rm sX lX (d + 1) (nI i) := by
  intro d
  induction d with
  | zero =>
    intro i hi ha
    have e : i = n := by omega
    subst e
    exact br_t (nI_le (by omega) (by omega)) (h0 (fun ⟨j, hj, z⟩ => ha j hj z))
  | succ d ih =>
    intro i hi ha
    have next : ¬ (rs i = r ∧ pr i = q) → wX_isPriorityTaken_2 post r q pN pK tC (nI n) sT tM fR pe dl hd tl os ga tx rs cs pr pd nx bX na fl aa co ov mx rm sX lX (d + 1) (nI (i + 1)) := by
      intro z
      refine ih (i + 1) (by omega) (fun j hj => ?_)
      by_cases e : j = i
      · rw [e]; exact z
      · exact ha j (by omega)
    have hin : vp_in (nI i) 16 := vp_in_nI (by omega) (by omega)
    refine br_f (nI_ge (by omega) (by omega)) ⟨hin, ?_⟩
    rw [nI_clamp (by omega)]
    by_cases e : rs i = r
    · refine br_t e ⟨hin, ?_⟩
      by_cases g : pr i = q
      · exact br_t g (h1 ⟨i, by omega, e, g⟩)
      · exact br_f g (nm_r (nI_1 i) (next (fun z => g z.2)))
    · exact br_f e (nm_r (nI_1 i) (next (fun z => e z.1)))
theorem cf_xt {post : Int32 → Prop} {r q : Int32} (hn : n ≤ 16) (h1 : (∃ j, j < n ∧ rs j = r ∧ pr j = q) → post 1) (h0 : (¬ ∃ j, j < n ∧ rs j = r ∧ pr j = q) → post 0) : wpX_isPriorityTaken post (pN, pK, tC, nI n, sT, tM, fR, pe, dl, hd, tl, os, ga, tx, rs, cs, pr, pd, nx, bX, na, fl, aa, co, ov, mx, rm, sX, lX) r q := ⟨n + 1, cf_xt2 hn h1 h0 n 0 (by omega) (fun j hj => by omega)⟩
theorem cf_y73 {post : Int32 → SY → Prop} {x1 r x3 q : Int32} (hn : n ≤ 16) (h1 : (∃ j, j < n ∧ rs j = r ∧ pr j = q) → post (-15) (pN, pK, tC, nI n, sT, tM, fR, pe, dl, os, ga, na, aa, co, ov, mx, fl, tx, rs, cs, pr, rm, sY, dY, bY, nY, lY)) (h0 : (¬ ∃ j, j < n ∧ rs j = r ∧ pr j = q) → wY_addStep_73 post x1 r x3 q pN pK tC (nI n) sT tM fR pe dl os ga na aa co ov mx fl tx rs cs pr rm sY dY bY nY lY 1 (nI n)) : ∀ d i, i + d = n → (∀ j, j < i → ¬ (rs j = r ∧ pr j = q)) → wY_addStep_73 post x1 r x3 q pN pK tC (nI n) sT tM fR pe dl os ga na aa co ov mx fl tx rs cs pr rm sY dY bY nY lY (d + 1) (nI i) := by
  intro d
  induction d with
  | zero =>
    intro i hi ha
    have e : i = n := by omega
    subst e
    exact h0 (fun ⟨j, hj, z⟩ => ha j hj z)
  | succ d ih =>
    intro i hi ha
    have next : ¬ (rs i = r ∧ pr i = q) → wY_addStep_73 post x1 r x3 q pN pK tC (nI n) sT tM fR pe dl os ga na aa co ov mx fl tx rs cs pr rm sY dY bY nY lY (d + 1) (nI (i + 1)) := by
      intro z
      refine ih (i + 1) (by omega) (fun j hj => ?_)
      by_cases e : j = i
      · rw [e]; exact z
      · exact ha j (by omega)
    have hin : vp_in (nI i) 16 := vp_in_nI (by omega) (by omega)
    refine br_f (nI_ge (by omega) (by omega)) ⟨hin, ?_⟩
    rw [nI_clamp (by omega)]
    by_cases e : rs i = r
    · refine br_t e ⟨hin, ?_⟩
      by_cases g : pr i = q
      · exact br_t g (h1 ⟨i, by omega, e, g⟩)
      · exact br_f g (nm_r (nI_1 i) (next (fun z => g z.2)))
    · exact br_f e (nm_r (nI_1 i) (next (fun z => e z.1)))
theorem cf_ap1 {post : SX → Prop} {x : Nat} (hx : x < 8) (hn : n < 16) (e : tl x = -1) (hp : post (pN, pK, tC, sC, sT, tM, fR, pe, dl, upd hd x (nI n), upd tl x (nI n), os, ga, tx, rs, cs, pr, upd pd n (-1), upd nx n (-1), bX, na, fl, aa, co, ov, mx, rm, sX, lX)) : wpX_appendToChain post (pN, pK, tC, sC, sT, tM, fR, pe, dl, hd, tl, os, ga, tx, rs, cs, pr, pd, nx, bX, na, fl, aa, co, ov, mx, rm, sX, lX) (nI x) (nI n) := by
  have i8 : vp_in (nI x) 8 := vp_in_nI (by omega) (by omega)
  have i16 : vp_in (nI n) 16 := vp_in_nI (by omega) (by omega)
  refine ⟨i8, nm_r (by rw [nI_clamp (by omega), e]) ⟨i16, nm_r (cf_up (by omega)) ⟨i16, nm_r (cf_up (by omega)) (br_t rfl ⟨i8, nm_r (cf_up (by omega)) ⟨i8, nm_r (cf_up (by omega)) hp⟩⟩)⟩⟩⟩
theorem cf_ap2 {post : SX → Prop} {x l : Nat} (hx : x < 8) (hn : n < 16) (hl : l < n) (e : tl x = nI l) (hp : post (pN, pK, tC, sC, sT, tM, fR, pe, dl, hd, upd tl x (nI n), os, ga, tx, rs, cs, pr, upd pd n (nI l), upd (upd nx n (-1)) l (nI n), bX, na, fl, aa, co, ov, mx, rm, sX, lX)) : wpX_appendToChain post (pN, pK, tC, sC, sT, tM, fR, pe, dl, hd, tl, os, ga, tx, rs, cs, pr, pd, nx, bX, na, fl, aa, co, ov, mx, rm, sX, lX) (nI x) (nI n) := by
  have i8 : vp_in (nI x) 8 := vp_in_nI (by omega) (by omega)
  have i16 : vp_in (nI n) 16 := vp_in_nI (by omega) (by omega)
  have il : vp_in (nI l) 16 := vp_in_nI (by omega) (by omega)
  refine ⟨i8, nm_r (by rw [nI_clamp (by omega), e]) ⟨i16, nm_r (cf_up (by omega)) ⟨i16, nm_r (cf_up (by omega)) (br_f (bs_ne (by omega)) ⟨il, nm_r (cf_up (by omega)) ⟨i8, nm_r (cf_up (by omega)) hp⟩⟩)⟩⟩⟩
theorem cf_yend {k x w v : Nat} {r q : Int32} {u' : SX} (hn : n < 16) (hc : c ≤ 8)
    (hp : i_Rel k u' (nI p, nI kk, nI c, nI (n + 1), 0, 0, -1, pe, dl, os, ga, bs_mz na os c, aa, bs_mz co (fun _ => 0) c, bs_mz ov (fun _ => 0) c, bs_mz mx (fun _ => -1) c, bs_mz fl (fun _ => 0) c, upd tx n (nI x), upd rs n r, upd cs n (nI v), upd pr n q, bs_mz rm (fun _ => 0) 16, bs_mz sY (fun _ => -1) 16, bs_mz dY (fun _ => 0) 16, bY, nY, bs_mz lY (fun _ => -1) 5)) :
    wY_addStep_73 (fun r' v' => r' = nI n ∧ i_Rel k u' v') (nI x) r (nI v) q (nI p) (nI kk) (nI c) (nI n) sT tM fR pe dl os ga na aa co ov mx fl tx rs cs pr rm sY dY bY nY lY 1 (nI n) := by
  have hin : vp_in (nI n) 16 := vp_in_nI (by omega) (by omega)
  refine br_t (nI_le (by omega) (by omega)) ⟨hin, nm_r (cf_up (by omega)) ⟨hin, nm_r (cf_up (by omega)) ⟨hin, nm_r (cf_up (by omega)) ⟨hin, nm_r (cf_up (by omega)) (nm_r (nI_1 n) ?_)⟩⟩⟩⟩
  exact rs_y hc ⟨rfl, hp⟩
theorem i_vc_addStep {k : Nat} {u : SX} {v : SY} (I : i_Rel k u v) (hk : k + 5 ≤ 2562) (v1 : Int32) (v2 : Int32) (v3 : Int32) (v4 : Int32) : wpX_addStep (fun r u' => wpY_addStep (fun r' v' => r' = r ∧ i_Rel (k + 5) u' v') v v1 v2 v3 v4) u v1 v2 v3 v4 := by
  have I' : i_Rel (k + 5) u v := I
  obtain ⟨c, n, p, kk, sT, tM, fR, pe, dl, hd, tl, os, ga, tx, rs, cs, pr, pd, nx, bX, na, fl, aa, co, ov, mx, rm, sX, lX, sY, dY, bY, nY, lY, rfl, rfl, hs, hf, hch, hsi, ha⟩ := I
  unfold wpX_addStep
  rcases pk_ix v1 (n := c) (by omega) with h | h | ⟨j, hj, rfl⟩
  · refine sm_t0 h (br_t rfl ?_)
    exact br_t h ⟨rfl, I'⟩
  · by_cases h0 : v1 < 0
    · refine sm_t0 h0 (br_t rfl ?_)
      exact br_t h0 ⟨rfl, I'⟩
    · refine sm_t2 h0 h (br_t rfl ?_)
      exact br_f h0 (br_f (Int32.not_lt.mpr h) ⟨rfl, I'⟩)
  · have j0 : ¬ nI j < 0 := nI_pos (by omega)
    have jc : nI j < nI c := nI_lt hj (by omega)
    refine sm_t1 hj (by omega) (br_f sm_1 ?_)
    by_cases hnk : n < kk
    · have nk : nI n < nI kk := nI_lt hnk (by omega)
      refine br_t nk ?_
      rcases sm_res (sC := nI n) (tC := nI c) (pK := nI kk) (sT := sT) (tM := tM) (fR := fR) (pe := pe) (dl := dl) (hd := hd) (tl := tl) (os := os) (ga := ga) (tx := tx) (rs := rs) (cs := cs) (pr := pr) (pd := pd) (nx := nx) (bX := bX) (na := na) (fl := fl) (aa := aa) (co := co) (ov := ov) (mx := mx) (rm := rm) (sX := sX) (lX := lX) (sY := sY) (dY := dY) (bY := bY) (nY := nY) (lY := lY) p (by omega) v2 with ⟨z, _, hx, hy⟩ | ⟨hr, hx, hy⟩
      · refine hx _ (br_t rfl ?_)
        exact br_f j0 (br_t jc (br_t nk (hy _ (br_t rfl ⟨rfl, I'⟩))))
      · refine hx _ (br_f sm_1 ?_)
        rcases sm_in3 v3 1 20 (by omega) (by omega) with h | ⟨h, h'⟩ | ⟨a, h1, h2, rfl⟩
        · refine sm_w0 h (br_t rfl ?_)
          exact br_f j0 (br_t jc (br_t nk (hy _ (br_f sm_1 (br_t h ⟨rfl, I'⟩)))))
        · refine sm_w2 h h' (br_t rfl ?_)
          exact br_f j0 (br_t jc (br_t nk (hy _ (br_f sm_1 (br_f h (br_f (sm_nle h') ⟨rfl, I'⟩))))))
        · have g1 : ¬ nI a < (1 : Int32) := nI_nlt (a := a) (b := 1) h1 (by omega)
          have g2 : nI a ≤ (20 : Int32) := nI_le (a := a) (b := 20) h2 (by omega)
          refine sm_w1 (lo := 1) (hi := 20) h1 h2 (by omega) (br_f sm_1 ?_)
          rcases sm_in3 v4 1 100 (by omega) (by omega) with h | ⟨h, h'⟩ | ⟨b, k1, k2, rfl⟩
          · refine sm_w0 h (br_t rfl ?_)
            exact br_f j0 (br_t jc (br_t nk (hy _ (br_f sm_1 (br_f g1 (br_t g2 (br_t h ⟨rfl, I'⟩)))))))
          · refine sm_w2 h h' (br_t rfl ?_)
            exact br_f j0 (br_t jc (br_t nk (hy _ (br_f sm_1 (br_f g1 (br_t g2 (br_f h (br_f (sm_nle h') ⟨rfl, I'⟩))))))))
          · have g3 : ¬ nI b < (1 : Int32) := nI_nlt (a := b) (b := 1) k1 (by omega)
            have g4 : nI b ≤ (100 : Int32) := nI_le (a := b) (b := 100) k2 (by omega)
            have hin : vp_in (nI n) 16 := vp_in_nI (by omega) (by omega)
            refine sm_w1 (lo := 1) (hi := 100) k1 k2 (by omega) (br_f sm_1 ?_)
            refine cf_xt (by omega) (fun ht => ?_) (fun ht => ?_)
            · refine br_f sm_1 ?_
              exact br_f j0 (br_t jc (br_t nk (hy _ (br_f sm_1 (br_f g1 (br_t g2 (br_f g3 (br_t g4 ⟨n + 1, cf_y73 (by omega) (fun _ => ⟨rfl, I'⟩) (fun z => absurd ht z) n 0 (by omega) (fun i hi => by omega)⟩))))))))
            · refine br_t rfl ⟨hin, nm_r (cf_up (by omega)) ⟨hin, nm_r (cf_up (by omega)) ⟨hin, nm_r (cf_up (by omega)) ⟨hin, nm_r (cf_up (by omega)) (nm_r (nI_1 n) ?_)⟩⟩⟩⟩
              have hf' := cf_Cf_st hf hj hr h1 h2
              rcases sn_Ch_step hch (by omega : n < 16) hj (by omega) with ⟨etl, hch'⟩ | ⟨l, hl, etl, hch'⟩
              · refine cf_ap1 (by omega) (by omega) etl ?_
                refine cf_cc (by omega) (by omega) ?_
                refine br_f j0 (br_t jc (br_t nk (hy _ (br_f sm_1 (br_f g1 (br_t g2 (br_f g3 (br_t g4 ⟨n + 1, cf_y73 (by omega) (fun z => absurd z ht) (fun _ => ?_) n 0 (by omega) (fun i hi => by omega)⟩))))))))
                exact cf_yend (w := 0) (by omega) (by omega) (rl_rst ⟨by omega, by omega, by omega, by omega, by omega⟩ hf' hch' (fun s hs' => hsi.1 s (by omega)) (Or.inl rfl))
              · refine cf_ap2 (by omega) (by omega) hl etl ?_
                refine cf_cc (by omega) (by omega) ?_
                refine br_f j0 (br_t jc (br_t nk (hy _ (br_f sm_1 (br_f g1 (br_t g2 (br_f g3 (br_t g4 ⟨n + 1, cf_y73 (by omega) (fun z => absurd z ht) (fun _ => ?_) n 0 (by omega) (fun i hi => by omega)⟩))))))))
                exact cf_yend (w := 0) (by omega) (by omega) (rl_rst ⟨by omega, by omega, by omega, by omega, by omega⟩ hf' hch' (fun s hs' => hsi.1 s (by omega)) (Or.inl rfl))
    · have nk : ¬ nI n < nI kk := nI_nlt (by omega) (by omega)
      refine br_f nk ?_
      exact br_f j0 (br_t jc (br_f nk ⟨rfl, I'⟩))
end
