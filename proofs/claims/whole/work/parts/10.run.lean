/-! run -/
section
variable {pN pK sT tM fR tC sC : Int32} {c n p kk : Nat} {pe dl hd tl os ga tx rs cs pr pd nx bX na fl aa co ov mx rm sX lX sY dY bY nY lY : Nat → Int32}
theorem ru_loop (hs : c ≤ 8 ∧ n ≤ kk ∧ kk ≤ 16 ∧ 1 ≤ p ∧ p ≤ 4) (hf : rl_Cf c n p pe dl tx rs cs) (hch : sn_Ch tx hd tl pd nx c n) (hcm : ∀ x, x < c → ¬ hd x = -1) {w : Nat} (hw : w ≤ 1000) :
    ∀ (d i : Nat) (tM fR : Int32) (na fl aa co ov mx rm sX lX sY dY lY : Nat → Int32), i + d = w → rl_Si n fR rs rm sX lX sY lY →
    ∃ (r tM' fR' : Int32) (na' fl' aa' co' ov' mx' rm' sX' lX' sY' dY' lY' : Nat → Int32), rl_Si n fR' rs rm' sX' lX' sY' lY' ∧
      (∀ post : Int32 → SX → Prop, post r (nI p, pK, nI c, nI n, sT, tM', fR', pe, dl, hd, tl, os, ga, tx, rs, cs, pr, pd, nx, bX, na', fl', aa', co', ov', mx', rm', sX', lX') → wX_run_21 post (nI w) (d + 1) (nI i) (nI p) pK (nI c) (nI n) sT tM fR pe dl hd tl os ga tx rs cs pr pd nx bX na fl aa co ov mx rm sX lX) ∧
      (∀ post : Int32 → SY → Prop, post r (nI p, pK, nI c, nI n, sT, tM', fR', pe, dl, os, ga, na', aa', co', ov', mx', fl', tx, rs, cs, pr, rm', sY', dY', bY, nY, lY') → wY_run_31 post (nI w) (d + 1) (nI i) (nI p) pK (nI c) (nI n) sT tM fR pe dl os ga na aa co ov mx fl tx rs cs pr rm sY dY bY nY lY) := by
  intro d
  induction d with
  | zero =>
    intro i tM fR na fl aa co ov mx rm sX lX sY dY lY hi hsi
    have e : i = w := by omega
    subst e
    have g : nI i ≤ nI i := nI_le (by omega) (by omega)
    exact ⟨nI i, tM, fR, na, fl, aa, co, ov, mx, rm, sX, lX, sY, dY, lY, hsi, fun post h => br_t g h, fun post h => br_t g h⟩
  | succ d ih =>
    intro i tM fR na fl aa co ov mx rm sX lX sY dY lY hi hsi
    have g : ¬ nI w ≤ nI i := nI_ge (by omega) (by omega)
    by_cases z : (100000 : Int32) ≤ tM
    · exact ⟨nI i, tM, fR, na, fl, aa, co, ov, mx, rm, sX, lX, sY, dY, lY, hsi, fun post h => br_f g (br_t z h), fun post h => br_f g (br_t z h)⟩
    · obtain ⟨fR1, na1, fl1, aa1, co1, ov1, mx1, rm1, sX1, lX1, sY1, dY1, lY1, hsi1, tX, tY⟩ := ti_tick (pK := pK) (sT := sT) (tM := tM) (na := na) (fl := fl) (aa := aa) (co := co) (ov := ov) (mx := mx) (os := os) (ga := ga) (pr := pr) (bX := bX) (dY := dY) (bY := bY) (nY := nY) hs hf hch hcm hsi
      obtain ⟨r, tM', fR', na', fl', aa', co', ov', mx', rm', sX', lX', sY', dY', lY', hsi', hX, hY⟩ := ih (i + 1) (tM + 1) fR1 na1 fl1 aa1 co1 ov1 mx1 rm1 sX1 lX1 sY1 dY1 lY1 (by omega) hsi1
      refine ⟨r, tM', fR', na', fl', aa', co', ov', mx', rm', sX', lX', sY', dY', lY', hsi', fun post h => br_f g (br_f z (tX _ ?_)), fun post h => br_f g (br_f z (tY _ ?_))⟩
      · exact nm_r (nI_1 i) (hX post h)
      · exact nm_r (nI_1 i) (hY post h)
theorem ru_cl (v : Int32) : ∃ w, w ≤ 1000 ∧ (∀ post : Int32 → Prop, post (nI w) → wpX_clamp post v 0 1000) ∧ (∀ post : Int32 → SY → Prop, (∃ m, wY_run_31 post (nI w) m 0 pN pK tC sC sT tM fR pe dl os ga na aa co ov mx fl tx rs cs pr rm sY dY bY nY lY) → (0 ≤ v → wY_run_18 post v pN pK tC sC sT tM fR pe dl os ga na aa co ov mx fl tx rs cs pr rm sY dY bY nY lY) ∧ (¬ 0 ≤ v → wY_run_18 post 0 pN pK tC sC sT tM fR pe dl os ga na aa co ov mx fl tx rs cs pr rm sY dY bY nY lY)) := by
  rcases sm_in3 v 0 1000 (by omega) (by omega) with h | ⟨h, h'⟩ | ⟨a, h1, h4, rfl⟩
  · have g : ¬ (0 : Int32) ≤ v := sm_nle h
    exact ⟨0, by omega, fun post hp => br_f g hp, fun post hp => br_f g (br_t (by decide) hp)⟩
  · have g : (0 : Int32) ≤ v := Int32.not_lt.mp h
    have g' : ¬ v ≤ (1000 : Int32) := sm_nle h'
    exact ⟨1000, by omega, fun post hp => br_t g (br_f g' hp), fun post hp => br_t g (br_f g' hp)⟩
  · have g : (0 : Int32) ≤ nI a := nI_pos' (by omega)
    have g' : nI a ≤ (1000 : Int32) := nI_le (a := a) (b := 1000) h4 (by omega)
    exact ⟨a, h4, fun post hp => br_t g (br_t g' hp), fun post hp => br_t g (br_t g' hp)⟩
theorem i_vc_run {k : Nat} {u : SX} {v : SY} (I : i_Rel k u v) (hk : k + 5 ≤ 2562) (v1 : Int32) : wpX_run (fun r u' => wpY_run (fun r' v' => r' = r ∧ i_Rel (k + 5) u' v') v v1) u v1 := by
  have I' : i_Rel (k + 5) u v := I
  obtain ⟨c, n, p, kk, sT, tM, fR, pe, dl, hd, tl, os, ga, tx, rs, cs, pr, pd, nx, bX, na, fl, aa, co, ov, mx, rm, sX, lX, sY, dY, bY, nY, lY, rfl, rfl, hs, hf, hch, hsi, ha⟩ := I
  unfold wpX_run
  refine sm_xc hs.1 (fun h0 hcm => ?_) (fun h0 => ?_)
  · refine br_f sm_1 ?_
    obtain ⟨w, hw, wX, wY⟩ := ru_cl (pN := nI p) (pK := nI kk) (tC := nI c) (sC := nI n) (sT := sT) (tM := tM) (fR := fR) (pe := pe) (dl := dl) (os := os) (ga := ga) (na := na) (aa := aa) (co := co) (ov := ov) (mx := mx) (fl := fl) (tx := tx) (rs := rs) (cs := cs) (pr := pr) (rm := rm) (sY := sY) (dY := dY) (bY := bY) (nY := nY) (lY := lY) v1
    obtain ⟨r, tM', fR', na', fl', aa', co', ov', mx', rm', sX', lX', sY', dY', lY', hsi', hX, hY⟩ := ru_loop (pK := nI kk) (sT := sT) (os := os) (ga := ga) (pr := pr) (bX := bX) (bY := bY) (nY := nY) hs hf hch hcm hw w 0 tM fR na fl aa co ov mx rm sX lX sY dY lY (by omega) hsi
    refine wX _ ⟨w + 1, hX _ ?_⟩
    unfold wpY_run
    refine sm_yc hs.1 (by omega) hch.1 (fun _ _ => br_f sm_1 (wY _ ⟨w + 1, hY _ ?_⟩)) (fun z => absurd ⟨h0, hcm⟩ z)
    exact ⟨rfl, c, n, p, kk, sT, tM', fR', pe, dl, hd, tl, os, ga, tx, rs, cs, pr, pd, nx, bX, na', fl', aa', co', ov', mx', rm', sX', lX', sY', dY', bY, nY, lY', rfl, rfl, hs, hf, hch, hsi', ha⟩
  · refine br_t rfl ?_
    unfold wpY_run
    exact sm_yc hs.1 (by omega) hch.1 (fun a b => absurd ⟨a, b⟩ h0) (fun _ => br_t rfl ⟨rfl, I'⟩)
end
