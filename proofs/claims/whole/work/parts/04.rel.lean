/-! the relation; both resets -/
def rl_Cf (c n p : Nat) (pe dl tx rs cs : Nat → Int32) : Prop :=
  (∀ s, s < n → ∃ y, y < c ∧ tx s = nI y) ∧ (∀ s, s < n → rs s = 8 ∨ ∃ q, q < p ∧ rs s = nI q) ∧ (∀ s, s < n → ∃ v, 1 ≤ v ∧ v ≤ 20 ∧ cs s = nI v) ∧ (∀ x, x < c → ∃ v, 1 ≤ v ∧ v ≤ 200 ∧ pe x = nI v) ∧ (∀ x, x < c → ∃ v, 1 ≤ v ∧ v ≤ 200 ∧ dl x = nI v)
def rl_Si (n : Nat) (fR : Int32) (rs rm sX lX sY lY : Nat → Int32) : Prop :=
  (∀ s, n ≤ s → rm s = 0) ∧ (fR = -1 ∨ ∃ f, f < n ∧ fR = nI f ∧ rs f = 8) ∧ (∀ s, s < n → sY s = sX s) ∧ (∀ q, q < 4 → lY q = lX q) ∧ lY 4 = lX 8
def rl_en (r : Nat) : Int32 := if r = 1000000 then -1 else nI r
def rl_An (c n : Nat) (sT : Int32) (hd bX bY : Nat → Int32) : Prop :=
  sT = 0 ∨ ((∀ x, x < c → ¬ hd x = -1) ∧ ∃ R : Nat → Nat, ∀ s, s < n → (R s ≤ 200 ∨ R s = 1000000) ∧ bX s = rl_en (R s) ∧ bY s = nI (R s))
/-- near equality: one function for what both sides keep alike -/
def i_Rel (_ : Nat) (u : SX) (v : SY) : Prop :=
  ∃ (c n p k : Nat) (sT tM fR : Int32) (pe dl hd tl os ga tx rs cs pr pd nx bX na fl aa co ov mx rm sX lX sY dY bY nY lY : Nat → Int32),
    u = (nI p, nI k, nI c, nI n, sT, tM, fR, pe, dl, hd, tl, os, ga, tx, rs, cs, pr, pd, nx, bX, na, fl, aa, co, ov, mx, rm, sX, lX) ∧ v = (nI p, nI k, nI c, nI n, sT, tM, fR, pe, dl, os, ga, na, aa, co, ov, mx, fl, tx, rs, cs, pr, rm, sY, dY, bY, nY, lY) ∧
    (c ≤ 8 ∧ n ≤ k ∧ k ≤ 16 ∧ 1 ≤ p ∧ p ≤ 4) ∧ rl_Cf c n p pe dl tx rs cs ∧ sn_Ch tx hd tl pd nx c n ∧ rl_Si n fR rs rm sX lX sY lY ∧ rl_An c n sT hd bX bY
theorem i_up {k : Nat} {u : SX} {v : SY} (h : i_Rel k u v) : i_Rel (k + 5) u v := h
theorem rs_st {f g : Nat → Int32} {i : Nat} (h : i < 2 ^ 31) : upd (bs_mz f g i) (nI i).toNatClampNeg (g (nI i).toNatClampNeg) = bs_mz f g (i + 1) := by
  rw [nI_clamp h]; exact bs_mzs f g i
theorem rs_sv {f : Nat → Int32} {v : Int32} {i : Nat} (h : i < 2 ^ 31) : upd (bs_mz f (fun _ => v) i) (nI i).toNatClampNeg v = bs_mz f (fun _ => v) (i + 1) := by
  rw [nI_clamp h]; exact bs_mzs f (fun _ => v) i
theorem rs_sb {f : Nat → Int32} {i : Nat} (h : i < 2 ^ 31) : upd (bs_mz f (fun _ => 0) i) (nI i).toNatClampNeg (vp_nar .boolean 0) = bs_mz f (fun _ => 0) (i + 1) := by
  rw [bs_b0]; exact rs_sv h
section
variable {pN pK sT tM fR : Int32} {c n : Nat} {pe dl hd tl os ga tx rs cs pr pd nx bX na fl aa co ov mx rm sX lX sY dY bY nY lY : Nat → Int32}
theorem rs_x98 {post : SX → Prop} {tC sC : Int32} : ∀ d i, i + d = 9 → post (pN, pK, tC, sC, sT, tM, fR, pe, dl, hd, tl, os, ga, tx, rs, cs, pr, pd, nx, bX, na, fl, aa, co, ov, mx, rm, sX, bs_mz lX (fun _ => -1) 9) → wX_resetSimulation_98 post pN pK tC sC sT tM fR (d + 1) (nI i) pe dl hd tl os ga tx rs cs pr pd nx bX na fl aa co ov mx rm sX (bs_mz lX (fun _ => -1) i) := by
  intro d
  induction d with
  | zero =>
    intro i hi hp
    have e : i = 9 := by omega
    subst e
    exact br_t (nI_le (a := 9) (b := 9) (by omega) (by omega)) hp
  | succ d ih =>
    intro i hi hp
    exact br_f (nI_ge (a := i) (b := 9) (by omega) (by omega)) ⟨vp_in_nI (by omega) (by omega), nm_r (rs_sv (by omega)) (nm_r (nI_1 i) (ih (i + 1) (by omega) hp))⟩
theorem rs_x63 {post : SX → Prop} {tC : Int32} (hn : n ≤ 16) : ∀ d i, i + d = n → post (pN, pK, tC, nI n, sT, tM, -1, pe, dl, hd, tl, os, ga, tx, rs, cs, pr, pd, nx, bX, na, fl, aa, co, ov, mx, bs_mz rm (fun _ => 0) n, bs_mz sX (fun _ => -1) n, bs_mz lX (fun _ => -1) 9) → wX_resetSimulation_63 post pN pK tC (nI n) sT tM fR (d + 1) (nI i) pe dl hd tl os ga tx rs cs pr pd nx bX na fl aa co ov mx (bs_mz rm (fun _ => 0) i) (bs_mz sX (fun _ => -1) i) lX := by
  intro d
  induction d with
  | zero =>
    intro i hi hp
    have e : i = n := by omega
    subst e
    refine br_t (nI_le (Nat.le_refl i) (by omega)) ⟨10, ?_⟩
    have h := rs_x98 (post := post) (lX := lX) 9 0 rfl hp
    rw [bs_mz0] at h
    exact h
  | succ d ih =>
    intro i hi hp
    exact br_f (nI_ge (a := i) (b := n) (by omega) (by omega)) ⟨vp_in_nI (by omega) (by omega), nm_r (rs_sv (by omega)) ⟨vp_in_nI (by omega) (by omega), nm_r (rs_sv (by omega)) (nm_r (nI_1 i) (ih (i + 1) (by omega) hp))⟩⟩
theorem rs_x7 {post : SX → Prop} (hc : c ≤ 8) (hn : n ≤ 16) : ∀ d i, i + d = c → post (pN, pK, nI c, nI n, sT, tM, -1, pe, dl, hd, tl, os, ga, tx, rs, cs, pr, pd, nx, bX, bs_mz na os c, bs_mz fl (fun _ => 0) c, aa, bs_mz co (fun _ => 0) c, bs_mz ov (fun _ => 0) c, bs_mz mx (fun _ => -1) c, bs_mz rm (fun _ => 0) n, bs_mz sX (fun _ => -1) n, bs_mz lX (fun _ => -1) 9) → wX_resetSimulation_7 post pN pK (nI c) (nI n) sT tM fR (d + 1) (nI i) pe dl hd tl os ga tx rs cs pr pd nx bX (bs_mz na os i) (bs_mz fl (fun _ => 0) i) aa (bs_mz co (fun _ => 0) i) (bs_mz ov (fun _ => 0) i) (bs_mz mx (fun _ => -1) i) rm sX lX := by
  intro d
  induction d with
  | zero =>
    intro i hi hp
    have e : i = c := by omega
    subst e
    refine br_t (nI_le (Nat.le_refl i) (by omega)) ⟨n + 1, ?_⟩
    have h := rs_x63 (post := post) (fR := fR) (rm := rm) (sX := sX) hn n 0 (by omega) hp
    rw [bs_mz0, bs_mz0] at h
    exact h
  | succ d ih =>
    intro i hi hp
    have k : vp_in (nI i) 8 := vp_in_nI (by omega) (by omega)
    exact br_f (nI_ge (a := i) (b := c) (by omega) (by omega)) ⟨k, k, nm_r (rs_st (by omega)) ⟨k, nm_r (rs_sb (by omega)) ⟨k, nm_r (rs_sv (by omega)) ⟨k, nm_r (rs_sv (by omega)) ⟨k, nm_r (rs_sv (by omega)) (nm_r (nI_1 i) (ih (i + 1) (by omega) hp))⟩⟩⟩⟩⟩
theorem rs_x {post : SX → Prop} (hc : c ≤ 8) (hn : n ≤ 16) (hp : post (pN, pK, nI c, nI n, sT, 0, -1, pe, dl, hd, tl, os, ga, tx, rs, cs, pr, pd, nx, bX, bs_mz na os c, bs_mz fl (fun _ => 0) c, aa, bs_mz co (fun _ => 0) c, bs_mz ov (fun _ => 0) c, bs_mz mx (fun _ => -1) c, bs_mz rm (fun _ => 0) n, bs_mz sX (fun _ => -1) n, bs_mz lX (fun _ => -1) 9)) : wpX_resetSimulation post (pN, pK, nI c, nI n, sT, tM, fR, pe, dl, hd, tl, os, ga, tx, rs, cs, pr, pd, nx, bX, na, fl, aa, co, ov, mx, rm, sX, lX) := by
  have h := rs_x7 (post := post) (tM := 0) (fR := fR) (na := na) (fl := fl) (co := co) (ov := ov) (mx := mx) hc hn c 0 (by omega) hp
  simp only [bs_mz0] at h
  exact ⟨c + 1, h⟩
theorem rs_y103 {post : SY → Prop} {tC sC : Int32} : ∀ d i, i + d = 5 → post (pN, pK, tC, sC, sT, tM, fR, pe, dl, os, ga, na, aa, co, ov, mx, fl, tx, rs, cs, pr, rm, sY, dY, bY, nY, bs_mz lY (fun _ => -1) 5) → wY_simReset_103 post pN pK tC sC sT tM fR (d + 1) (nI i) pe dl os ga na aa co ov mx fl tx rs cs pr rm sY dY bY nY (bs_mz lY (fun _ => -1) i) := by
  intro d
  induction d with
  | zero =>
    intro i hi hp
    have e : i = 5 := by omega
    subst e
    exact br_t (nI_le (a := 5) (b := 5) (by omega) (by omega)) hp
  | succ d ih =>
    intro i hi hp
    exact br_f (nI_ge (a := i) (b := 5) (by omega) (by omega)) ⟨vp_in_nI (by omega) (by omega), nm_r (rs_sv (by omega)) (nm_r (nI_1 i) (ih (i + 1) (by omega) hp))⟩
theorem rs_y63 {post : SY → Prop} {tC sC : Int32} : ∀ d i, i + d = 16 → post (pN, pK, tC, sC, sT, tM, -1, pe, dl, os, ga, na, aa, co, ov, mx, fl, tx, rs, cs, pr, bs_mz rm (fun _ => 0) 16, bs_mz sY (fun _ => -1) 16, bs_mz dY (fun _ => 0) 16, bY, nY, bs_mz lY (fun _ => -1) 5) → wY_simReset_63 post pN pK tC sC sT tM fR (d + 1) (nI i) pe dl os ga na aa co ov mx fl tx rs cs pr (bs_mz rm (fun _ => 0) i) (bs_mz sY (fun _ => -1) i) (bs_mz dY (fun _ => 0) i) bY nY lY := by
  intro d
  induction d with
  | zero =>
    intro i hi hp
    have e : i = 16 := by omega
    subst e
    refine br_t (nI_le (a := 16) (b := 16) (by omega) (by omega)) ⟨6, ?_⟩
    have h := rs_y103 (post := post) (lY := lY) 5 0 rfl hp
    rw [bs_mz0] at h
    exact h
  | succ d ih =>
    intro i hi hp
    have k : vp_in (nI i) 16 := vp_in_nI (by omega) (by omega)
    exact br_f (nI_ge (a := i) (b := 16) (by omega) (by omega)) ⟨k, nm_r (rs_sv (by omega)) ⟨k, nm_r (rs_sv (by omega)) ⟨k, nm_r (rs_sb (by omega)) (nm_r (nI_1 i) (ih (i + 1) (by omega) hp))⟩⟩⟩
theorem rs_y7 {post : SY → Prop} {sC : Int32} (hc : c ≤ 8) : ∀ d i, i + d = c → post (pN, pK, nI c, sC, sT, tM, -1, pe, dl, os, ga, bs_mz na os c, aa, bs_mz co (fun _ => 0) c, bs_mz ov (fun _ => 0) c, bs_mz mx (fun _ => -1) c, bs_mz fl (fun _ => 0) c, tx, rs, cs, pr, bs_mz rm (fun _ => 0) 16, bs_mz sY (fun _ => -1) 16, bs_mz dY (fun _ => 0) 16, bY, nY, bs_mz lY (fun _ => -1) 5) → wY_simReset_7 post pN pK (nI c) sC sT tM fR (d + 1) (nI i) pe dl os ga (bs_mz na os i) aa (bs_mz co (fun _ => 0) i) (bs_mz ov (fun _ => 0) i) (bs_mz mx (fun _ => -1) i) (bs_mz fl (fun _ => 0) i) tx rs cs pr rm sY dY bY nY lY := by
  intro d
  induction d with
  | zero =>
    intro i hi hp
    have e : i = c := by omega
    subst e
    refine br_t (nI_le (Nat.le_refl i) (by omega)) ⟨17, ?_⟩
    have h := rs_y63 (post := post) (fR := fR) (rm := rm) (sY := sY) (dY := dY) 16 0 rfl hp
    simp only [bs_mz0] at h
    exact h
  | succ d ih =>
    intro i hi hp
    have k : vp_in (nI i) 8 := vp_in_nI (by omega) (by omega)
    exact br_f (nI_ge (a := i) (b := c) (by omega) (by omega)) ⟨k, k, nm_r (rs_st (by omega)) ⟨k, nm_r (rs_sb (by omega)) ⟨k, nm_r (rs_sv (by omega)) ⟨k, nm_r (rs_sv (by omega)) ⟨k, nm_r (rs_sv (by omega)) (nm_r (nI_1 i) (ih (i + 1) (by omega) hp))⟩⟩⟩⟩⟩
theorem rs_y {post : SY → Prop} {sC : Int32} (hc : c ≤ 8) (hp : post (pN, pK, nI c, sC, sT, 0, -1, pe, dl, os, ga, bs_mz na os c, aa, bs_mz co (fun _ => 0) c, bs_mz ov (fun _ => 0) c, bs_mz mx (fun _ => -1) c, bs_mz fl (fun _ => 0) c, tx, rs, cs, pr, bs_mz rm (fun _ => 0) 16, bs_mz sY (fun _ => -1) 16, bs_mz dY (fun _ => 0) 16, bY, nY, bs_mz lY (fun _ => -1) 5)) : wpY_simReset post (pN, pK, nI c, sC, sT, tM, fR, pe, dl, os, ga, na, aa, co, ov, mx, fl, tx, rs, cs, pr, rm, sY, dY, bY, nY, lY) := by
  have h := rs_y7 (post := post) (tM := 0) (fR := fR) (na := na) (fl := fl) (co := co) (ov := ov) (mx := mx) hc c 0 (by omega) hp
  simp only [bs_mz0] at h
  exact ⟨c + 1, h⟩
/-- both resets end in related states -/
theorem rl_rst {k : Nat} {p q : Nat} (hs : c ≤ 8 ∧ n ≤ q ∧ q ≤ 16 ∧ 1 ≤ p ∧ p ≤ 4) (hf : rl_Cf c n p pe dl tx rs cs) (hch : sn_Ch tx hd tl pd nx c n) (hz : ∀ s, n ≤ s → rm s = 0) (ha : rl_An c n sT hd bX bY) :
    i_Rel k (nI p, nI q, nI c, nI n, sT, 0, -1, pe, dl, hd, tl, os, ga, tx, rs, cs, pr, pd, nx, bX, bs_mz na os c, bs_mz fl (fun _ => 0) c, aa, bs_mz co (fun _ => 0) c, bs_mz ov (fun _ => 0) c, bs_mz mx (fun _ => -1) c, bs_mz rm (fun _ => 0) n, bs_mz sX (fun _ => -1) n, bs_mz lX (fun _ => -1) 9)
      (nI p, nI q, nI c, nI n, sT, 0, -1, pe, dl, os, ga, bs_mz na os c, aa, bs_mz co (fun _ => 0) c, bs_mz ov (fun _ => 0) c, bs_mz mx (fun _ => -1) c, bs_mz fl (fun _ => 0) c, tx, rs, cs, pr, bs_mz rm (fun _ => 0) 16, bs_mz sY (fun _ => -1) 16, bs_mz dY (fun _ => 0) 16, bY, nY, bs_mz lY (fun _ => -1) 5) := by
  rw [bs_mz_all hz, bs_mz_more hz (by omega : n ≤ 16)]
  exact ⟨c, n, p, q, sT, 0, -1, pe, dl, hd, tl, os, ga, tx, rs, cs, pr, pd, nx, bX, _, _, aa, _, _, _, _, _, _, _, _, bY, nY, _, rfl, rfl, hs, hf, hch, ⟨fun _ _ => rfl, Or.inl rfl, fun s h => by rw [bs_mz_lt h, bs_mz_lt (by omega)], fun j h => by rw [bs_mz_lt (by omega), bs_mz_lt (by omega)], by rw [bs_mz_lt (by omega), bs_mz_lt (by omega)]⟩, ha⟩
end
