/-! the component: resets, small methods, what changes the configuration -/
theorem rs_st {f g : Nat → Int32} {i : Nat} (h : i < 2 ^ 31) : upd (bs_mz f g i) (nI i).toNatClampNeg (g (nI i).toNatClampNeg) = bs_mz f g (i + 1) := by
  rw [nI_clamp h]; exact bs_mzs f g i
theorem rs_sv {f : Nat → Int32} {v : Int32} {i : Nat} (h : i < 2 ^ 31) : upd (bs_mz f (fun _ => v) i) (nI i).toNatClampNeg v = bs_mz f (fun _ => v) (i + 1) := by
  rw [nI_clamp h]; exact bs_mzs f (fun _ => v) i
def rl_en (r : Nat) : Int32 := if r = 1000000 then -1 else nI r
theorem sm_in3 (x : Int32) (lo hi : Nat) (hl : lo < 2 ^ 31) (hh : hi < 2 ^ 31) : x < nI lo ∨ (¬ x < nI lo ∧ nI hi < x) ∨ ∃ a, lo ≤ a ∧ a ≤ hi ∧ x = nI a := by
  by_cases h : x < nI lo
  · exact Or.inl h
  · have h0 : ¬ x < 0 := fun z => h (Int32.lt_of_lt_of_le z (nI_pos' hl))
    obtain ⟨j, hj, rfl⟩ := nI_of h0
    rw [nI_ltI hj hl] at h
    by_cases g : nI hi < nI j
    · exact Or.inr (Or.inl ⟨by rw [nI_ltI hj hl]; exact h, g⟩)
    · rw [nI_ltI hh hj] at g
      exact Or.inr (Or.inr ⟨j, by omega, by omega, rfl⟩)
theorem sm_nle {x y : Int32} (h : x < y) : ¬ y ≤ x := fun z => Int32.lt_irrefl (Int32.lt_of_lt_of_le h z)
theorem sm_1 : ¬ (1 : Int32) = 0 := by decide
theorem rl_en_1 {r : Nat} (h : r ≤ 200 ∨ r = 1000000) : (r = 1000000 ∧ rl_en r = -1) ∨ (r ≤ 200 ∧ rl_en r = nI r) := by
  unfold rl_en
  by_cases e : r = 1000000
  · exact Or.inl ⟨e, if_pos e⟩
  · exact Or.inr ⟨by omega, if_neg e⟩
theorem rl_inf {r : Nat} (h : r ≤ 200 ∨ r = 1000000) : nI r = 1000000 ↔ r = 1000000 := nI_eq (a := r) (b := 1000000) (by omega) (by omega)
section
variable {pN pK sT tM fR tC sC : Int32} {c n p kk : Nat} {pe dl hd tl os ga tx rs cs pr pd nx bX na fl aa co ov mx rm sX lX : Nat → Int32}
theorem rs_x98 {post : St2 → Prop} {tC sC : Int32} : ∀ d i, i + d = 9 → post (pN, pK, tC, sC, sT, tM, fR, pe, dl, hd, tl, os, ga, tx, rs, cs, pr, pd, nx, bX, na, fl, aa, co, ov, mx, rm, sX, bs_mz lX (fun _ => -1) 9) → wX_resetSimulation_98 post pN pK tC sC sT tM fR (d + 1) (nI i) pe dl hd tl os ga tx rs cs pr pd nx bX na fl aa co ov mx rm sX (bs_mz lX (fun _ => -1) i) := by
  intro d
  induction d with
  | zero =>
    intro i hi hp
    have e : i = 9 := by omega
    subst e
    exact br_t (nI_le (a := 9) (b := 9) (by omega) (by omega)) hp
  | succ d ih =>
    intro i hi hp
    exact br_f (nI_ge (a := i) (b := 9) (by omega) (by omega)) ⟨vp_in_nI (by omega) (by omega), nm_r (rs_sv (by omega)) (nm_r (nI_1 i) (ih (i + 1) (by omega) hp))⟩
theorem rs_x63 {post : St2 → Prop} {tC : Int32} (hn : n ≤ 16) : ∀ d i, i + d = n → post (pN, pK, tC, nI n, sT, tM, -1, pe, dl, hd, tl, os, ga, tx, rs, cs, pr, pd, nx, bX, na, fl, aa, co, ov, mx, bs_mz rm (fun _ => 0) n, bs_mz sX (fun _ => -1) n, bs_mz lX (fun _ => -1) 9) → wX_resetSimulation_63 post pN pK tC (nI n) sT tM fR (d + 1) (nI i) pe dl hd tl os ga tx rs cs pr pd nx bX na fl aa co ov mx (bs_mz rm (fun _ => 0) i) (bs_mz sX (fun _ => -1) i) lX := by
  intro d
  induction d with
  | zero =>
    intro i hi hp
    have e : i = n := by omega
    subst e
    refine br_t (nI_le (Nat.le_refl i) (by omega)) ⟨10, ?_⟩
    have h := rs_x98 (post := post) (lX := lX) 9 0 rfl hp
    rw [bs_mz0] at h
    exact h
  | succ d ih =>
    intro i hi hp
    exact br_f (nI_ge (a := i) (b := n) (by omega) (by omega)) ⟨vp_in_nI (by omega) (by omega), nm_r (rs_sv (by omega)) ⟨vp_in_nI (by omega) (by omega), nm_r (rs_sv (by omega)) (nm_r (nI_1 i) (ih (i + 1) (by omega) hp))⟩⟩
theorem rs_x7 {post : St2 → Prop} (hc : c ≤ 8) (hn : n ≤ 16) : ∀ d i, i + d = c → post (pN, pK, nI c, nI n, sT, tM, -1, pe, dl, hd, tl, os, ga, tx, rs, cs, pr, pd, nx, bX, bs_mz na os c, bs_mz fl (fun _ => 0) c, aa, bs_mz co (fun _ => 0) c, bs_mz ov (fun _ => 0) c, bs_mz mx (fun _ => -1) c, bs_mz rm (fun _ => 0) n, bs_mz sX (fun _ => -1) n, bs_mz lX (fun _ => -1) 9) → wX_resetSimulation_7 post pN pK (nI c) (nI n) sT tM fR (d + 1) (nI i) pe dl hd tl os ga tx rs cs pr pd nx bX (bs_mz na os i) (bs_mz fl (fun _ => 0) i) aa (bs_mz co (fun _ => 0) i) (bs_mz ov (fun _ => 0) i) (bs_mz mx (fun _ => -1) i) rm sX lX := by
  intro d
  induction d with
  | zero =>
    intro i hi hp
    have e : i = c := by omega
    subst e
    refine br_t (nI_le (Nat.le_refl i) (by omega)) ⟨n + 1, ?_⟩
    have h := rs_x63 (post := post) (fR := fR) (rm := rm) (sX := sX) hn n 0 (by omega) hp
    rw [bs_mz0, bs_mz0] at h
    exact h
  | succ d ih =>
    intro i hi hp
    have k : vp_in (nI i) 8 := vp_in_nI (by omega) (by omega)
    exact br_f (nI_ge (a := i) (b := c) (by omega) (by omega)) ⟨k, k, nm_r (rs_st (by omega)) ⟨k, nm_r (rs_sv (by omega)) ⟨k, nm_r (rs_sv (by omega)) ⟨k, nm_r (rs_sv (by omega)) ⟨k, nm_r (rs_sv (by omega)) (nm_r (nI_1 i) (ih (i + 1) (by omega) hp))⟩⟩⟩⟩⟩
theorem rs_x {post : St2 → Prop} (hc : c ≤ 8) (hn : n ≤ 16) (hp : post (pN, pK, nI c, nI n, sT, 0, -1, pe, dl, hd, tl, os, ga, tx, rs, cs, pr, pd, nx, bX, bs_mz na os c, bs_mz fl (fun _ => 0) c, aa, bs_mz co (fun _ => 0) c, bs_mz ov (fun _ => 0) c, bs_mz mx (fun _ => -1) c, bs_mz rm (fun _ => 0) n, bs_mz sX (fun _ => -1) n, bs_mz lX (fun _ => -1) 9)) : wpX_resetSimulation post (pN, pK, nI c, nI n, sT, tM, fR, pe, dl, hd, tl, os, ga, tx, rs, cs, pr, pd, nx, bX, na, fl, aa, co, ov, mx, rm, sX, lX) := by
  have h := rs_x7 (post := post) (tM := 0) (fR := fR) (na := na) (fl := fl) (co := co) (ov := ov) (mx := mx) hc hn c 0 (by omega) hp
  simp only [bs_mz0] at h
  exact ⟨c + 1, h⟩
theorem sm_w0 {post : Int32 → Prop} {x lo hi : Int32} (h : x < lo) (hp : post 0) : wpX_within post () x lo hi := br_t h hp
theorem sm_w2 {post : Int32 → Prop} {x lo hi : Int32} (h : ¬ x < lo) (h' : hi < x) (hp : post 0) : wpX_within post () x lo hi := br_f h (br_t h' hp)
theorem sm_w1 {post : Int32 → Prop} {a lo hi : Nat} (h : lo ≤ a) (h' : a ≤ hi) (hh : hi < 2 ^ 31) (hp : post 1) : wpX_within post () (nI a) (nI lo) (nI hi) := br_f (nI_nlt h (by omega)) (br_f (nI_nlt h' hh) hp)
theorem sm_t0 {post : Int32 → Prop} {x : Int32} (h : x < 0) (hp : post 0) : wpX_isTransaction post (pN, pK, tC, sC, sT, tM, fR, pe, dl, hd, tl, os, ga, tx, rs, cs, pr, pd, nx, bX, na, fl, aa, co, ov, mx, rm, sX, lX) x := br_t h hp
theorem sm_t2 {post : Int32 → Prop} {x : Int32} (h : ¬ x < 0) (h' : tC ≤ x) (hp : post 0) : wpX_isTransaction post (pN, pK, tC, sC, sT, tM, fR, pe, dl, hd, tl, os, ga, tx, rs, cs, pr, pd, nx, bX, na, fl, aa, co, ov, mx, rm, sX, lX) x := br_f h (br_t h' hp)
theorem sm_t1 {post : Int32 → Prop} {j : Nat} (h : j < c) (hc : c < 2 ^ 31) (hp : post 1) : wpX_isTransaction post (pN, pK, nI c, sC, sT, tM, fR, pe, dl, hd, tl, os, ga, tx, rs, cs, pr, pd, nx, bX, na, fl, aa, co, ov, mx, rm, sX, lX) (nI j) := br_f (nI_pos (by omega)) (br_f (nI_ge h hc) hp)
theorem sm_s0 {post : Int32 → Prop} {x : Int32} (h : x < 0) (hp : post 0) : wpX_isStep post (pN, pK, tC, sC, sT, tM, fR, pe, dl, hd, tl, os, ga, tx, rs, cs, pr, pd, nx, bX, na, fl, aa, co, ov, mx, rm, sX, lX) x := br_t h hp
theorem sm_s2 {post : Int32 → Prop} {x : Int32} (h : ¬ x < 0) (h' : sC ≤ x) (hp : post 0) : wpX_isStep post (pN, pK, tC, sC, sT, tM, fR, pe, dl, hd, tl, os, ga, tx, rs, cs, pr, pd, nx, bX, na, fl, aa, co, ov, mx, rm, sX, lX) x := br_f h (br_t h' hp)
theorem sm_s1 {post : Int32 → Prop} {j : Nat} (h : j < n) (hn : n < 2 ^ 31) (hp : post 1) : wpX_isStep post (pN, pK, tC, nI n, sT, tM, fR, pe, dl, hd, tl, os, ga, tx, rs, cs, pr, pd, nx, bX, na, fl, aa, co, ov, mx, rm, sX, lX) (nI j) := br_f (nI_pos (by omega)) (br_f (nI_ge h hn) hp)
theorem sm_xc2 {post : Int32 → Prop} (hc : c ≤ 8) (h1 : 0 < c → (∀ x, x < c → ¬ hd x = -1) → post 1) (h0 : ¬ (0 < c ∧ ∀ x, x < c → ¬ hd x = -1) → post 0) : ∀ d i, i + d = c → (∀ x, x < i → ¬ hd x = -1) → wX_isComplete_2 post pN pK (nI c) sC sT tM fR pe dl hd tl os ga tx rs cs pr pd nx bX na fl aa co ov mx rm sX lX (d + 1) (nI i) := by
  intro d
  induction d with
  | zero =>
    intro i hi ha
    have e : i = c := by omega
    subst e
    refine br_t (nI_le (by omega) (by omega)) ?_
    by_cases z : i = 0
    · subst z
      exact br_t (by decide) (h0 (fun k => by omega))
    · exact br_f (nI_nle (by omega) (by omega)) (h1 (by omega) ha)
  | succ d ih =>
    intro i hi ha
    refine br_f (nI_ge (by omega) (by omega)) ⟨vp_in_nI (by omega) (by omega), ?_⟩
    rw [nI_clamp (by omega)]
    by_cases e : hd i = -1
    · exact br_t e (h0 (fun k => k.2 i (by omega) e))
    · refine br_f e (nm_r (nI_1 i) (ih (i + 1) (by omega) (fun x hx => ?_)))
      by_cases z : x = i
      · rw [z]; exact e
      · exact ha x (by omega)
theorem sm_xc {post : Int32 → Prop} (hc : c ≤ 8) (h1 : 0 < c → (∀ x, x < c → ¬ hd x = -1) → post 1) (h0 : ¬ (0 < c ∧ ∀ x, x < c → ¬ hd x = -1) → post 0) : wpX_isComplete post (pN, pK, nI c, sC, sT, tM, fR, pe, dl, hd, tl, os, ga, tx, rs, cs, pr, pd, nx, bX, na, fl, aa, co, ov, mx, rm, sX, lX) := ⟨c + 1, sm_xc2 hc h1 h0 c 0 (by omega) (fun x hx => by omega)⟩
theorem cf_up {f : Nat → Int32} {v : Int32} {i : Nat} (h : i < 2 ^ 31) : upd f (nI i).toNatClampNeg v = upd f i v := by rw [nI_clamp h]
theorem cf_cc {post : St2 → Prop} (hc : c ≤ 8) (hn : n ≤ 16) (hp : post (pN, pK, nI c, nI n, 0, 0, -1, pe, dl, hd, tl, os, ga, tx, rs, cs, pr, pd, nx, bX, bs_mz na os c, bs_mz fl (fun _ => 0) c, aa, bs_mz co (fun _ => 0) c, bs_mz ov (fun _ => 0) c, bs_mz mx (fun _ => -1) c, bs_mz rm (fun _ => 0) n, bs_mz sX (fun _ => -1) n, bs_mz lX (fun _ => -1) 9)) : wpX_configurationChanged post (pN, pK, nI c, nI n, sT, tM, fR, pe, dl, hd, tl, os, ga, tx, rs, cs, pr, pd, nx, bX, na, fl, aa, co, ov, mx, rm, sX, lX) := by
  unfold wpX_configurationChanged
  exact rs_x hc hn hp
theorem cf_xt2 {post : Int32 → Prop} {r q : Int32} (hn : n ≤ 16) (h1 : (∃ j, j < n ∧ rs j = r ∧ pr j = q) → post 1) (h0 : (¬ ∃ j, j < n ∧ rs j = r ∧ pr j = q) → post 0) : ∀ d i, i + d = n → (∀ j, j < i → ¬ (rs j = r ∧ pr j = q)) → wX_isPriorityTaken_2 post r q pN pK tC (nI n) sT tM fR pe dl hd tl os ga tx rs cs pr pd nx bX na fl aa co ov mx rm sX lX (d + 1) (nI i) := by
  intro d
  induction d with
  | zero =>
    intro i hi ha
    have e : i = n := by omega
    subst e
    exact br_t (nI_le (by omega) (by omega)) (h0 (fun ⟨j, hj, z⟩ => ha j hj z))
  | succ d ih =>
    intro i hi ha
    have next : ¬ (rs i = r ∧ pr i = q) → wX_isPriorityTaken_2 post r q pN pK tC (nI n) sT tM fR pe dl hd tl os ga tx rs cs pr pd nx bX na fl aa co ov mx rm sX lX (d + 1) (nI (i + 1)) := by
      intro z
      refine ih (i + 1) (by omega) (fun j hj => ?_)
      by_cases e : j = i
      · rw [e]; exact z
      · exact ha j (by omega)
    have hin : vp_in (nI i) 16 := vp_in_nI (by omega) (by omega)
    refine br_f (nI_ge (by omega) (by omega)) ⟨hin, ?_⟩
    rw [nI_clamp (by omega)]
    by_cases e : rs i = r
    · refine br_t e ⟨hin, ?_⟩
      by_cases g : pr i = q
      · exact br_t g (h1 ⟨i, by omega, e, g⟩)
      · exact br_f g (nm_r (nI_1 i) (next (fun z => g z.2)))
    · exact br_f e (nm_r (nI_1 i) (next (fun z => e z.1)))
theorem cf_xt {post : Int32 → Prop} {r q : Int32} (hn : n ≤ 16) (h1 : (∃ j, j < n ∧ rs j = r ∧ pr j = q) → post 1) (h0 : (¬ ∃ j, j < n ∧ rs j = r ∧ pr j = q) → post 0) : wpX_isPriorityTaken post (pN, pK, tC, nI n, sT, tM, fR, pe, dl, hd, tl, os, ga, tx, rs, cs, pr, pd, nx, bX, na, fl, aa, co, ov, mx, rm, sX, lX) r q := ⟨n + 1, cf_xt2 hn h1 h0 n 0 (by omega) (fun j hj => by omega)⟩
theorem cf_ap1 {post : St2 → Prop} {x : Nat} (hx : x < 8) (hn : n < 16) (e : tl x = -1) (hp : post (pN, pK, tC, sC, sT, tM, fR, pe, dl, upd hd x (nI n), upd tl x (nI n), os, ga, tx, rs, cs, pr, upd pd n (-1), upd nx n (-1), bX, na, fl, aa, co, ov, mx, rm, sX, lX)) : wpX_appendToChain post (pN, pK, tC, sC, sT, tM, fR, pe, dl, hd, tl, os, ga, tx, rs, cs, pr, pd, nx, bX, na, fl, aa, co, ov, mx, rm, sX, lX) (nI x) (nI n) := by
  have i8 : vp_in (nI x) 8 := vp_in_nI (by omega) (by omega)
  have i16 : vp_in (nI n) 16 := vp_in_nI (by omega) (by omega)
  refine ⟨i8, nm_r (by rw [nI_clamp (by omega), e]) ⟨i16, nm_r (cf_up (by omega)) ⟨i16, nm_r (cf_up (by omega)) (br_t rfl ⟨i8, nm_r (cf_up (by omega)) ⟨i8, nm_r (cf_up (by omega)) hp⟩⟩)⟩⟩⟩
theorem cf_ap2 {post : St2 → Prop} {x l : Nat} (hx : x < 8) (hn : n < 16) (hl : l < n) (e : tl x = nI l) (hp : post (pN, pK, tC, sC, sT, tM, fR, pe, dl, hd, upd tl x (nI n), os, ga, tx, rs, cs, pr, upd pd n (nI l), upd (upd nx n (-1)) l (nI n), bX, na, fl, aa, co, ov, mx, rm, sX, lX)) : wpX_appendToChain post (pN, pK, tC, sC, sT, tM, fR, pe, dl, hd, tl, os, ga, tx, rs, cs, pr, pd, nx, bX, na, fl, aa, co, ov, mx, rm, sX, lX) (nI x) (nI n) := by
  have i8 : vp_in (nI x) 8 := vp_in_nI (by omega) (by omega)
  have i16 : vp_in (nI n) 16 := vp_in_nI (by omega) (by omega)
  have il : vp_in (nI l) 16 := vp_in_nI (by omega) (by omega)
  refine ⟨i8, nm_r (by rw [nI_clamp (by omega), e]) ⟨i16, nm_r (cf_up (by omega)) ⟨i16, nm_r (cf_up (by omega)) (br_f (bs_ne (by omega)) ⟨il, nm_r (cf_up (by omega)) ⟨i8, nm_r (cf_up (by omega)) hp⟩⟩)⟩⟩⟩
end
