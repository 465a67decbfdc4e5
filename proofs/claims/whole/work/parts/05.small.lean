/-! small methods, with general posts; the reference's scans -/
theorem sm_in3 (x : Int32) (lo hi : Nat) (hl : lo < 2 ^ 31) (hh : hi < 2 ^ 31) : x < nI lo ∨ (¬ x < nI lo ∧ nI hi < x) ∨ ∃ a, lo ≤ a ∧ a ≤ hi ∧ x = nI a := by
  by_cases h : x < nI lo
  · exact Or.inl h
  · have h0 : ¬ x < 0 := fun z => h (Int32.lt_of_lt_of_le z (nI_pos' hl))
    obtain ⟨j, hj, rfl⟩ := nI_of h0
    rw [nI_ltI hj hl] at h
    by_cases g : nI hi < nI j
    · exact Or.inr (Or.inl ⟨by rw [nI_ltI hj hl]; exact h, g⟩)
    · rw [nI_ltI hh hj] at g
      exact Or.inr (Or.inr ⟨j, by omega, by omega, rfl⟩)
theorem sm_nle {x y : Int32} (h : x < y) : ¬ y ≤ x := fun z => Int32.lt_irrefl (Int32.lt_of_lt_of_le h z)
theorem sm_1 : ¬ (1 : Int32) = 0 := by decide
section
variable {pN pK sT tM fR tC sC : Int32} {c n : Nat} {pe dl hd tl os ga tx rs cs pr pd nx bX na fl aa co ov mx rm sX lX sY dY bY nY lY : Nat → Int32}
theorem sm_w0 {post : Int32 → Prop} {x lo hi : Int32} (h : x < lo) (hp : post 0) : wpX_within post x lo hi := br_t h hp
theorem sm_w2 {post : Int32 → Prop} {x lo hi : Int32} (h : ¬ x < lo) (h' : hi < x) (hp : post 0) : wpX_within post x lo hi := br_f h (br_t h' hp)
theorem sm_w1 {post : Int32 → Prop} {a lo hi : Nat} (h : lo ≤ a) (h' : a ≤ hi) (hh : hi < 2 ^ 31) (hp : post 1) : wpX_within post (nI a) (nI lo) (nI hi) := br_f (nI_nlt h (by omega)) (br_f (nI_nlt h' hh) hp)
theorem sm_t0 {post : Int32 → Prop} {x : Int32} (h : x < 0) (hp : post 0) : wpX_isTransaction post (pN, pK, tC, sC, sT, tM, fR, pe, dl, hd, tl, os, ga, tx, rs, cs, pr, pd, nx, bX, na, fl, aa, co, ov, mx, rm, sX, lX) x := br_t h hp
theorem sm_t2 {post : Int32 → Prop} {x : Int32} (h : ¬ x < 0) (h' : tC ≤ x) (hp : post 0) : wpX_isTransaction post (pN, pK, tC, sC, sT, tM, fR, pe, dl, hd, tl, os, ga, tx, rs, cs, pr, pd, nx, bX, na, fl, aa, co, ov, mx, rm, sX, lX) x := br_f h (br_t h' hp)
theorem sm_t1 {post : Int32 → Prop} {j : Nat} (h : j < c) (hc : c < 2 ^ 31) (hp : post 1) : wpX_isTransaction post (pN, pK, nI c, sC, sT, tM, fR, pe, dl, hd, tl, os, ga, tx, rs, cs, pr, pd, nx, bX, na, fl, aa, co, ov, mx, rm, sX, lX) (nI j) := br_f (nI_pos (by omega)) (br_f (nI_ge h hc) hp)
theorem sm_s0 {post : Int32 → Prop} {x : Int32} (h : x < 0) (hp : post 0) : wpX_isStep post (pN, pK, tC, sC, sT, tM, fR, pe, dl, hd, tl, os, ga, tx, rs, cs, pr, pd, nx, bX, na, fl, aa, co, ov, mx, rm, sX, lX) x := br_t h hp
theorem sm_s2 {post : Int32 → Prop} {x : Int32} (h : ¬ x < 0) (h' : sC ≤ x) (hp : post 0) : wpX_isStep post (pN, pK, tC, sC, sT, tM, fR, pe, dl, hd, tl, os, ga, tx, rs, cs, pr, pd, nx, bX, na, fl, aa, co, ov, mx, rm, sX, lX) x := br_f h (br_t h' hp)
theorem sm_s1 {post : Int32 → Prop} {j : Nat} (h : j < n) (hn : n < 2 ^ 31) (hp : post 1) : wpX_isStep post (pN, pK, tC, nI n, sT, tM, fR, pe, dl, hd, tl, os, ga, tx, rs, cs, pr, pd, nx, bX, na, fl, aa, co, ov, mx, rm, sX, lX) (nI j) := br_f (nI_pos (by omega)) (br_f (nI_ge h hn) hp)
/-- a resource or not: one answer on both sides -/
theorem sm_res (p : Nat) (hp4 : p ≤ 4) (x : Int32) : (∃ z : Int32, z = 0 ∧ (∀ post : Int32 → Prop, post 0 → wpX_isResource post (nI p, pK, tC, sC, sT, tM, fR, pe, dl, hd, tl, os, ga, tx, rs, cs, pr, pd, nx, bX, na, fl, aa, co, ov, mx, rm, sX, lX) x) ∧ (∀ post : Int32 → Prop, post 0 → wpY_validRes post (nI p, pK, tC, sC, sT, tM, fR, pe, dl, os, ga, na, aa, co, ov, mx, fl, tx, rs, cs, pr, rm, sY, dY, bY, nY, lY) x)) ∨
    ((x = 8 ∨ ∃ q, q < p ∧ x = nI q) ∧ (∀ post : Int32 → Prop, post 1 → wpX_isResource post (nI p, pK, tC, sC, sT, tM, fR, pe, dl, hd, tl, os, ga, tx, rs, cs, pr, pd, nx, bX, na, fl, aa, co, ov, mx, rm, sX, lX) x) ∧ (∀ post : Int32 → Prop, post 1 → wpY_validRes post (nI p, pK, tC, sC, sT, tM, fR, pe, dl, os, ga, na, aa, co, ov, mx, fl, tx, rs, cs, pr, rm, sY, dY, bY, nY, lY) x)) := by
  by_cases h8 : x = 8
  · subst h8
    have h80 : ¬ (8 : Int32) < 0 := by decide
    have h8p : ¬ (8 : Int32) < nI p := nI_nlt (a := 8) (b := p) (by omega) (by omega)
    exact Or.inr ⟨Or.inl rfl, fun post hp => br_t rfl hp, fun post hp => br_f h80 (br_f h8p (br_t rfl hp))⟩
  · by_cases h0 : x < 0
    · exact Or.inl ⟨0, rfl, fun post hp => br_f h8 (br_t h0 hp), fun post hp => br_t h0 (br_f h8 hp)⟩
    · by_cases hx : nI p ≤ x
      · exact Or.inl ⟨0, rfl, fun post hp => br_f h8 (br_f h0 (br_t hx hp)), fun post hp => br_f h0 (br_f (Int32.not_lt.mpr hx) (br_f h8 hp))⟩
      · obtain ⟨j, hj, rfl⟩ := nI_of h0
        have hjp : j < p := by
          rw [nI_leI (by omega) hj] at hx
          omega
        exact Or.inr ⟨Or.inr ⟨j, hjp, rfl⟩, fun post hp => br_f h8 (br_f h0 (br_f hx hp)), fun post hp => br_f h0 (br_t (nI_lt hjp (by omega)) hp)⟩
/-! the reference's scans -/
theorem sm_yh2 {post : Int32 → Prop} {x : Int32} (hn : n ≤ 16) : ∀ d i, i + d = n → post (sn_F tx x d i) → wY_head_2 post x pN pK tC (nI n) sT tM fR pe dl os ga na aa co ov mx fl tx rs cs pr rm sY dY bY nY lY (d + 1) (nI i) := by
  intro d
  induction d with
  | zero =>
    intro i hi hp
    exact br_t (nI_le (by omega) (by omega)) hp
  | succ d ih =>
    intro i hi hp
    refine br_f (nI_ge (by omega) (by omega)) ⟨vp_in_nI (by omega) (by omega), ?_⟩
    rw [nI_clamp (by omega)]
    simp only [sn_F] at hp
    by_cases e : tx i = x
    · rw [if_pos e] at hp
      exact br_t e hp
    · rw [if_neg e] at hp
      exact br_f e (nm_r (nI_1 i) (ih (i + 1) (by omega) hp))
theorem sm_yh {post : Int32 → Prop} {x : Int32} (hn : n ≤ 16) (hp : post (sn_F tx x n 0)) : wpY_head post (pN, pK, tC, nI n, sT, tM, fR, pe, dl, os, ga, na, aa, co, ov, mx, fl, tx, rs, cs, pr, rm, sY, dY, bY, nY, lY) x := ⟨n + 1, sm_yh2 hn n 0 (by omega) hp⟩
theorem sm_yn4 {post : Int32 → Prop} {s : Nat} (hs : s < n) (hn : n ≤ 16) : ∀ d i, i + d = n → post (sn_F tx (tx s) d i) → wY_next_4 post (nI s) pN pK tC (nI n) sT tM fR pe dl os ga na aa co ov mx fl tx rs cs pr rm sY dY bY nY lY (d + 1) (nI i) := by
  intro d
  induction d with
  | zero =>
    intro i hi hp
    exact br_t (nI_le (by omega) (by omega)) hp
  | succ d ih =>
    intro i hi hp
    refine br_f (nI_ge (by omega) (by omega)) ⟨vp_in_nI (by omega) (by omega), vp_in_nI (by omega) (by omega), ?_⟩
    rw [nI_clamp (by omega), nI_clamp (by omega)]
    simp only [sn_F] at hp
    by_cases e : tx i = tx s
    · rw [if_pos e] at hp
      exact br_t e hp
    · rw [if_neg e] at hp
      exact br_f e (nm_r (nI_1 i) (ih (i + 1) (by omega) hp))
theorem sm_yn {post : Int32 → Prop} {s : Nat} (hs : s < n) (hn : n ≤ 16) (hp : post (sn_F tx (tx s) (n - (s + 1)) (s + 1))) : wpY_next post (pN, pK, tC, nI n, sT, tM, fR, pe, dl, os, ga, na, aa, co, ov, mx, fl, tx, rs, cs, pr, rm, sY, dY, bY, nY, lY) (nI s) :=
  nm_r (nI_1 s) ⟨_, sm_yn4 hs hn (n - (s + 1)) (s + 1) (by omega) hp⟩
theorem sm_yt4 {post : Int32 → Prop} {x : Int32} (hn : n ≤ 16) : ∀ d i, i + d = n → post (sn_L tx x n) → wY_tail_4 post x pN pK tC (nI n) sT tM fR pe dl os ga na aa co ov mx fl tx rs cs pr rm sY dY bY nY lY (d + 1) (sn_L tx x i) (nI i) := by
  intro d
  induction d with
  | zero =>
    intro i hi hp
    have e : i = n := by omega
    subst e
    exact br_t (nI_le (by omega) (by omega)) hp
  | succ d ih =>
    intro i hi hp
    refine br_f (nI_ge (by omega) (by omega)) ⟨vp_in_nI (by omega) (by omega), ?_⟩
    rw [nI_clamp (by omega)]
    have z := ih (i + 1) (by omega) hp
    simp only [sn_L] at z
    by_cases e : tx i = x
    · rw [if_pos e] at z
      exact br_t e (nm_r (nI_1 i) z)
    · rw [if_neg e] at z
      exact br_f e (nm_r (nI_1 i) z)
theorem sm_yt {post : Int32 → Prop} {x : Int32} (hn : n ≤ 16) (hp : post (sn_L tx x n)) : wpY_tail post (pN, pK, tC, nI n, sT, tM, fR, pe, dl, os, ga, na, aa, co, ov, mx, fl, tx, rs, cs, pr, rm, sY, dY, bY, nY, lY) x := ⟨n + 1, sm_yt4 hn n 0 (by omega) hp⟩
theorem sm_yp4 {post : Int32 → Prop} {s : Nat} (hs : s < 16) : ∀ d i, i + d = s → post (sn_L tx (tx s) s) → wY_pred_4 post (nI s) pN pK tC sC sT tM fR pe dl os ga na aa co ov mx fl tx rs cs pr rm sY dY bY nY lY (d + 1) (sn_L tx (tx s) i) (nI i) := by
  intro d
  induction d with
  | zero =>
    intro i hi hp
    have e : i = s := by omega
    subst e
    exact br_t (nI_le (by omega) (by omega)) hp
  | succ d ih =>
    intro i hi hp
    refine br_f (nI_ge (by omega) (by omega)) (br_f (nI_ge (b := 16) (by omega) (by omega)) ⟨vp_in_nI (by omega) (by omega), vp_in_nI (by omega) (by omega), ?_⟩)
    rw [nI_clamp (by omega), nI_clamp (by omega)]
    have z := ih (i + 1) (by omega) hp
    simp only [sn_L] at z
    by_cases e : tx i = tx s
    · rw [if_pos e] at z
      exact br_t e (nm_r (nI_1 i) z)
    · rw [if_neg e] at z
      exact br_f e (nm_r (nI_1 i) z)
theorem sm_yp {post : Int32 → Prop} {s : Nat} (hs : s < 16) (hp : post (sn_L tx (tx s) s)) : wpY_pred post (pN, pK, tC, sC, sT, tM, fR, pe, dl, os, ga, na, aa, co, ov, mx, fl, tx, rs, cs, pr, rm, sY, dY, bY, nY, lY) (nI s) := ⟨s + 1, sm_yp4 hs s 0 (by omega) hp⟩
/-! complete -/
theorem sm_xc2 {post : Int32 → Prop} (hc : c ≤ 8) (h1 : 0 < c → (∀ x, x < c → ¬ hd x = -1) → post 1) (h0 : ¬ (0 < c ∧ ∀ x, x < c → ¬ hd x = -1) → post 0) : ∀ d i, i + d = c → (∀ x, x < i → ¬ hd x = -1) → wX_isComplete_2 post pN pK (nI c) sC sT tM fR pe dl hd tl os ga tx rs cs pr pd nx bX na fl aa co ov mx rm sX lX (d + 1) (nI i) := by
  intro d
  induction d with
  | zero =>
    intro i hi ha
    have e : i = c := by omega
    subst e
    refine br_t (nI_le (by omega) (by omega)) ?_
    by_cases z : i = 0
    · subst z
      exact br_t (by decide) (h0 (fun k => by omega))
    · exact br_f (nI_nle (by omega) (by omega)) (h1 (by omega) ha)
  | succ d ih =>
    intro i hi ha
    refine br_f (nI_ge (by omega) (by omega)) ⟨vp_in_nI (by omega) (by omega), ?_⟩
    rw [nI_clamp (by omega)]
    by_cases e : hd i = -1
    · exact br_t e (h0 (fun k => k.2 i (by omega) e))
    · refine br_f e (nm_r (nI_1 i) (ih (i + 1) (by omega) (fun x hx => ?_)))
      by_cases z : x = i
      · rw [z]; exact e
      · exact ha x (by omega)
theorem sm_xc {post : Int32 → Prop} (hc : c ≤ 8) (h1 : 0 < c → (∀ x, x < c → ¬ hd x = -1) → post 1) (h0 : ¬ (0 < c ∧ ∀ x, x < c → ¬ hd x = -1) → post 0) : wpX_isComplete post (pN, pK, nI c, sC, sT, tM, fR, pe, dl, hd, tl, os, ga, tx, rs, cs, pr, pd, nx, bX, na, fl, aa, co, ov, mx, rm, sX, lX) := ⟨c + 1, sm_xc2 hc h1 h0 c 0 (by omega) (fun x hx => by omega)⟩
theorem sm_yc12 {post : Int32 → Prop} (hc : c ≤ 8) (hn : n ≤ 16) (hh : ∀ x, x < c → hd x = sn_F tx (nI x) n 0) (h1 : (∀ x, x < c → ¬ hd x = -1) → post 1) (h0 : (¬ ∀ x, x < c → ¬ hd x = -1) → post 0) : ∀ d i, i + d = c → (∀ x, x < i → ¬ hd x = -1) → wY_complete_12 post pN pK (nI c) (nI n) sT tM fR pe dl os ga na aa co ov mx fl tx rs cs pr rm sY dY bY nY lY (d + 1) (nI i) := by
  intro d
  induction d with
  | zero =>
    intro i hi ha
    have e : i = c := by omega
    subst e
    exact br_t (nI_le (by omega) (by omega)) (h1 ha)
  | succ d ih =>
    intro i hi ha
    refine br_f (nI_ge (by omega) (by omega)) (sm_yh hn ?_)
    rw [← hh i (by omega)]
    by_cases e : hd i = -1
    · exact br_t e (h0 (fun k => k i (by omega) e))
    · refine br_f e (nm_r (nI_1 i) (ih (i + 1) (by omega) (fun x hx => ?_)))
      by_cases z : x = i
      · rw [z]; exact e
      · exact ha x (by omega)
theorem sm_yc {post : Int32 → Prop} (hc : c ≤ 8) (hn : n ≤ 16) (hh : ∀ x, x < c → hd x = sn_F tx (nI x) n 0) (h1 : 0 < c → (∀ x, x < c → ¬ hd x = -1) → post 1) (h0 : ¬ (0 < c ∧ ∀ x, x < c → ¬ hd x = -1) → post 0) : wpY_complete post (pN, pK, nI c, nI n, sT, tM, fR, pe, dl, os, ga, na, aa, co, ov, mx, fl, tx, rs, cs, pr, rm, sY, dY, bY, nY, lY) := by
  by_cases z : 0 < c
  · exact br_t (nI_le (a := 1) (b := c) (by omega) (by omega)) ⟨c + 1, sm_yc12 hc hn hh (h1 z) (fun k => h0 (fun w => k w.2)) c 0 (by omega) (fun x hx => by omega)⟩
  · exact br_f (nI_ge (a := c) (b := 1) (by omega) (by omega)) (h0 (fun k => z k.1))
end
