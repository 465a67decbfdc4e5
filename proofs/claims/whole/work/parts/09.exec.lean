/-! execution and completions, both sides in lockstep -/
section
variable {pN pK sT tM fR tC sC : Int32} {c n p kk : Nat} {pe dl hd tl os ga tx rs cs pr pd nx bX na fl aa co ov mx rm sX lX sY dY bY nY lY : Nat → Int32}
theorem ti_y117 {post : SY → Prop} {x1 : Int32} : ∀ d i, i + d = 16 → (∃ m, wY_tick_138 post x1 pN pK tC sC sT tM fR m 0 pe dl os ga na aa co ov mx fl tx rs cs pr rm sY (bs_mz dY (fun _ => 0) 16) bY nY lY) → wY_tick_117 post x1 pN pK tC sC sT tM fR (d + 1) (nI i) pe dl os ga na aa co ov mx fl tx rs cs pr rm sY (bs_mz dY (fun _ => 0) i) bY nY lY := by
  intro d
  induction d with
  | zero =>
    intro i hi hp
    have e : i = 16 := by omega
    subst e
    exact br_t (nI_le (a := 16) (b := 16) (by omega) (by omega)) hp
  | succ d ih =>
    intro i hi hp
    exact br_f (nI_ge (a := i) (b := 16) (by omega) (by omega)) ⟨vp_in_nI (by omega) (by omega), nm_r (rs_sb (by omega)) (nm_r (nI_1 i) (ih (i + 1) (by omega) hp))⟩
theorem ti_xw0 {post : SX → Prop} {r : Nat} (hr : r < 9) (hp : post (pN, pK, tC, sC, sT, tM, fR, pe, dl, hd, tl, os, ga, tx, rs, cs, pr, pd, nx, bX, na, fl, aa, co, ov, mx, rm, sX, upd lX r (-1))) : wpX_work post (pN, pK, tC, sC, sT, tM, fR, pe, dl, hd, tl, os, ga, tx, rs, cs, pr, pd, nx, bX, na, fl, aa, co, ov, mx, rm, sX, lX) (nI r) (-1) := ⟨vp_in_nI hr (by omega), nm_r (cf_up (by omega)) (br_t rfl hp)⟩
theorem ti_xw1 {post : SX → Prop} {r j : Nat} (hr : r < 9) (hj : j < 16) (hp : post (pN, pK, tC, sC, sT, tM, fR, pe, dl, hd, tl, os, ga, tx, rs, cs, pr, pd, nx, bX, na, fl, aa, co, ov, mx, upd rm j (rm j - 1), sX, upd lX r (nI j))) : wpX_work post (pN, pK, tC, sC, sT, tM, fR, pe, dl, hd, tl, os, ga, tx, rs, cs, pr, pd, nx, bX, na, fl, aa, co, ov, mx, rm, sX, lX) (nI r) (nI j) := by
  have k : vp_in (nI j) 16 := vp_in_nI (by omega) (by omega)
  exact ⟨vp_in_nI hr (by omega), nm_r (cf_up (by omega)) (br_f (bs_ne (by omega)) ⟨k, k, nm_r (by rw [nI_clamp (by omega)]) hp⟩)⟩
/-- who worked so far: the reference's marks and the last runners say the same -/
def ti_W (n i : Nat) (rs dY lX : Nat → Int32) : Prop := ∀ s, s < n → (¬ dY s = 0 ↔ ∃ q, q < i ∧ rs s = nI q ∧ lX q = nI s)
theorem ti_W0 {i : Nat} (hi : i < 4) (hn : n ≤ 16) (h : ti_W n i rs dY lX) (hno : ∀ s, s < n → rs s = nI i → dY s = 0) : ti_W n (i + 1) rs dY (upd lX i (-1)) := by
  intro s hs
  rw [h s hs]
  constructor
  · rintro ⟨q, hq, e1, e2⟩
    exact ⟨q, by omega, e1, by rw [pk_un (by omega)]; exact e2⟩
  · rintro ⟨q, hq, e1, e2⟩
    by_cases z : q = i
    · rw [z, pk_us] at e2
      exact absurd e2.symm (bs_ne (by omega))
    · rw [pk_un z] at e2
      exact ⟨q, by omega, e1, e2⟩
theorem ti_W1 {i j : Nat} (hi : i < 4) (hn : n ≤ 16) (hj : j < n) (hr : rs j = nI i) (h : ti_W n i rs dY lX) : ti_W n (i + 1) rs (upd dY j 1) (upd lX i (nI j)) := by
  intro s hs
  by_cases e : s = j
  · subst e
    rw [pk_us]
    exact ⟨fun _ => ⟨i, by omega, hr, pk_us⟩, fun _ => by decide⟩
  · rw [pk_un e, h s hs]
    constructor
    · rintro ⟨q, hq, e1, e2⟩
      exact ⟨q, by omega, e1, by rw [pk_un (by omega)]; exact e2⟩
    · rintro ⟨q, hq, e1, e2⟩
      by_cases z : q = i
      · rw [z, pk_us] at e2
        exact absurd ((nI_eq (by omega) (by omega)).mp e2).symm e
      · rw [pk_un z] at e2
        exact ⟨q, by omega, e1, e2⟩
theorem ti_Wn {i : Nat} (hi : i < 4) (h : ti_W n i rs dY lX) : ∀ s, s < n → rs s = nI i → dY s = 0 := by
  intro s hs e
  by_cases z : dY s = 0
  · exact z
  · obtain ⟨q, hq, e1, _⟩ := (h s hs).mp z
    rw [e] at e1
    have := (nI_eq (a := i) (b := q) (by omega) (by omega)).mp e1
    omega
theorem ti_exe (hp4 : p ≤ 4) (hn : n ≤ 16) : ∀ (d i : Nat) (rm dY lX lY : Nat → Int32), i + d = p → (∀ s, n ≤ s → rm s = 0) → (∀ q, q < 4 → lY q = lX q) → ti_W n i rs dY lX →
    ∃ rm' dY' lX' lY' : Nat → Int32, (∀ s, n ≤ s → rm' s = 0) ∧ (∀ q, q < 4 → lY' q = lX' q) ∧ ti_W n p rs dY' lX' ∧
      (∀ post : SX → Prop, wX_execute_2 post 1 (nI p) (nI p) pK tC (nI n) sT tM fR pe dl hd tl os ga tx rs cs pr pd nx bX na fl aa co ov mx rm' sX lX' → wX_execute_2 post (d + 1) (nI i) (nI p) pK tC (nI n) sT tM fR pe dl hd tl os ga tx rs cs pr pd nx bX na fl aa co ov mx rm sX lX) ∧
      (∀ (post : SY → Prop) (x1 : Int32), wY_tick_138 post x1 (nI p) pK tC (nI n) sT tM fR 1 (nI p) pe dl os ga na aa co ov mx fl tx rs cs pr rm' sY dY' bY nY lY' → wY_tick_138 post x1 (nI p) pK tC (nI n) sT tM fR (d + 1) (nI i) pe dl os ga na aa co ov mx fl tx rs cs pr rm sY dY bY nY lY) := by
  intro d
  induction d with
  | zero =>
    intro i rm dY lX lY hi hz hl hw
    have e : i = p := by omega
    subst e
    exact ⟨rm, dY, lX, lY, hz, hl, hw, fun post h => h, fun post x1 h => h⟩
  | succ d ih =>
    intro i rm dY lX lY hi hz hl hw
    have g : ¬ nI p ≤ nI i := nI_ge (by omega) (by omega)
    have k5 : vp_in (nI i) 5 := vp_in_nI (by omega) (by omega)
    rcases sn_mu_some rs pr rm (nI i) n with b | ⟨j, hj, b, hr⟩
    · obtain ⟨rm', dY', lX', lY', hz', hl', hw', hX, hY⟩ := ih (i + 1) rm dY (upd lX i (-1)) (upd lY i (-1)) (by omega) hz (fun q hq => by
        by_cases e : q = i
        · rw [e, pk_us, pk_us]
        · rw [pk_un e, pk_un e]; exact hl q hq) (ti_W0 (by omega) hn hw (ti_Wn (by omega) hw))
      refine ⟨rm', dY', lX', lY', hz', hl', hw', fun post h => br_f g (ti_xm hn ?_), fun post x1 h => br_f g ⟨n + 1, ti_y151 hn n 0 (by omega) ?_⟩⟩
      · rw [b]
        exact ti_xw0 (by omega) (nm_r (nI_1 i) (hX post h))
      · rw [b]
        exact br_t (nI_le (by omega) (by omega)) (br_t rfl ⟨k5, nm_r (cf_up (by omega)) (nm_r (nI_1 i) (hY post x1 h))⟩)
    · have kj : vp_in (nI j) 16 := vp_in_nI (by omega) (by omega)
      obtain ⟨rm', dY', lX', lY', hz', hl', hw', hX, hY⟩ := ih (i + 1) (upd rm j (rm j - 1)) (upd dY j 1) (upd lX i (nI j)) (upd lY i (nI j)) (by omega) (ti_upz hj hz) (fun q hq => by
        by_cases e : q = i
        · rw [e, pk_us, pk_us]
        · rw [pk_un e, pk_un e]; exact hl q hq) (ti_W1 (by omega) hn hj hr hw)
      refine ⟨rm', dY', lX', lY', hz', hl', hw', fun post h => br_f g (ti_xm hn ?_), fun post x1 h => br_f g ⟨n + 1, ti_y151 hn n 0 (by omega) ?_⟩⟩
      · rw [b]
        exact ti_xw1 (by omega) (by omega) (nm_r (nI_1 i) (hX post h))
      · rw [b]
        exact br_t (nI_le (by omega) (by omega)) (br_f (bs_ne (by omega)) ⟨kj, kj, nm_r (by rw [nI_clamp (by omega)]) ⟨kj, nm_r (ti_bt (by omega)) ⟨k5, nm_r (cf_up (by omega)) (nm_r (nI_1 i) (hY post x1 h))⟩⟩⟩)
/-- the bus: the frame after it was chosen, -1 or a step of the bus -/
theorem ti_busx {post : SX → Prop} {f : Int32} (hf : (f = -1 ∧ post (pN, pK, tC, sC, sT, tM, f, pe, dl, hd, tl, os, ga, tx, rs, cs, pr, pd, nx, bX, na, fl, aa, co, ov, mx, rm, sX, upd lX 8 f)) ∨ ∃ j, j < 16 ∧ f = nI j ∧ post (pN, pK, tC, sC, sT, tM, f, pe, dl, hd, tl, os, ga, tx, rs, cs, pr, pd, nx, bX, na, fl, aa, co, ov, mx, upd rm j (rm j - 1), sX, upd lX 8 f)) : wX_execute_46 post pN pK tC sC sT tM f pe dl hd tl os ga tx rs cs pr pd nx bX na fl aa co ov mx rm sX lX := by
  unfold wX_execute_46
  rcases hf with ⟨rfl, h⟩ | ⟨j, hj, rfl, h⟩
  · exact ti_xw0 (r := 8) (by omega) h
  · exact ti_xw1 (r := 8) (by omega) hj h
theorem ti_busy {post : SY → Prop} {x1 f : Int32} (hf : (f = -1 ∧ ∃ m, wY_tick_379 post x1 (x1 + 1) pN pK tC sC sT tM m 0 f pe dl os ga na aa co ov mx fl tx rs cs pr rm sY dY bY nY (upd lY 4 f)) ∨ ∃ j, j < 16 ∧ f = nI j ∧ ∃ m, wY_tick_379 post x1 (x1 + 1) pN pK tC sC sT tM m 0 f pe dl os ga na aa co ov mx fl tx rs cs pr (upd rm j (rm j - 1)) sY (upd dY j 1) bY nY (upd lY 4 f)) : wY_tick_325 post x1 pN pK tC sC sT tM f pe dl os ga na aa co ov mx fl tx rs cs pr rm sY dY bY nY lY := by
  rcases hf with ⟨rfl, h⟩ | ⟨j, hj, rfl, h⟩
  · exact br_t rfl (nm_e (nm_e h))
  · have kj : vp_in (nI j) 16 := vp_in_nI (by omega) (by omega)
    exact br_f (bs_ne (by omega)) ⟨kj, kj, nm_r (by rw [nI_clamp (by omega)]) ⟨kj, nm_r (ti_bt (by omega)) (nm_e (nm_e h))⟩⟩
/-- behind the execution: who worked -/
def ti_V (n : Nat) (rs dY lX : Nat → Int32) : Prop := ∀ s, s < n → (¬ dY s = 0 ↔ lX (rs s).toNatClampNeg = nI s)
theorem ti_8 : (8 : Int32).toNatClampNeg = 8 := by decide
theorem ti_V0 (hp4 : p ≤ 4) (hn : n ≤ 16) (hr : ∀ s, s < n → rs s = 8 ∨ ∃ q, q < p ∧ rs s = nI q) (hw : ti_W n p rs dY lX) : ti_V n rs dY (upd lX 8 (-1)) := by
  intro s hs
  rw [hw s hs]
  rcases hr s hs with e | ⟨q, hq, e⟩
  · rw [e, ti_8, pk_us]
    constructor
    · rintro ⟨q, hq, e1, _⟩
      have := (nI_eq (a := 8) (b := q) (by omega) (by omega)).mp e1
      omega
    · intro z
      exact absurd z.symm (bs_ne (by omega))
  · rw [e, nI_clamp (by omega), pk_un (by omega)]
    constructor
    · rintro ⟨q', hq', e1, e2⟩
      have := (nI_eq (a := q) (b := q') (by omega) (by omega)).mp e1
      rw [this]; exact e2
    · intro z
      exact ⟨q, hq, rfl, z⟩
theorem ti_V1 (hp4 : p ≤ 4) (hn : n ≤ 16) {j : Nat} (hj : j < n) (hj8 : rs j = 8) (hr : ∀ s, s < n → rs s = 8 ∨ ∃ q, q < p ∧ rs s = nI q) (hw : ti_W n p rs dY lX) : ti_V n rs (upd dY j 1) (upd lX 8 (nI j)) := by
  intro s hs
  by_cases z : s = j
  · subst z
    rw [pk_us, hj8, ti_8, pk_us]
    exact ⟨fun _ => rfl, fun _ => by decide⟩
  · rw [pk_un z, hw s hs]
    rcases hr s hs with e | ⟨q, hq, e⟩
    · rw [e, ti_8, pk_us]
      constructor
      · rintro ⟨q, hq, e1, _⟩
        have := (nI_eq (a := 8) (b := q) (by omega) (by omega)).mp e1
        omega
      · intro w
        exact absurd ((nI_eq (by omega) (by omega)).mp w).symm z
    · rw [e, nI_clamp (by omega), pk_un (by omega)]
      constructor
      · rintro ⟨q', hq', e1, e2⟩
        have := (nI_eq (a := q) (b := q') (by omega) (by omega)).mp e1
        rw [this]; exact e2
      · intro w
        exact ⟨q, hq, rfl, w⟩
theorem ti_bus (hp1 : p ≤ 4) (hn : n ≤ 16) (hr : ∀ s, s < n → rs s = 8 ∨ ∃ q, q < p ∧ rs s = nI q) (hz : ∀ s, n ≤ s → rm s = 0) (hl : ∀ q, q < 4 → lY q = lX q) (hw : ti_W n p rs dY lX) (hfr : fR = -1 ∨ ∃ f, f < n ∧ fR = nI f ∧ rs f = 8) :
    ∃ (fR' : Int32) (rm' dY' lX' lY' : Nat → Int32), (∀ s, n ≤ s → rm' s = 0) ∧ (fR' = -1 ∨ ∃ f, f < n ∧ fR' = nI f ∧ rs f = 8) ∧ ((∀ q, q < 4 → lY' q = lX' q) ∧ lY' 4 = lX' 8) ∧ ti_V n rs dY' lX' ∧
      (∀ post : SX → Prop, post (nI p, pK, tC, nI n, sT, tM, fR', pe, dl, hd, tl, os, ga, tx, rs, cs, pr, pd, nx, bX, na, fl, aa, co, ov, mx, rm', sX, lX') → wX_execute_2 post 1 (nI p) (nI p) pK tC (nI n) sT tM fR pe dl hd tl os ga tx rs cs pr pd nx bX na fl aa co ov mx rm sX lX) ∧
      (∀ (post : SY → Prop) (x1 : Int32), (∃ m, wY_tick_379 post x1 (x1 + 1) (nI p) pK tC (nI n) sT tM m 0 fR' pe dl os ga na aa co ov mx fl tx rs cs pr rm' sY dY' bY nY lY') → wY_tick_138 post x1 (nI p) pK tC (nI n) sT tM fR 1 (nI p) pe dl os ga na aa co ov mx fl tx rs cs pr rm sY dY bY nY lY) := by
  have g : nI p ≤ nI p := nI_le (by omega) (by omega)
  have hq : ∀ v, (∀ q, q < 4 → upd lY 4 v q = upd lX 8 v q) ∧ upd lY 4 v 4 = upd lX 8 v 8 := fun v => ⟨fun q hq => by rw [pk_un (by omega), pk_un (by omega)]; exact hl q hq, by rw [pk_us, pk_us]⟩
  rcases hfr with rfl | ⟨f, hf, rfl, hf8⟩
  · rcases sn_mu_some rs pr rm 8 n with b | ⟨j, hj, b, hj8⟩
    · refine ⟨-1, rm, dY, upd lX 8 (-1), upd lY 4 (-1), hz, Or.inl rfl, hq _, ti_V0 hp1 hn hr hw, fun post h => br_t g (br_t rfl (ti_xm hn ?_)), fun post x1 h => br_t g (br_t rfl ⟨n + 1, ti_y260 hn n 0 (by omega) (br_t (nI_le (by omega) (by omega)) ?_)⟩)⟩
      · rw [b]; exact ti_busx (Or.inl ⟨rfl, h⟩)
      · rw [b]; exact ti_busy (Or.inl ⟨rfl, h⟩)
    · refine ⟨nI j, upd rm j (rm j - 1), upd dY j 1, upd lX 8 (nI j), upd lY 4 (nI j), ti_upz hj hz, Or.inr ⟨j, hj, rfl, hj8⟩, hq _, ti_V1 hp1 hn hj hj8 hr hw, fun post h => br_t g (br_t rfl (ti_xm hn ?_)), fun post x1 h => br_t g (br_t rfl ⟨n + 1, ti_y260 hn n 0 (by omega) (br_t (nI_le (by omega) (by omega)) ?_)⟩)⟩
      · rw [b]; exact ti_busx (Or.inr ⟨j, by omega, rfl, h⟩)
      · rw [b]; exact ti_busy (Or.inr ⟨j, by omega, rfl, h⟩)
  · have nf : ¬ nI f = -1 := bs_ne (by omega)
    exact ⟨nI f, upd rm f (rm f - 1), upd dY f 1, upd lX 8 (nI f), upd lY 4 (nI f), ti_upz hf hz, Or.inr ⟨f, hf, rfl, hf8⟩, hq _, ti_V1 hp1 hn hf hf8 hr hw, fun post h => br_t g (br_f nf (ti_busx (Or.inr ⟨f, by omega, rfl, h⟩))), fun post x1 h => br_t g (br_f nf (ti_busy (Or.inr ⟨f, by omega, rfl, h⟩)))⟩
/-! completions -/
def ti_fr (i : Nat) (fR : Int32) : Int32 := if nI i = fR then -1 else fR
theorem ti_xc50t {post : SX → Prop} {i y : Nat} {x3 : Int32} (hi : i < 16) (hy : y < 8) (e : nx i = -1) (hp : post (pN, pK, tC, sC, sT, tM, fR, pe, dl, hd, tl, os, ga, tx, rs, cs, pr, pd, nx, bX, na, upd fl y 0, aa, upd co y (co y + 1), ov, upd mx y (ti_gr (mx y) x3), rm, sX, lX)) : wX_complete_50 post (nI i) (nI y) x3 pN pK tC sC sT tM fR pe dl hd tl os ga tx rs cs pr pd nx bX na fl aa co ov mx rm sX lX := by
  have k : vp_in (nI y) 8 := vp_in_nI (by omega) (by omega)
  refine ⟨vp_in_nI (by omega) (by omega), br_t (by rw [nI_clamp (by omega)]; exact e) ⟨k, nm_r (ti_bf (by omega)) ⟨k, k, nm_r (by rw [nI_clamp (by omega)]) ⟨k, ti_gx ⟨k, nm_r (by rw [nI_clamp (by omega)]) hp⟩⟩⟩⟩⟩
theorem ti_xc50n {post : SX → Prop} {i m : Nat} {x2 x3 : Int32} (hi : i < 16) (hm : m < 16) (e : nx i = nI m) (hp : post (pN, pK, tC, sC, sT, tM, fR, pe, dl, hd, tl, os, ga, tx, rs, cs, pr, pd, nx, bX, na, fl, aa, co, ov, mx, upd rm m (cs m), sX, lX)) : wX_complete_50 post (nI i) x2 x3 pN pK tC sC sT tM fR pe dl hd tl os ga tx rs cs pr pd nx bX na fl aa co ov mx rm sX lX := by
  have k : vp_in (nI m) 16 := vp_in_nI (by omega) (by omega)
  have ki : vp_in (nI i) 16 := vp_in_nI (by omega) (by omega)
  refine ⟨ki, br_f (by rw [nI_clamp (by omega), e]; exact bs_ne (by omega)) ⟨ki, ?_⟩⟩
  rw [nI_clamp (by omega), e]
  exact ⟨k, k, nm_r (by rw [nI_clamp (by omega)]) hp⟩
theorem ti_xc {post : SX → Prop} {i y : Nat} (hi : i < 16) (hy : y < 8) (et : tx i = nI y) (hp : wX_complete_50 post (nI i) (nI y) (tM + 1 - aa y) pN pK tC sC sT tM (ti_fr i fR) pe dl hd tl os ga tx rs cs pr pd nx bX na fl aa co ov mx rm (upd sX i (ti_gr (sX i) (tM + 1 - aa y))) lX) : wpX_complete post (pN, pK, tC, sC, sT, tM, fR, pe, dl, hd, tl, os, ga, tx, rs, cs, pr, pd, nx, bX, na, fl, aa, co, ov, mx, rm, sX, lX) (nI i) := by
  have ki : vp_in (nI i) 16 := vp_in_nI (by omega) (by omega)
  refine ⟨ki, nm_r (by rw [nI_clamp (by omega), et]) ⟨vp_in_nI (by omega) (by omega), nm_r (by rw [nI_clamp (by omega)]) ⟨ki, ti_gx ⟨ki, nm_r (by rw [nI_clamp (by omega)]) ?_⟩⟩⟩⟩
  unfold ti_fr at hp
  by_cases e : nI i = fR
  · rw [if_pos e] at hp
    exact br_t e hp
  · rw [if_neg e] at hp
    exact br_f e hp
theorem ti_yt {post : SY → Prop} {x1 x2 : Int32} {i y d : Nat} (hn : n ≤ 16) (hi : i < n) (hy : y < 8) (hd' : ¬ dY i = 0) (hr : rm i = 0) (et : tx i = nI y) (e : sn_F tx (tx i) (n - (i + 1)) (i + 1) = -1)
    (hp : wY_tick_379 post x1 x2 pN pK tC (nI n) sT tM d (nI (i + 1)) (ti_fr i fR) pe dl os ga na aa (upd co y (co y + 1)) ov (upd mx y (ti_gr (mx y) (x2 - aa y))) (upd fl y 0) tx rs cs pr rm (upd sY i (ti_gr (sY i) (x2 - aa y))) dY bY nY lY) : wY_tick_379 post x1 x2 pN pK tC (nI n) sT tM (d + 1) (nI i) fR pe dl os ga na aa co ov mx fl tx rs cs pr rm sY dY bY nY lY := by
  have ki : vp_in (nI i) 16 := vp_in_nI (by omega) (by omega)
  have k : vp_in (nI y) 8 := vp_in_nI (by omega) (by omega)
  have cl : (nI i).toNatClampNeg = i := nI_clamp (by omega)
  have tl456 : ∀ (fR : Int32) (sY : Nat → Int32), wY_tick_379 post x1 x2 pN pK tC (nI n) sT tM d (nI (i + 1)) fR pe dl os ga na aa (upd co y (co y + 1)) ov (upd mx y (ti_gr (mx y) (x2 - aa y))) (upd fl y 0) tx rs cs pr rm sY dY bY nY lY → wY_tick_456 post (wY_tick_379 post x1 x2 pN pK tC (nI n) sT tM d) x1 x2 (nI i) (nI y) (x2 - aa y) pN pK tC (nI n) sT tM fR pe dl os ga na aa co ov mx fl tx rs cs pr rm sY dY bY nY lY := by
    intro fR sY h
    unfold wY_tick_456
    refine sm_yn hi hn ?_
    rw [e]
    refine br_t rfl ⟨k, nm_r (ti_bf (by omega)) ⟨k, k, nm_r (by rw [nI_clamp (by omega)]) ⟨k, ?_⟩⟩⟩
    rw [nI_clamp (by omega)]
    by_cases z : x2 - aa y ≤ mx y
    · rw [ti_gr1 z, bs_upd_self] at h
      exact br_t z (nm_r (nI_1 i) h)
    · rw [ti_gr2 z] at h
      exact br_f z ⟨k, nm_r rfl (nm_r (nI_1 i) h)⟩
  have t443 : ∀ (sY : Nat → Int32), wY_tick_379 post x1 x2 pN pK tC (nI n) sT tM d (nI (i + 1)) (ti_fr i fR) pe dl os ga na aa (upd co y (co y + 1)) ov (upd mx y (ti_gr (mx y) (x2 - aa y))) (upd fl y 0) tx rs cs pr rm sY dY bY nY lY → wY_tick_443 post (wY_tick_379 post x1 x2 pN pK tC (nI n) sT tM d) x1 x2 (nI i) (nI y) (x2 - aa y) pN pK tC (nI n) sT tM fR pe dl os ga na aa co ov mx fl tx rs cs pr rm sY dY bY nY lY := by
    intro sY h
    unfold ti_fr at h
    by_cases z : nI i = fR
    · rw [if_pos z] at h
      exact br_t z (tl456 (-1) sY h)
    · rw [if_neg z] at h
      exact br_f z (tl456 fR sY h)
  refine br_f (nI_ge (by omega) (by omega)) ⟨ki, br_f (by rw [cl]; exact hd') ⟨ki, br_t (by rw [cl]; exact hr) ⟨ki, nm_r (by rw [cl, et]) ⟨k, nm_r (by rw [nI_clamp (by omega)]) ⟨ki, ?_⟩⟩⟩⟩⟩
  rw [cl]
  by_cases z : x2 - aa y ≤ sY i
  · rw [ti_gr1 z, bs_upd_self] at hp
    exact br_t z (t443 sY hp)
  · rw [ti_gr2 z] at hp
    exact br_f z ⟨ki, nm_r rfl (t443 _ hp)⟩
theorem ti_yn {post : SY → Prop} {x1 x2 : Int32} {i y m d : Nat} (hn : n ≤ 16) (hi : i < n) (hy : y < 8) (hm : m < 16) (hd' : ¬ dY i = 0) (hr : rm i = 0) (et : tx i = nI y) (e : sn_F tx (tx i) (n - (i + 1)) (i + 1) = nI m)
    (hp : wY_tick_379 post x1 x2 pN pK tC (nI n) sT tM d (nI (i + 1)) (ti_fr i fR) pe dl os ga na aa co ov mx fl tx rs cs pr (upd rm m (cs m)) (upd sY i (ti_gr (sY i) (x2 - aa y))) dY bY nY lY) : wY_tick_379 post x1 x2 pN pK tC (nI n) sT tM (d + 1) (nI i) fR pe dl os ga na aa co ov mx fl tx rs cs pr rm sY dY bY nY lY := by
  have ki : vp_in (nI i) 16 := vp_in_nI (by omega) (by omega)
  have km : vp_in (nI m) 16 := vp_in_nI (by omega) (by omega)
  have k : vp_in (nI y) 8 := vp_in_nI (by omega) (by omega)
  have cl : (nI i).toNatClampNeg = i := nI_clamp (by omega)
  have tl456 : ∀ (fR : Int32) (sY : Nat → Int32), wY_tick_379 post x1 x2 pN pK tC (nI n) sT tM d (nI (i + 1)) fR pe dl os ga na aa co ov mx fl tx rs cs pr (upd rm m (cs m)) sY dY bY nY lY → wY_tick_456 post (wY_tick_379 post x1 x2 pN pK tC (nI n) sT tM d) x1 x2 (nI i) (nI y) (x2 - aa y) pN pK tC (nI n) sT tM fR pe dl os ga na aa co ov mx fl tx rs cs pr rm sY dY bY nY lY := by
    intro fR sY h
    unfold wY_tick_456
    refine sm_yn hi hn ?_
    rw [e]
    exact br_f (bs_ne (by omega)) ⟨km, km, nm_r (by rw [nI_clamp (by omega)]) (nm_r (nI_1 i) h)⟩
  have t443 : ∀ (sY : Nat → Int32), wY_tick_379 post x1 x2 pN pK tC (nI n) sT tM d (nI (i + 1)) (ti_fr i fR) pe dl os ga na aa co ov mx fl tx rs cs pr (upd rm m (cs m)) sY dY bY nY lY → wY_tick_443 post (wY_tick_379 post x1 x2 pN pK tC (nI n) sT tM d) x1 x2 (nI i) (nI y) (x2 - aa y) pN pK tC (nI n) sT tM fR pe dl os ga na aa co ov mx fl tx rs cs pr rm sY dY bY nY lY := by
    intro sY h
    unfold ti_fr at h
    by_cases z : nI i = fR
    · rw [if_pos z] at h
      exact br_t z (tl456 (-1) sY h)
    · rw [if_neg z] at h
      exact br_f z (tl456 fR sY h)
  refine br_f (nI_ge (by omega) (by omega)) ⟨ki, br_f (by rw [cl]; exact hd') ⟨ki, br_t (by rw [cl]; exact hr) ⟨ki, nm_r (by rw [cl, et]) ⟨k, nm_r (by rw [nI_clamp (by omega)]) ⟨ki, ?_⟩⟩⟩⟩⟩
  rw [cl]
  by_cases z : x2 - aa y ≤ sY i
  · rw [ti_gr1 z, bs_upd_self] at hp
    exact br_t z (t443 sY hp)
  · rw [ti_gr2 z] at hp
    exact br_f z ⟨ki, nm_r rfl (t443 _ hp)⟩
theorem ti_frok {i : Nat} (h : fR = -1 ∨ ∃ f, f < n ∧ fR = nI f ∧ rs f = 8) : ti_fr i fR = -1 ∨ ∃ f, f < n ∧ ti_fr i fR = nI f ∧ rs f = 8 := by
  unfold ti_fr
  by_cases e : nI i = fR
  · rw [if_pos e]; exact Or.inl rfl
  · rw [if_neg e]; exact h
theorem ti_sv {i : Nat} {v : Int32} (h : ∀ s, s < n → sY s = sX s) : ∀ s, s < n → upd sY i v s = upd sX i v s := fun s hs => by
  by_cases e : s = i
  · rw [e, pk_us, pk_us]
  · rw [pk_un e, pk_un e]; exact h s hs
theorem ti_cmp (hc : c ≤ 8) (hn : n ≤ 16) (hp4 : p ≤ 4) (ht : ∀ s, s < n → ∃ y, y < c ∧ tx s = nI y) (hr : ∀ s, s < n → rs s = 8 ∨ ∃ q, q < p ∧ rs s = nI q) (hnx : ∀ s, s < n → nx s = sn_F tx (tx s) (n - (s + 1)) (s + 1)) (hv : ti_V n rs dY lX) :
    ∀ (d i : Nat) (fR : Int32) (fl co mx rm sX sY : Nat → Int32), i + d = n → (∀ s, n ≤ s → rm s = 0) → (fR = -1 ∨ ∃ f, f < n ∧ fR = nI f ∧ rs f = 8) → (∀ s, s < n → sY s = sX s) →
    ∃ (fR' : Int32) (fl' co' mx' rm' sX' sY' : Nat → Int32), (∀ s, n ≤ s → rm' s = 0) ∧ (fR' = -1 ∨ ∃ f, f < n ∧ fR' = nI f ∧ rs f = 8) ∧ (∀ s, s < n → sY' s = sX' s) ∧
      (∀ post : SX → Prop, post (pN, pK, tC, nI n, sT, tM, fR', pe, dl, hd, tl, os, ga, tx, rs, cs, pr, pd, nx, bX, na, fl', aa, co', ov, mx', rm', sX', lX) → wX_takeCompletions_2 post (d + 1) (nI i) pN pK tC (nI n) sT tM fR pe dl hd tl os ga tx rs cs pr pd nx bX na fl aa co ov mx rm sX lX) ∧
      (∀ post : SY → Prop, post (pN, pK, tC, nI n, sT, tM + 1, fR', pe, dl, os, ga, na, aa, co', ov, mx', fl', tx, rs, cs, pr, rm', sY', dY, bY, nY, lY) → wY_tick_379 post tM (tM + 1) pN pK tC (nI n) sT tM (d + 1) (nI i) fR pe dl os ga na aa co ov mx fl tx rs cs pr rm sY dY bY nY lY) := by
  intro d
  induction d with
  | zero =>
    intro i fR fl co mx rm sX sY hi hz hf hsv
    have e : i = n := by omega
    subst e
    exact ⟨fR, fl, co, mx, rm, sX, sY, hz, hf, hsv, fun post h => br_t (nI_le (by omega) (by omega)) h, fun post h => br_t (nI_le (by omega) (by omega)) (nm_e h)⟩
  | succ d ih =>
    intro i fR fl co mx rm sX sY hi hz hf hsv
    have g : ¬ nI n ≤ nI i := nI_ge (by omega) (by omega)
    have k : vp_in (nI i) 16 := vp_in_nI (by omega) (by omega)
    have cl : (nI i).toNatClampNeg = i := nI_clamp (by omega)
    have k9 : vp_in (rs i) 9 := by
      rcases hr i (by omega) with e | ⟨q, hq, e⟩
      · rw [e]; exact vp_in_nI (n := 8) (by omega) (by omega)
      · rw [e]; exact vp_in_nI (by omega) (by omega)
    by_cases w : dY i = 0
    · have nw : ¬ lX (rs i).toNatClampNeg = nI i := fun z => (hv i (by omega)).mpr z w
      obtain ⟨fR', fl', co', mx', rm', sX', sY', h1, h2, h3, hX, hY⟩ := ih (i + 1) fR fl co mx rm sX sY (by omega) hz hf hsv
      exact ⟨fR', fl', co', mx', rm', sX', sY', h1, h2, h3, fun post h => br_f g ⟨k, by rw [cl]; exact ⟨k9, br_f nw (nm_r (nI_1 i) (hX post h))⟩⟩, fun post h => br_f g ⟨k, br_t (by rw [cl]; exact w) (nm_r (nI_1 i) (hY post h))⟩⟩
    · have yw : lX (rs i).toNatClampNeg = nI i := (hv i (by omega)).mp w
      by_cases z : rm i = 0
      · obtain ⟨y, hy, et⟩ := ht i (by omega)
        have en := hnx i (by omega)
        rcases sn_F_some tx (tx i) (n - (i + 1)) (i + 1) with ⟨a, _⟩ | ⟨m, _, hm, a, _, _⟩
        · obtain ⟨fR', fl', co', mx', rm', sX', sY', h1, h2, h3, hX, hY⟩ := ih (i + 1) (ti_fr i fR) (upd fl y 0) (upd co y (co y + 1)) (upd mx y (ti_gr (mx y) (tM + 1 - aa y))) rm (upd sX i (ti_gr (sX i) (tM + 1 - aa y))) (upd sY i (ti_gr (sX i) (tM + 1 - aa y))) (by omega) hz (ti_frok hf) (ti_sv hsv)
          refine ⟨fR', fl', co', mx', rm', sX', sY', h1, h2, h3, fun post h => br_f g ⟨k, by rw [cl]; exact ⟨k9, br_t yw ⟨k, br_t z (ti_xc (by omega) (by omega) et (ti_xc50t (by omega) (by omega) (by rw [en, a]) (nm_r (nI_1 i) (hX post h))))⟩⟩⟩, fun post h => ti_yt hn (by omega) (by omega) w z et a ?_⟩
          rw [hsv i (by omega)]
          exact hY post h
        · obtain ⟨fR', fl', co', mx', rm', sX', sY', h1, h2, h3, hX, hY⟩ := ih (i + 1) (ti_fr i fR) fl co mx (upd rm m (cs m)) (upd sX i (ti_gr (sX i) (tM + 1 - aa y))) (upd sY i (ti_gr (sX i) (tM + 1 - aa y))) (by omega) (ti_upz (by omega) hz) (ti_frok hf) (ti_sv hsv)
          refine ⟨fR', fl', co', mx', rm', sX', sY', h1, h2, h3, fun post h => br_f g ⟨k, by rw [cl]; exact ⟨k9, br_t yw ⟨k, br_t z (ti_xc (by omega) (by omega) et (ti_xc50n (by omega) (by omega) (by rw [en, a]) (nm_r (nI_1 i) (hX post h))))⟩⟩⟩, fun post h => ti_yn hn (by omega) (by omega) (by omega) w z et a ?_⟩
          rw [hsv i (by omega)]
          exact hY post h
      · obtain ⟨fR', fl', co', mx', rm', sX', sY', h1, h2, h3, hX, hY⟩ := ih (i + 1) fR fl co mx rm sX sY (by omega) hz hf hsv
        exact ⟨fR', fl', co', mx', rm', sX', sY', h1, h2, h3, fun post h => br_f g ⟨k, by rw [cl]; exact ⟨k9, br_t yw ⟨k, br_f z (nm_r (nI_1 i) (hX post h))⟩⟩⟩, fun post h => br_f g ⟨k, br_f (by rw [cl]; exact w) ⟨k, br_f (by rw [cl]; exact z) (nm_r (nI_1 i) (hY post h))⟩⟩⟩
/-! the tick -/
theorem ti_tick (hs : c ≤ 8 ∧ n ≤ kk ∧ kk ≤ 16 ∧ 1 ≤ p ∧ p ≤ 4) (hf : rl_Cf c n p pe dl tx rs cs) (hch : sn_Ch tx hd tl pd nx c n) (hcm : ∀ x, x < c → ¬ hd x = -1) (hsi : rl_Si n fR rs rm sX lX sY lY) :
    ∃ (fR' : Int32) (na' fl' aa' co' ov' mx' rm' sX' lX' sY' dY' lY' : Nat → Int32), rl_Si n fR' rs rm' sX' lX' sY' lY' ∧
      (∀ post : SX → Prop, post (nI p, pK, nI c, nI n, sT, tM + 1, fR', pe, dl, hd, tl, os, ga, tx, rs, cs, pr, pd, nx, bX, na', fl', aa', co', ov', mx', rm', sX', lX') → wpX_tick post (nI p, pK, nI c, nI n, sT, tM, fR, pe, dl, hd, tl, os, ga, tx, rs, cs, pr, pd, nx, bX, na, fl, aa, co, ov, mx, rm, sX, lX)) ∧
      (∀ post : SY → Prop, post (nI p, pK, nI c, nI n, sT, tM + 1, fR', pe, dl, os, ga, na', aa', co', ov', mx', fl', tx, rs, cs, pr, rm', sY', dY', bY, nY, lY') → wpY_tick post (nI p, pK, nI c, nI n, sT, tM, fR, pe, dl, os, ga, na, aa, co, ov, mx, fl, tx, rs, cs, pr, rm, sY, dY, bY, nY, lY)) := by
  obtain ⟨z1, z2, z3, z4, z5⟩ := hsi
  obtain ⟨f1, f2, f3, f4, f5⟩ := hf
  obtain ⟨c1, c2, c3, c4⟩ := hch
  obtain ⟨na', fl', aa', ov', rm1, hz1, aX, aY⟩ := ti_arr (pN := nI p) (pK := pK) (sT := sT) (tM := tM) (fR := fR) (pe := pe) (dl := dl) (tl := tl) (os := os) (ga := ga) (rs := rs) (cs := cs) (pr := pr) (pd := pd) (nx := nx) (bX := bX) (co := co) (mx := mx) (sX := sX) (lX := lX) (sY := sY) (dY := dY) (bY := bY) (nY := nY) (lY := lY) hs.1 (by omega) c1 hcm c 0 na fl aa ov rm (by omega) z1
  obtain ⟨rm2, dY2, lX2, lY2, hz2, hl2, hw2, eX, eY⟩ := ti_exe (p := p) (pK := pK) (tC := nI c) (sT := sT) (tM := tM) (fR := fR) (pe := pe) (dl := dl) (hd := hd) (tl := tl) (os := os) (ga := ga) (tx := tx) (rs := rs) (cs := cs) (pr := pr) (pd := pd) (nx := nx) (bX := bX) (na := na') (fl := fl') (aa := aa') (co := co) (ov := ov') (mx := mx) (sX := sX) (sY := sY) (bY := bY) (nY := nY) hs.2.2.2.2 (by omega : n ≤ 16) p 0 rm1 (bs_mz dY (fun _ => 0) 16) lX lY (by omega) hz1 z4 (fun s hs' => by
    rw [bs_mz_lt (by omega)]
    exact ⟨fun h => absurd rfl h, fun ⟨q, hq, _⟩ => by omega⟩)
  obtain ⟨fR3, rm3, dY3, lX3, lY3, hz3, hf3, hl3, hv3, bX', bY'⟩ := ti_bus (p := p) (pK := pK) (tC := nI c) (sT := sT) (tM := tM) (pe := pe) (dl := dl) (hd := hd) (tl := tl) (os := os) (ga := ga) (tx := tx) (cs := cs) (pr := pr) (pd := pd) (nx := nx) (bX := bX) (na := na') (fl := fl') (aa := aa') (co := co) (ov := ov') (mx := mx) (sX := sX) (sY := sY) (bY := bY) (nY := nY) hs.2.2.2.2 (by omega : n ≤ 16) f2 hz2 hl2 hw2 z2
  obtain ⟨fR4, fl4, co4, mx4, rm4, sX4, sY4, hz4, hf4, hs4, cX, cY⟩ := ti_cmp (p := p) (pN := nI p) (pK := pK) (tC := nI c) (sT := sT) (tM := tM) (pe := pe) (dl := dl) (hd := hd) (tl := tl) (os := os) (ga := ga) (cs := cs) (pr := pr) (pd := pd) (bX := bX) (na := na') (aa := aa') (ov := ov') (bY := bY) (nY := nY) (lY := lY3) hs.1 (by omega : n ≤ 16) hs.2.2.2.2 f1 f2 c4 hv3 n 0 fR3 fl' co mx rm3 sX sY (by omega) hz3 hf3 z3
  refine ⟨fR4, na', fl4, aa', co4, ov', mx4, rm4, sX4, lX3, sY4, dY3, lY3, ⟨hz4, hf4, hs4, hl3.1, hl3.2⟩, fun post h => ?_, fun post h => ?_⟩
  · unfold wpX_tick
    refine ⟨c + 1, aX _ (br_t (nI_le (by omega) (by omega)) ?_)⟩
    refine ⟨p + 1, eX _ (bX' _ ?_)⟩
    exact ⟨n + 1, cX _ (nm_e h)⟩
  · unfold wpY_tick
    refine ⟨c + 1, aY _ (br_t (nI_le (by omega) (by omega)) ?_)⟩
    refine ⟨17, ?_⟩
    have y := ti_y117 (post := post) (pN := nI p) (pK := pK) (tC := nI c) (sC := nI n) (sT := sT) (tM := tM) (fR := fR) (x1 := tM) (dY := dY) (pe := pe) (dl := dl) (os := os) (ga := ga) (na := na') (aa := aa') (co := co) (ov := ov') (mx := mx) (fl := fl') (tx := tx) (rs := rs) (cs := cs) (pr := pr) (rm := rm1) (sY := sY) (bY := bY) (nY := nY) (lY := lY) 16 0 rfl ⟨p + 1, eY post tM (bY' post tM ⟨n + 1, cY post h⟩)⟩
    rw [bs_mz0] at y
    exact y
end
