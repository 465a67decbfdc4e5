/-! one tick, both sides in lockstep -/
theorem sn_mu_t {rs pr rm : Nat → Int32} {r : Int32} {k : Nat} (h : (rs k = r ∧ 0 < rm k) ∧ (sn_mu rs pr rm r k = -1 ∨ pr (sn_mu rs pr rm r k).toNatClampNeg < pr k)) : sn_mu rs pr rm r (k + 1) = nI k := if_pos h
theorem sn_mu_n {rs pr rm : Nat → Int32} {r : Int32} {k : Nat} (h : ¬ ((rs k = r ∧ 0 < rm k) ∧ (sn_mu rs pr rm r k = -1 ∨ pr (sn_mu rs pr rm r k).toNatClampNeg < pr k))) : sn_mu rs pr rm r (k + 1) = sn_mu rs pr rm r k := if_neg h
def ti_gr (a b : Int32) : Int32 := if a ≤ b then b else a
theorem ti_gr1 {a b : Int32} (h : b ≤ a) : ti_gr a b = a := by
  unfold ti_gr
  by_cases e : a ≤ b
  · rw [if_pos e]; exact Int32.le_antisymm h e
  · rw [if_neg e]
theorem ti_gr2 {a b : Int32} (h : ¬ b ≤ a) : ti_gr a b = b := by
  unfold ti_gr
  rw [if_pos (Int32.le_of_lt (Int32.not_le.mp h))]
section
variable {pN pK sT tM fR tC sC : Int32} {c n p kk : Nat} {pe dl hd tl os ga tx rs cs pr pd nx bX na fl aa co ov mx rm sX lX sY dY bY nY lY : Nat → Int32}
theorem ti_gx {post : Int32 → Prop} {a b : Int32} (hp : post (ti_gr a b)) : wpX_greater post a b := by
  unfold ti_gr at hp
  by_cases e : a ≤ b
  · rw [if_pos e] at hp; exact br_t e hp
  · rw [if_neg e] at hp; exact br_f e hp
/-! the most urgent pending step -/
theorem ti_xm4 {post : Int32 → Prop} {r : Int32} (hn : n ≤ 16) : ∀ d i, i + d = n → post (sn_mu rs pr rm r n) → wX_mostUrgentPending_4 post r pN pK tC (nI n) sT tM fR pe dl hd tl os ga tx rs cs pr pd nx bX na fl aa co ov mx rm sX lX (d + 1) (sn_mu rs pr rm r i) (nI i) := by
  intro d
  induction d with
  | zero =>
    intro i hi hp
    have e : i = n := by omega
    subst e
    exact br_t (nI_le (by omega) (by omega)) hp
  | succ d ih =>
    intro i hi hp
    have z := ih (i + 1) (by omega) hp
    have hin : vp_in (nI i) 16 := vp_in_nI (by omega) (by omega)
    refine br_f (nI_ge (by omega) (by omega)) ⟨hin, ?_⟩
    rw [nI_clamp (by omega)]
    by_cases e1 : rs i = r
    · refine br_t e1 ⟨hin, ?_⟩
      by_cases e2 : rm i ≤ 0
      · rw [sn_mu_n (fun w => Int32.not_lt.mpr e2 w.1.2)] at z
        exact br_t e2 (br_t rfl (nm_r (nI_1 i) z))
      · have e2' : 0 < rm i := Int32.not_le.mp e2
        refine br_f e2 (br_f sm_1 ?_)
        rcases sn_mu_some rs pr rm r i with b | ⟨j, hj, b, _⟩
        · rw [sn_mu_t ⟨⟨e1, e2'⟩, Or.inl b⟩] at z
          exact br_t b (nm_r (nI_1 i) z)
        · have nb : ¬ sn_mu rs pr rm r i = -1 := by rw [b]; exact bs_ne (by omega)
          refine br_f nb ⟨hin, by rw [b]; exact vp_in_nI (by omega) (by omega), ?_⟩
          rw [nI_clamp (by omega)]
          by_cases e3 : pr i ≤ pr (sn_mu rs pr rm r i).toNatClampNeg
          · rw [sn_mu_n (fun w => by
              rcases w.2 with w | w
              · exact nb w
              · exact Int32.not_lt.mpr e3 w)] at z
            exact br_t e3 (nm_r (nI_1 i) z)
          · rw [sn_mu_t ⟨⟨e1, e2'⟩, Or.inr (Int32.not_le.mp e3)⟩] at z
            exact br_f e3 (nm_r (nI_1 i) z)
    · rw [sn_mu_n (fun w => e1 w.1.1)] at z
      exact br_f e1 (br_t rfl (nm_r (nI_1 i) z))
theorem ti_xm {post : Int32 → Prop} {r : Int32} (hn : n ≤ 16) (hp : post (sn_mu rs pr rm r n)) : wpX_mostUrgentPending post (pN, pK, tC, nI n, sT, tM, fR, pe, dl, hd, tl, os, ga, tx, rs, cs, pr, pd, nx, bX, na, fl, aa, co, ov, mx, rm, sX, lX) r := ⟨n + 1, ti_xm4 hn n 0 (by omega) hp⟩
theorem ti_y151 {post : SY → Prop} {J : Int32 → (Nat → Int32) → (Nat → Int32) → (Nat → Int32) → (Nat → Int32) → (Nat → Int32) → (Nat → Int32) → (Nat → Int32) → (Nat → Int32) → (Nat → Int32) → (Nat → Int32) → (Nat → Int32) → (Nat → Int32) → (Nat → Int32) → (Nat → Int32) → (Nat → Int32) → (Nat → Int32) → (Nat → Int32) → (Nat → Int32) → (Nat → Int32) → (Nat → Int32) → Prop} {x1 r : Int32} (hn : n ≤ 16) : ∀ d i, i + d = n → wY_tick_151 post J x1 r pN pK tC (nI n) sT tM fR pe dl os ga na aa co ov mx fl tx rs cs pr rm sY dY bY nY lY 1 (sn_mu rs pr rm r n) (nI n) → wY_tick_151 post J x1 r pN pK tC (nI n) sT tM fR pe dl os ga na aa co ov mx fl tx rs cs pr rm sY dY bY nY lY (d + 1) (sn_mu rs pr rm r i) (nI i) := by
  intro d
  induction d with
  | zero =>
    intro i hi hp
    have e : i = n := by omega
    subst e
    exact hp
  | succ d ih =>
    intro i hi hp
    have z := ih (i + 1) (by omega) hp
    have hin : vp_in (nI i) 16 := vp_in_nI (by omega) (by omega)
    refine br_f (nI_ge (by omega) (by omega)) ⟨hin, ?_⟩
    rw [nI_clamp (by omega)]
    by_cases e1 : rs i = r
    · refine br_t e1 ⟨hin, ?_⟩
      by_cases e2 : rm i ≤ 0
      · rw [sn_mu_n (fun w => Int32.not_lt.mpr e2 w.1.2)] at z
        exact br_t e2 (nm_r (nI_1 i) z)
      · have e2' : 0 < rm i := Int32.not_le.mp e2
        refine br_f e2 ?_
        rcases sn_mu_some rs pr rm r i with b | ⟨j, hj, b, _⟩
        · rw [sn_mu_t ⟨⟨e1, e2'⟩, Or.inl b⟩] at z
          exact br_t b (nm_r (nI_1 i) z)
        · have nb : ¬ sn_mu rs pr rm r i = -1 := by rw [b]; exact bs_ne (by omega)
          refine br_f nb ⟨hin, by rw [b]; exact vp_in_nI (by omega) (by omega), ?_⟩
          by_cases e3 : pr i ≤ pr (sn_mu rs pr rm r i).toNatClampNeg
          · rw [sn_mu_n (fun w => by
              rcases w.2 with w | w
              · exact nb w
              · exact Int32.not_lt.mpr e3 w)] at z
            exact br_t e3 (nm_r (nI_1 i) z)
          · rw [sn_mu_t ⟨⟨e1, e2'⟩, Or.inr (Int32.not_le.mp e3)⟩] at z
            exact br_f e3 (nm_r (nI_1 i) z)
    · rw [sn_mu_n (fun w => e1 w.1.1)] at z
      exact br_f e1 (nm_r (nI_1 i) z)
theorem ti_y260 {post : SY → Prop} {x1 : Int32} (hn : n ≤ 16) : ∀ d i, i + d = n → wY_tick_260 post x1 pN pK tC (nI n) sT tM pe dl os ga na aa co ov mx fl tx rs cs pr rm sY dY bY nY lY 1 (nI n) (sn_mu rs pr rm 8 n) → wY_tick_260 post x1 pN pK tC (nI n) sT tM pe dl os ga na aa co ov mx fl tx rs cs pr rm sY dY bY nY lY (d + 1) (nI i) (sn_mu rs pr rm 8 i) := by
  intro d
  induction d with
  | zero =>
    intro i hi hp
    have e : i = n := by omega
    subst e
    exact hp
  | succ d ih =>
    intro i hi hp
    have z := ih (i + 1) (by omega) hp
    have hin : vp_in (nI i) 16 := vp_in_nI (by omega) (by omega)
    refine br_f (nI_ge (by omega) (by omega)) ⟨hin, ?_⟩
    rw [nI_clamp (by omega)]
    by_cases e1 : rs i = 8
    · refine br_t e1 ⟨hin, ?_⟩
      by_cases e2 : rm i ≤ 0
      · rw [sn_mu_n (fun w => Int32.not_lt.mpr e2 w.1.2)] at z
        exact br_t e2 (nm_r (nI_1 i) z)
      · have e2' : 0 < rm i := Int32.not_le.mp e2
        refine br_f e2 ?_
        rcases sn_mu_some rs pr rm 8 i with b | ⟨j, hj, b, _⟩
        · rw [sn_mu_t ⟨⟨e1, e2'⟩, Or.inl b⟩] at z
          exact br_t b (nm_r (nI_1 i) z)
        · have nb : ¬ sn_mu rs pr rm 8 i = -1 := by rw [b]; exact bs_ne (by omega)
          refine br_f nb ⟨hin, by rw [b]; exact vp_in_nI (by omega) (by omega), ?_⟩
          by_cases e3 : pr i ≤ pr (sn_mu rs pr rm 8 i).toNatClampNeg
          · rw [sn_mu_n (fun w => by
              rcases w.2 with w | w
              · exact nb w
              · exact Int32.not_lt.mpr e3 w)] at z
            exact br_t e3 (nm_r (nI_1 i) z)
          · rw [sn_mu_t ⟨⟨e1, e2'⟩, Or.inr (Int32.not_le.mp e3)⟩] at z
            exact br_f e3 (nm_r (nI_1 i) z)
    · rw [sn_mu_n (fun w => e1 w.1.1)] at z
      exact br_f e1 (nm_r (nI_1 i) z)
/-! arrivals -/
theorem ti_upz {f : Nat → Int32} {m : Nat} {v : Int32} (hm : m < n) (hz : ∀ s, n ≤ s → f s = 0) : ∀ s, n ≤ s → upd f m v s = 0 := fun s hs => by rw [pk_un (by omega)]; exact hz s hs
theorem ti_bt {f : Nat → Int32} {i : Nat} (h : i < 2 ^ 31) : upd f (nI i).toNatClampNeg (vp_nar .boolean 1) = upd f i 1 := by rw [nI_clamp h, bs_b1]
theorem ti_bf {f : Nat → Int32} {i : Nat} (h : i < 2 ^ 31) : upd f (nI i).toNatClampNeg (vp_nar .boolean 0) = upd f i 0 := by rw [nI_clamp h, bs_b0]
theorem ti_xa1 {post : SX → Prop} {i m : Nat} (hi : i < 8) (hm : m < 16) (f : fl i = 0) (em : hd i = nI m) (hp : post (pN, pK, tC, sC, sT, tM, fR, pe, dl, hd, tl, os, ga, tx, rs, cs, pr, pd, nx, bX, upd na i (tM + pe i + ga i), upd fl i 1, upd aa i tM, co, ov, mx, upd rm m (cs m), sX, lX)) : wpX_arrive post (pN, pK, tC, sC, sT, tM, fR, pe, dl, hd, tl, os, ga, tx, rs, cs, pr, pd, nx, bX, na, fl, aa, co, ov, mx, rm, sX, lX) (nI i) := by
  have k : vp_in (nI i) 8 := vp_in_nI (by omega) (by omega)
  have km : vp_in (nI m) 16 := vp_in_nI (by omega) (by omega)
  refine ⟨k, br_t (by rw [nI_clamp (by omega)]; exact f) ⟨k, nm_r (ti_bt (by omega)) ⟨k, nm_r (cf_up (by omega)) ⟨k, ?_⟩⟩⟩⟩
  rw [nI_clamp (by omega), em]
  exact ⟨km, km, nm_r (by rw [nI_clamp (by omega)]) ⟨k, k, k, nm_r (by rw [nI_clamp (by omega)]) hp⟩⟩
theorem ti_xa2 {post : SX → Prop} {i : Nat} (hi : i < 8) (f : ¬ fl i = 0) (hp : post (pN, pK, tC, sC, sT, tM, fR, pe, dl, hd, tl, os, ga, tx, rs, cs, pr, pd, nx, bX, upd na i (tM + pe i + ga i), fl, aa, co, upd ov i (ov i + 1), mx, rm, sX, lX)) : wpX_arrive post (pN, pK, tC, sC, sT, tM, fR, pe, dl, hd, tl, os, ga, tx, rs, cs, pr, pd, nx, bX, na, fl, aa, co, ov, mx, rm, sX, lX) (nI i) := by
  have k : vp_in (nI i) 8 := vp_in_nI (by omega) (by omega)
  exact ⟨k, br_f (by rw [nI_clamp (by omega)]; exact f) ⟨k, k, nm_r (by rw [nI_clamp (by omega)]) ⟨k, k, k, nm_r (by rw [nI_clamp (by omega)]) hp⟩⟩⟩
theorem ti_arr (hc : c ≤ 8) (hn : n ≤ 16) (hh : ∀ x, x < c → hd x = sn_F tx (nI x) n 0) (hcm : ∀ x, x < c → ¬ hd x = -1) : ∀ (d i : Nat) (na fl aa ov rm : Nat → Int32), i + d = c → (∀ s, n ≤ s → rm s = 0) →
    ∃ na' fl' aa' ov' rm' : Nat → Int32, (∀ s, n ≤ s → rm' s = 0) ∧
      (∀ post : SX → Prop, wX_takeArrivals_2 post 1 (nI c) pN pK (nI c) (nI n) sT tM fR pe dl hd tl os ga tx rs cs pr pd nx bX na' fl' aa' co ov' mx rm' sX lX → wX_takeArrivals_2 post (d + 1) (nI i) pN pK (nI c) (nI n) sT tM fR pe dl hd tl os ga tx rs cs pr pd nx bX na fl aa co ov mx rm sX lX) ∧
      (∀ post : SY → Prop, wY_tick_7 post tM pN pK (nI c) (nI n) sT tM fR 1 (nI c) pe dl os ga na' aa' co ov' mx fl' tx rs cs pr rm' sY dY bY nY lY → wY_tick_7 post tM pN pK (nI c) (nI n) sT tM fR (d + 1) (nI i) pe dl os ga na aa co ov mx fl tx rs cs pr rm sY dY bY nY lY) := by
  intro d
  induction d with
  | zero =>
    intro i na fl aa ov rm hi hz
    have e : i = c := by omega
    subst e
    exact ⟨na, fl, aa, ov, rm, hz, fun post h => h, fun post h => h⟩
  | succ d ih =>
    intro i na fl aa ov rm hi hz
    have k : vp_in (nI i) 8 := vp_in_nI (by omega) (by omega)
    have g : ¬ nI c ≤ nI i := nI_ge (by omega) (by omega)
    have cl : (nI i).toNatClampNeg = i := nI_clamp (by omega)
    by_cases e : na i = tM
    · by_cases f : fl i = 0
      · obtain ⟨m, hm, em⟩ : ∃ m, m < n ∧ hd i = nI m := by
          rcases sn_F_some tx (nI i) n 0 with ⟨a, _⟩ | ⟨m, _, hm, a, _, _⟩
          · exact absurd (by rw [hh i (by omega), a]) (hcm i (by omega))
          · exact ⟨m, by omega, by rw [hh i (by omega), a]⟩
        have km : vp_in (nI m) 16 := vp_in_nI (by omega) (by omega)
        obtain ⟨na', fl', aa', ov', rm', hz', hX, hY⟩ := ih (i + 1) (upd na i (tM + pe i + ga i)) (upd fl i 1) (upd aa i tM) ov (upd rm m (cs m)) (by omega) (ti_upz hm hz)
        refine ⟨na', fl', aa', ov', rm', hz', fun post h => br_f g ⟨k, br_t (by rw [cl]; exact e) ?_⟩, fun post h => br_f g ⟨k, br_t (by rw [cl]; exact e) ⟨k, br_t (by rw [cl]; exact f) ⟨k, nm_r (ti_bt (by omega)) ⟨k, nm_r (cf_up (by omega)) ?_⟩⟩⟩⟩⟩
        · exact ti_xa1 (by omega) (by omega) f em (nm_r (nI_1 i) (hX post h))
        · refine sm_yh hn ?_
          rw [← hh i (by omega), em]
          exact br_f (bs_ne (by omega)) ⟨km, km, nm_r (by rw [nI_clamp (by omega)]) ⟨k, k, k, nm_r (by rw [cl]) (nm_r (nI_1 i) (hY post h))⟩⟩
      · obtain ⟨na', fl', aa', ov', rm', hz', hX, hY⟩ := ih (i + 1) (upd na i (tM + pe i + ga i)) fl aa (upd ov i (ov i + 1)) rm (by omega) hz
        refine ⟨na', fl', aa', ov', rm', hz', fun post h => br_f g ⟨k, br_t (by rw [cl]; exact e) ?_⟩, fun post h => br_f g ⟨k, br_t (by rw [cl]; exact e) ⟨k, br_f (by rw [cl]; exact f) ⟨k, k, nm_r (by rw [cl]) ⟨k, k, k, nm_r (by rw [cl]) (nm_r (nI_1 i) (hY post h))⟩⟩⟩⟩⟩
        exact ti_xa2 (by omega) f (nm_r (nI_1 i) (hX post h))
    · obtain ⟨na', fl', aa', ov', rm', hz', hX, hY⟩ := ih (i + 1) na fl aa ov rm (by omega) hz
      exact ⟨na', fl', aa', ov', rm', hz', fun post h => br_f g ⟨k, br_f (by rw [cl]; exact e) (nm_r (nI_1 i) (hX post h))⟩, fun post h => br_f g ⟨k, br_f (by rw [cl]; exact e) (nm_r (nI_1 i) (hY post h))⟩⟩
end
