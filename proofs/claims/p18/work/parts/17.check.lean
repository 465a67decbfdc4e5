/-! the law's check passes -/
section
variable {pN pK sT tM fR tC sC : Int32} {c n p kk : Nat} {pe dl hd tl os ga tx rs cs pr pd nx bX na fl aa co ov mx rm sX lX : Nat → Int32} {L : Nat} {xs : Nat → Int32} {R : Nat → Nat}
theorem ck_112 {post : Int32 → Prop} (hL : L ≤ 260) (h : pv_C c n p pe dl hd tl tx rs cs pr pd nx) (hz : sl_Z L xs c n pe dl tx rs cs pr) (hns : sl_ns L xs = n) (hb : ∀ s, s < n → bX s = nI (R s)) (hG : pv_G n pe dl tx rs cs pr pd R) (hp : post 1) : ∀ d i, i + d = n → wL_check_112 post L xs (nI n) pN pK tC (nI n) 1 tM fR pe dl hd tl os ga tx rs cs pr pd nx bX na fl aa co ov mx rm sX lX (d + 1) (nI i) := by
  have hn := h.1.2.2.1
  intro d
  induction d with
  | zero =>
    intro i hi
    exact br_t (nI_le (by omega) (by omega)) hp
  | succ d ih =>
    intro i hi
    refine br_f (nI_ge (by omega) (by omega)) (sl_sb hn hb (by omega) (sl_raw hL h hz hns hb hG (by omega) ?_))
    have hR := hG.1 i (by omega)
    exact br_t (nI_l (by omega)) (nm_r (nI_1 i) (ih (i + 1) (by omega)))
theorem ck_R (h : pv_C c n p pe dl hd tl tx rs cs pr pd nx) (hG : pv_G n pe dl tx rs cs pr pd R) {s : Nat} (hs : s < n) : 1 ≤ R s ∧ R s ≤ an_T dl tx s := by
  have hc := pv_cs h hs
  have hR := hG.1 s hs
  rcases hG.2 s hs with ⟨_, q⟩ | ⟨_, ⟨w, ew, _, hw, er⟩ | ⟨_, q⟩⟩
  · omega
  · refine ⟨?_, by omega⟩
    have hb : 1 ≤ fx_base n rs pr (an_C cs) s := by
      unfold fx_base
      split
      · exact Nat.le_trans hc.2.1 (tq_bl_self (an_C cs) n)
      · exact hc.2.1
    have : 1 ≤ w := by
      rw [← ew]
      unfold fx_f
      omega
    omega
  · omega
theorem ck_66 {post : Int32 → Prop} (hL : L ≤ 260) (h : pv_C c n p pe dl hd tl tx rs cs pr pd nx) (hz : sl_Z L xs c n pe dl tx rs cs pr) (hns : sl_ns L xs = n) (hb : ∀ s, s < n → bX s = nI (R s)) (hG : pv_G n pe dl tx rs cs pr pd R) (hp : post 1) : ∀ d i, i + d = n → wL_check_66 post L xs (nI n) pN pK tC (nI n) 1 tM fR pe dl hd tl os ga tx rs cs pr pd nx bX na fl aa co ov mx rm sX lX (d + 1) (nI i) := by
  have hn := h.1.2.2.1
  intro d
  induction d with
  | zero =>
    intro i hi
    exact br_t (nI_le (by omega) (by omega)) ⟨n + 1, ck_112 hL h hz hns hb hG hp n 0 (by omega)⟩
  | succ d ih =>
    intro i hi
    obtain ⟨z1, _, _, _⟩ := hz.2 i (by omega)
    obtain ⟨r1, r2⟩ := ck_R h hG (by omega : i < n)
    have hR := hG.1 i (by omega)
    have b2 := sl_tx_b (L := L) (xs := xs) (i := i)
    have b3 := sl_nt_b (L := L) (xs := xs)
    have b4 := sl_pe_b (L := L) (xs := xs) (x := sl_tx L xs i)
    have b5 := sl_dl_b (L := L) (xs := xs) (x := sl_tx L xs i)
    have ed : an_T dl tx i = sl_dl L xs (sl_tx L xs i) := by
      have hx := (pv_x h (by omega : i < n)).2
      have ex : an_C tx i = sl_tx L xs i := by unfold an_C; rw [z1, nI_clamp (by omega)]
      have e2 : (tx i).toNatClampNeg = sl_tx L xs i := ex
      unfold an_T
      rw [e2, (hz.1 _ (by rw [← ex]; exact hx)).2, nI_clamp (by omega)]
    refine br_f (nI_ge (by omega) (by omega)) (sl_sb hn hb (by omega) (br_f (nI_nlt (a := R i) (b := 1) r1 (by omega)) (sl_txw hL (by omega) (sl_dlw hL (by omega) ?_))))
    exact br_t (nI_le (by omega) (by omega)) (nm_r (nI_1 i) (ih (i + 1) (by omega)))
theorem ck_tl (h : pv_C c n p pe dl hd tl tx rs cs pr pd nx) {x : Nat} (hx : x < c) : tl x = nI (an_C tl x) ∧ an_C tl x < n := by
  have hn := h.1.2.2.1
  have hh := h.2.2.2.2.2.2.1 x hx
  obtain ⟨c1, c2, _, _⟩ := h.2.2.2.2.2.1
  rcases sn_L_some tx (nI x) n with ⟨_, b⟩ | ⟨l, hl, a, b, d⟩
  · exfalso
    rcases sn_F_some tx (nI x) n 0 with ⟨a, _⟩ | ⟨m, _, hm, _, e, _⟩
    · exact hh (by rw [c1 x hx, a])
    · exact b m (by omega) e
  · have e : tl x = nI l := by rw [c2 x hx, a]
    unfold an_C
    rw [e, nI_clamp (by omega)]
    exact ⟨rfl, hl⟩
theorem ck_23 {post : Int32 → Prop} (hL : L ≤ 260) (h : pv_C c n p pe dl hd tl tx rs cs pr pd nx) (hz : sl_Z L xs c n pe dl tx rs cs pr) (hns : sl_ns L xs = n) (hb : ∀ s, s < n → bX s = nI (R s)) (hG : pv_G n pe dl tx rs cs pr pd R) (hS : pv_S c n pe dl tl tx rs cs pr pd ov mx) (hp : post 1) : ∀ d i, i + d = c → wL_check_23 post L xs (nI c) (nI n) pN pK (nI c) (nI n) 1 tM fR pe dl hd tl os ga tx rs cs pr pd nx bX na fl aa co ov mx rm sX lX (d + 1) (nI i) := by
  have hcc := h.1
  intro d
  induction d with
  | zero =>
    intro i hi
    exact br_t (nI_le (by omega) (by omega)) ⟨n + 1, ck_66 hL h hz hns hb hG hp n 0 (by omega)⟩
  | succ d ih =>
    intro i hi
    have k8 : vp_in (nI i) 8 := vp_in_nI (by omega) (by omega)
    have cl : (nI i).toNatClampNeg = i := nI_clamp (by omega)
    obtain ⟨s1, s2⟩ := hS R hG i (by omega)
    obtain ⟨t1, t2⟩ := ck_tl h (by omega : i < c)
    have hR := hG.1 _ t2
    have tb : ∀ post : Int32 → Prop, post (nI (R (an_C tl i))) → wpX_transactionBound post (pN, pK, nI c, nI n, 1, tM, fR, pe, dl, hd, tl, os, ga, tx, rs, cs, pr, pd, nx, bX, na, fl, aa, co, ov, mx, rm, sX, lX) (nI i) := by
      intro post hq
      unfold wpX_transactionBound
      refine sm_t1 (by omega) (by omega) (br_f sm_1 (br_f sm_1 ⟨k8, ?_⟩))
      rw [cl, t1, nI_clamp (by omega), hb _ t2]
      exact ⟨vp_in_nI (by omega) (by omega), hq⟩
    have om : ∀ post : Int32 → Prop, post (mx i) → wpX_observedMax post (pN, pK, nI c, nI n, 1, tM, fR, pe, dl, hd, tl, os, ga, tx, rs, cs, pr, pd, nx, bX, na, fl, aa, co, ov, mx, rm, sX, lX) (nI i) := by
      intro post hq
      unfold wpX_observedMax
      refine sm_t1 (by omega) (by omega) (br_f sm_1 ⟨k8, ?_⟩)
      rw [cl]; exact hq
    have oc : ∀ post : Int32 → Prop, post 0 → wpX_overrunCount post (pN, pK, nI c, nI n, 1, tM, fR, pe, dl, hd, tl, os, ga, tx, rs, cs, pr, pd, nx, bX, na, fl, aa, co, ov, mx, rm, sX, lX) (nI i) := by
      intro post hq
      unfold wpX_overrunCount
      refine sm_t1 (by omega) (by omega) (br_f sm_1 ⟨k8, ?_⟩)
      rw [cl, s1]; exact hq
    refine br_f (nI_ge (by omega) (by omega)) (oc _ (br_t rfl (om _ (tb _ (br_t ?_ (nm_r (nI_1 i) (ih (i + 1) (by omega))))))))
    rcases s2 with q | ⟨k, q, q2, q3⟩
    · rw [q]
      exact Int32.le_trans (by decide : (-1 : Int32) ≤ 0) (nI_pos' (by omega))
    · rw [q]
      exact nI_le q2 (by omega)
theorem ck_all {post : Int32 → Prop} (hL : L ≤ 260) (h : pv_C c n p pe dl hd tl tx rs cs pr pd nx) (hz : sl_Z L xs c n pe dl tx rs cs pr) (hnt : sl_nt L xs = c) (hns : sl_ns L xs = n) (hA : pv_A n sT pe dl tx rs cs pr pd bX) (hS : pv_S c n pe dl tl tx rs cs pr pd ov mx) (hp : post 1) : wpL_check post L xs (pN, pK, nI c, nI n, sT, tM, fR, pe, dl, hd, tl, os, ga, tx, rs, cs, pr, pd, nx, bX, na, fl, aa, co, ov, mx, rm, sX, lX) := by
  unfold wpL_check
  show wpX_analysisState _ _
  by_cases e : sT = 1
  · subst e
    obtain ⟨R, hG, hb⟩ := hA rfl
    refine br_t rfl (sl_ntw hL (sl_nsw hL ?_))
    rw [hnt, hns]
    exact ⟨c + 1, ck_23 hL h hz hns hb hG hS hp c 0 (by omega)⟩
  · exact br_f e hp
end
