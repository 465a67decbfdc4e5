/-! the component's calls keep the law's invariant -/
def pv_A (n : Nat) (sT : Int32) (pe dl tx rs cs pr pd bX : Nat → Int32) : Prop := sT = 1 → ∃ R, pv_G n pe dl tx rs cs pr pd R ∧ ∀ s, s < n → bX s = nI (R s)
section
variable {pN pK sT tM fR tC sC : Int32} {c n p kk : Nat} {pe dl hd tl os ga tx rs cs pr pd nx bX na fl aa co ov mx rm sX lX : Nat → Int32}
theorem pv_ana {post : Int32 → St2 → Prop} (h : pv_C c n p pe dl hd tl tx rs cs pr pd nx) (hp : ∀ (r sT' : Int32) (bX' : Nat → Int32), pv_A n sT' pe dl tx rs cs pr pd bX' → post r (nI p, pK, nI c, nI n, sT', tM, fR, pe, dl, hd, tl, os, ga, tx, rs, cs, pr, pd, nx, bX', na, fl, aa, co, ov, mx, rm, sX, lX)) : wpX_analyse post (nI p, pK, nI c, nI n, sT, tM, fR, pe, dl, hd, tl, os, ga, tx, rs, cs, pr, pd, nx, bX, na, fl, aa, co, ov, mx, rm, sX, lX) := by
  unfold wpX_analyse
  refine sm_xc h.1.2.1 (fun h0 hcm => br_f sm_1 (an_xana (pv_H h) (fun R b hI hF hb => ⟨fun z => hp _ _ _ (fun _ => ⟨R, ⟨fun s hs => ?_, hF⟩, fun s hs => ?_⟩), fun z => hp _ _ _ (fun w => absurd w (by decide))⟩))) (fun z => absurd ⟨h.1.1, h.2.2.2.2.2.2.1⟩ z)
  · have a := hI.1 s hs
    have b := z s hs
    omega
  · have a := hI.1 s hs
    have b' := z s hs
    rw [hb s hs]
    exact an_fin (by omega)
theorem pv_runc {post : Int32 → St2 → Prop} (h : pv_C c n p pe dl hd tl tx rs cs pr pd nx) (hI : pv_I c n tM fR pe dl tl os ga tx rs cs pr pd nx na fl aa ov mx rm) (v : Int32)
    (hp : ∀ (r tM' fR' : Int32) (na' fl' aa' co' ov' mx' rm' sX' lX' : Nat → Int32), pv_I c n tM' fR' pe dl tl os ga tx rs cs pr pd nx na' fl' aa' ov' mx' rm' → post r (nI p, pK, nI c, nI n, sT, tM', fR', pe, dl, hd, tl, os, ga, tx, rs, cs, pr, pd, nx, bX, na', fl', aa', co', ov', mx', rm', sX', lX')) :
    wpX_run post (nI p, pK, nI c, nI n, sT, tM, fR, pe, dl, hd, tl, os, ga, tx, rs, cs, pr, pd, nx, bX, na, fl, aa, co, ov, mx, rm, sX, lX) v := by
  obtain ⟨_, _, _, ⟨H, hT⟩, _⟩ := id hI
  obtain ⟨_, _, _, _, _, _, hH, eM, _⟩ := id hT
  subst eM
  unfold wpX_run
  refine sm_xc h.1.2.1 (fun h0 hcm => br_f sm_1 ?_) (fun z => absurd ⟨h.1.1, h.2.2.2.2.2.2.1⟩ z)
  have go : ∀ w, w ≤ 1000 → ∃ m, wX_run_21 post (nI w) m 0 (nI p) pK (nI c) (nI n) sT (nI H) fR pe dl hd tl os ga tx rs cs pr pd nx bX na fl aa co ov mx rm sX lX := fun w hw => ⟨w + 1, pv_run h hw hp w 0 H fR na fl aa co ov mx rm sX lX (by omega) hH hI hT⟩
  rcases sm_in3 v 0 1000 (by omega) (by omega) with z | ⟨z, z'⟩ | ⟨a, h1, h4, rfl⟩
  · exact br_f (sm_nle z) (go 0 (by omega))
  · exact br_t (Int32.not_lt.mp z) (br_f (sm_nle z') (go 1000 (by omega)))
  · exact br_t (nI_pos' (by omega)) (br_t (nI_le (a := a) (b := 1000) h4 (by omega)) (go a h4))
theorem pv_upd {f : Nat → Int32} {j a : Nat} (ha : a ≤ 200) (h : ∀ x, x < c → f x = nI (an_C f x) ∧ an_C f x ≤ 200) : ∀ x, x < c → upd f j (nI a) x = nI (an_C (upd f j (nI a)) x) ∧ an_C (upd f j (nI a)) x ≤ 200 := by
  intro x hx
  unfold an_C
  by_cases e : x = j
  · rw [e, pk_us, nI_clamp (by omega)]
    exact ⟨rfl, ha⟩
  · rw [pk_un e]
    exact h x hx
theorem pv_set {post : Int32 → St2 → Prop} (hc : c ≤ 8) (hn : n ≤ 16) (hI : pv_I c n tM fR pe dl tl os ga tx rs cs pr pd nx na fl aa ov mx rm) (v1 v2 v3 : Int32)
    (hp : ∀ (r tM' fR' : Int32) (os' ga' na' fl' co' ov' mx' rm' sX' lX' : Nat → Int32), pv_I c n tM' fR' pe dl tl os' ga' tx rs cs pr pd nx na' fl' aa ov' mx' rm' → post r (nI p, pK, nI c, nI n, sT, tM', fR', pe, dl, hd, tl, os', ga', tx, rs, cs, pr, pd, nx, bX, na', fl', aa, co', ov', mx', rm', sX', lX')) :
    wpX_setArrivals post (nI p, pK, nI c, nI n, sT, tM, fR, pe, dl, hd, tl, os, ga, tx, rs, cs, pr, pd, nx, bX, na, fl, aa, co, ov, mx, rm, sX, lX) v1 v2 v3 := by
  have ref : ∀ r, post r (nI p, pK, nI c, nI n, sT, tM, fR, pe, dl, hd, tl, os, ga, tx, rs, cs, pr, pd, nx, bX, na, fl, aa, co, ov, mx, rm, sX, lX) := fun r => hp r _ _ _ _ _ _ _ _ _ _ _ _ hI
  unfold wpX_setArrivals
  rcases pk_ix v1 (n := c) (by omega) with z | z | ⟨j, hj, rfl⟩
  · exact sm_t0 z (br_t rfl (ref _))
  · by_cases z0 : v1 < 0
    · exact sm_t0 z0 (br_t rfl (ref _))
    · exact sm_t2 z0 z (br_t rfl (ref _))
  · refine sm_t1 hj (by omega) (br_f sm_1 ?_)
    rcases sm_in3 v2 0 200 (by omega) (by omega) with z | ⟨z, z'⟩ | ⟨a, h1, h2, rfl⟩
    · exact sm_w0 z (br_t rfl (ref _))
    · exact sm_w2 z z' (br_t rfl (ref _))
    · refine sm_w1 (lo := 0) (hi := 200) h1 h2 (by omega) (br_f sm_1 ?_)
      rcases sm_in3 v3 0 200 (by omega) (by omega) with z | ⟨z, z'⟩ | ⟨b, k1, k2, rfl⟩
      · exact sm_w0 z (br_t rfl (ref _))
      · exact sm_w2 z z' (br_t rfl (ref _))
      · have hi : vp_in (nI j) 8 := vp_in_nI (by omega) (by omega)
        refine sm_w1 (lo := 0) (hi := 200) k1 k2 (by omega) (br_f sm_1 ⟨hi, nm_r (cf_up (by omega)) ⟨hi, nm_r (cf_up (by omega)) ?_⟩⟩)
        obtain ⟨aaN, haa⟩ := pv_aaN hI
        exact rs_x hc hn (hp _ _ _ _ _ _ _ _ _ _ _ _ _ (pv_rst (pv_upd h2 hI.1) (pv_upd k2 hI.2.1) haa))
/-! the setup -/
theorem pv_addt {post : Int32 → St2 → Prop} (hc : c < 8) (hn : n ≤ 16) {a b : Nat} (h1 : 1 ≤ b) (h2 : b ≤ a) (h3 : a ≤ 200) (hp : post (nI c) (pN, pK, nI (c + 1), nI n, 0, 0, -1, upd pe c (nI a), upd dl c (nI b), upd hd c (-1), upd tl c (-1), upd os c 0, upd ga c 0, tx, rs, cs, pr, pd, nx, bX, bs_mz na (upd os c 0) (c + 1), bs_mz fl (fun _ => 0) (c + 1), aa, bs_mz co (fun _ => 0) (c + 1), bs_mz ov (fun _ => 0) (c + 1), bs_mz mx (fun _ => -1) (c + 1), bs_mz rm (fun _ => 0) n, bs_mz sX (fun _ => -1) n, bs_mz lX (fun _ => -1) 9)) : wpX_addTransaction post (pN, pK, nI c, nI n, sT, tM, fR, pe, dl, hd, tl, os, ga, tx, rs, cs, pr, pd, nx, bX, na, fl, aa, co, ov, mx, rm, sX, lX) (nI a) (nI b) := by
  have hi : vp_in (nI c) 8 := vp_in_nI (by omega) (by omega)
  unfold wpX_addTransaction
  refine br_t (nI_lt (a := c) (b := 8) hc (by omega)) (sm_w1 (lo := 1) (hi := 200) (by omega) h3 (by omega) (br_f sm_1 (sm_w1 (lo := 1) (hi := a) h1 h2 (by omega) (br_f sm_1 ?_))))
  refine ⟨hi, nm_r (cf_up (by omega)) ⟨hi, nm_r (cf_up (by omega)) ⟨hi, nm_r (cf_up (by omega)) ⟨hi, nm_r (cf_up (by omega)) ⟨hi, nm_r (cf_up (by omega)) ⟨hi, nm_r (cf_up (by omega)) (nm_r (nI_1 c) ?_)⟩⟩⟩⟩⟩⟩
  exact cf_cc (by omega) (by omega) hp
theorem pv_res {post : Int32 → Prop} {x : Int32} (hp4 : p ≤ 4) (hx : x = 8 ∨ ∃ q, q < p ∧ x = nI q) (hp : post 1) : wpX_isResource post (nI p, pK, tC, sC, sT, tM, fR, pe, dl, hd, tl, os, ga, tx, rs, cs, pr, pd, nx, bX, na, fl, aa, co, ov, mx, rm, sX, lX) x := by
  rcases hx with rfl | ⟨q, hq, rfl⟩
  · exact br_t rfl hp
  · refine br_f (fun z => ?_) (br_f (nI_pos (by omega)) (br_f (nI_ge hq (by omega)) hp))
    have := (nI_eq (a := q) (b := 8) (by omega) (by omega)).mp z
    omega
theorem pv_adds {post : Int32 → St2 → Prop} (hc : c ≤ 8) (hn : n < 16) (hp4 : p ≤ 4) {x v q : Nat} {r : Int32} (hx : x < c) (hr : r = 8 ∨ ∃ q, q < p ∧ r = nI q) (h1 : 1 ≤ v) (h2 : v ≤ 20) (k1 : 1 ≤ q) (k2 : q ≤ 100) (hnt : ¬ ∃ j, j < n ∧ rs j = r ∧ pr j = nI q) (hch : sn_Ch tx hd tl pd nx c n)
    (hp : ∀ hd' tl' pd' nx' : Nat → Int32, sn_Ch (upd tx n (nI x)) hd' tl' pd' nx' c (n + 1) → post (nI n) (nI p, nI 16, nI c, nI (n + 1), 0, 0, -1, pe, dl, hd', tl', os, ga, upd tx n (nI x), upd rs n r, upd cs n (nI v), upd pr n (nI q), pd', nx', bX, bs_mz na os c, bs_mz fl (fun _ => 0) c, aa, bs_mz co (fun _ => 0) c, bs_mz ov (fun _ => 0) c, bs_mz mx (fun _ => -1) c, bs_mz rm (fun _ => 0) (n + 1), bs_mz sX (fun _ => -1) (n + 1), bs_mz lX (fun _ => -1) 9)) :
    wpX_addStep post (nI p, nI 16, nI c, nI n, sT, tM, fR, pe, dl, hd, tl, os, ga, tx, rs, cs, pr, pd, nx, bX, na, fl, aa, co, ov, mx, rm, sX, lX) (nI x) r (nI v) (nI q) := by
  have hin : vp_in (nI n) 16 := vp_in_nI (by omega) (by omega)
  unfold wpX_addStep
  refine sm_t1 hx (by omega) (br_f sm_1 (br_t (nI_lt hn (by omega)) (pv_res hp4 hr (br_f sm_1 (sm_w1 (lo := 1) (hi := 20) h1 h2 (by omega) (br_f sm_1 (sm_w1 (lo := 1) (hi := 100) k1 k2 (by omega) (br_f sm_1 ?_))))))))
  refine cf_xt (by omega) (fun z => absurd z hnt) (fun _ => br_t rfl ⟨hin, nm_r (cf_up (by omega)) ⟨hin, nm_r (cf_up (by omega)) ⟨hin, nm_r (cf_up (by omega)) ⟨hin, nm_r (cf_up (by omega)) (nm_r (nI_1 n) ?_)⟩⟩⟩⟩)
  rcases sn_Ch_step hch hn hx hc with ⟨etl, hch'⟩ | ⟨l, hl, etl, hch'⟩
  · exact cf_ap1 (by omega) hn etl (cf_cc hc (by omega) (hp _ _ _ _ hch'))
  · exact cf_ap2 (by omega) hn hl etl (cf_cc hc (by omega) (hp _ _ _ _ hch'))
end
