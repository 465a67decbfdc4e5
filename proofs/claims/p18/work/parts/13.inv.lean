/-! the law's invariant over the component's state; tick, run, reset, analyse keep it -/
section
variable {n c H : Nat} {tx : Nat → Nat} {rs pr pd nx : Nat → Int32} {C T G : Nat → Nat} {na fl aa rm d : Nat → Nat → Nat} {fr : Nat → Int32}
theorem tk_frpos (hf : tk_Cf n c tx pd nx C) (h : tk_Rn n c H tx rs pr pd nx C T G na fl aa rm d fr) {f : Nat} (hfn : f < n) (e : fr H = nI f) : 0 < tk_ro tx pd C H (na H) (fl H) (rm H) f := by
  have hn := hf.1
  have hC := hf.2.2.1 f hfn
  have pos : 0 < rm H f := by
    cases H with
    | zero =>
      rw [h.1.2.2] at e
      exact absurd e.symm (bs_ne (by omega))
    | succ u =>
      have st := h.2 u (by omega)
      have a := st.2.2.2.2.2.2.2.2.2.2 f hfn e
      have b := st.2.2.1 f hfn
      by_cases z : ¬ pd f = -1 ∧ d u (pd f).toNatClampNeg = 1 ∧ tk_ro tx pd C u (na u) (fl u) (rm u) (pd f).toNatClampNeg = 1
      · rw [b.1 z]; exact hC
      · rw [b.2 z]; omega
  unfold tk_ro
  split
  · exact hC
  · exact pos
end
/-- a finite fixpoint -/
def pv_G (n : Nat) (pe dl tx rs cs pr pd : Nat → Int32) (R : Nat → Nat) : Prop := (∀ s, s < n → R s ≤ 200) ∧ ∀ s, s < n → an_F n pe dl tx rs cs pr pd R s (R s)
/-- what the simulation has seen is within every finite fixpoint -/
def pv_S (c n : Nat) (pe dl tl tx rs cs pr pd ov mx : Nat → Int32) : Prop := ∀ R, pv_G n pe dl tx rs cs pr pd R → ∀ x, x < c → ov x = 0 ∧ (mx x = -1 ∨ ∃ k, mx x = nI k ∧ k ≤ R (an_C tl x) ∧ k ≤ 200)
def pv_T (c n : Nat) (tM fR : Int32) (tx rs cs pr pd nx pe ga na fl aa rm : Nat → Int32) (H : Nat) : Prop :=
  ∃ (naT flT aaT rmT dT : Nat → Nat → Nat) (frT : Nat → Int32), H ≤ 100000 ∧ tM = nI H ∧ tk_Rn n c H (an_C tx) rs pr pd nx (an_C cs) (an_C pe) (an_C ga) naT flT aaT rmT dT frT ∧ pv_L c n H na fl aa rm (naT H) (flT H) (aaT H) (rmT H) ∧ frT H = fR
def pv_I (c n : Nat) (tM fR : Int32) (pe dl tl os ga tx rs cs pr pd nx na fl aa ov mx rm : Nat → Int32) : Prop :=
  (∀ x, x < c → os x = nI (an_C os x) ∧ an_C os x ≤ 200) ∧ (∀ x, x < c → ga x = nI (an_C ga x) ∧ an_C ga x ≤ 200) ∧
  (fR = -1 ∨ ∃ f, f < n ∧ fR = nI f ∧ rs f = 8) ∧ (∃ H, pv_T c n tM fR tx rs cs pr pd nx pe ga na fl aa rm H) ∧ pv_S c n pe dl tl tx rs cs pr pd ov mx
section
variable {pN pK sT tM fR tC sC : Int32} {c n p kk : Nat} {pe dl hd tl os ga tx rs cs pr pd nx bX na fl aa co ov mx rm sX lX : Nat → Int32} {H : Nat}
theorem pv_tl (h : pv_C c n p pe dl hd tl tx rs cs pr pd nx) {s x : Nat} (hs : s < n) (hx : x < c) (e : an_C tx s = x) (en : nx s = -1) : tl x = nI s ∧ an_C tl x = s := by
  have hn := h.1.2.2.1
  have et := (pv_xx h hs hx).mpr e
  have key : tl x = nI s := by
    rw [h.2.2.2.2.2.1.2.1 x hx]
    rcases sn_L_some tx (nI x) n with ⟨_, b⟩ | ⟨l, hl, a, b, d⟩
    · exact absurd et (b s hs)
    · by_cases z : l = s
      · rw [a, z]
      · by_cases w : s < l
        · exfalso
          rw [h.2.2.2.2.2.1.2.2.2 s hs] at en
          rcases sn_F_some tx (tx s) (n - (s + 1)) (s + 1) with ⟨_, q⟩ | ⟨j, _, j2, j3, _, _⟩
          · exact q l (by omega) (by omega) (b.trans et.symm)
          · rw [j3] at en
            exact bs_ne (by omega) en
        · exact absurd et (d s (by omega) hs)
  refine ⟨key, ?_⟩
  unfold an_C
  rw [key, nI_clamp (by omega)]
theorem pv_tick {post : St2 → Prop} (h : pv_C c n p pe dl hd tl tx rs cs pr pd nx) (hH : H < 100000) (hI : pv_I c n (nI H) fR pe dl tl os ga tx rs cs pr pd nx na fl aa ov mx rm) (hT : pv_T c n (nI H) fR tx rs cs pr pd nx pe ga na fl aa rm H)
    (hp : ∀ (fR' : Int32) (na' fl' aa' co' ov' mx' rm' sX' lX' : Nat → Int32), pv_I c n (nI (H + 1)) fR' pe dl tl os ga tx rs cs pr pd nx na' fl' aa' ov' mx' rm' → pv_T c n (nI (H + 1)) fR' tx rs cs pr pd nx pe ga na' fl' aa' rm' (H + 1) → post (nI p, pK, nI c, nI n, sT, nI (H + 1), fR', pe, dl, hd, tl, os, ga, tx, rs, cs, pr, pd, nx, bX, na', fl', aa', co', ov', mx', rm', sX', lX')) :
    wpX_tick post (nI p, pK, nI c, nI n, sT, nI H, fR, pe, dl, hd, tl, os, ga, tx, rs, cs, pr, pd, nx, bX, na, fl, aa, co, ov, mx, rm, sX, lX) := by
  obtain ⟨i1, i2, i3, _, i5⟩ := hI
  obtain ⟨naT, flT, aaT, rmT, dT, frT, _, _, hrn, hl, hfr⟩ := hT
  have hcc := h.1
  have tkf := pv_tk h
  have hr := tk_of hrn
  have K := tk_Kall tkf hr H (Nat.le_refl H)
  have M := tk_KM tkf K
  have hrob : ∀ s, s < n → tk_ro (an_C tx) pd (an_C cs) H (naT H) (flT H) (rmT H) s ≤ an_C cs s := fun s hs => M.2.2.1 s hs
  have hro2 : ∀ s, s < n → tk_ro (an_C tx) pd (an_C cs) H (naT H) (flT H) (rmT H) s < 2 ^ 31 := fun s hs => by
    have a := hrob s hs
    have b := (pv_cs h hs).2.2
    omega
  have hfr' : fR = -1 ∨ ∃ f, f < n ∧ fR = nI f ∧ rs f = 8 ∧ 0 < tk_ro (an_C tx) pd (an_C cs) H (naT H) (flT H) (rmT H) f := by
    rcases i3 with z | ⟨f, hf, e, e8⟩
    · exact Or.inl z
    · exact Or.inr ⟨f, hf, e, e8, tk_frpos tkf hrn hf (by rw [hfr, e])⟩
  have htx : ∀ s, s < n → ∃ y, y < c ∧ tx s = nI y := h.2.1
  have hpdc : ∀ s, s < n → ¬ pd s = -1 → (pd s).toNatClampNeg < s ∧ tx (pd s).toNatClampNeg = tx s ∧ nx (pd s).toNatClampNeg = nI s := by
    intro s hs e
    rcases pv_pd h hs with a | ⟨q, hq, a, b, d⟩
    · exact absurd a.1 e
    · rw [a, nI_clamp (by omega)]
      exact ⟨hq, b, d⟩
  have hnxc : ∀ s, s < n → nx s = -1 ∨ ∃ m, m < n ∧ nx s = nI m ∧ pd m = nI s := by
    intro s hs
    rcases pv_nx h hs with a | ⟨m, hm, a, b, _⟩
    · exact Or.inl a
    · exact Or.inr ⟨m, hm, a, b⟩
  have hcs0 : ∀ s, s < n → ¬ cs s = 0 := by
    intro s hs
    obtain ⟨a, b, d⟩ := pv_cs h hs
    rw [a]
    exact nI_ne0 (by omega) (by omega)
  unfold wpX_tick
  refine ⟨c + 1, tu_arr0 hcc.2.1 hcc.2.2.1 (pv_hd h) htx (fun rm1 hra => ?_)⟩
  have hro := pv_mid h (by omega) hl K.1 hra
  refine ⟨p + 1, tu_exe (rm1 := rm1) hcc.2.2.2.2 hcc.2.2.1 (fun rm2 lX2 hex => ?_) p 0 rm1 lX (by omega) ⟨fun q hq => by omega, fun s hs => ⟨fun ⟨q, hq, _⟩ => by omega, fun _ => rfl⟩⟩⟩
  refine tu_bus hcc.2.2.2.2 hcc.2.2.1 h.2.2.1 i3 hex (fun f1 rm3 lX3 hef => ?_)
  obtain ⟨w1, _, _, _, w5⟩ := pv_who h hro hro2 hef hfr'
  refine ⟨n + 1, tu_cmp (f1 := f1) (rm2 := rm3) (fl1 := tu_mk (fun x => na x = nI H ∧ fl x = 0) (fun _ => 1) fl c) (mx1 := mx) hcc.2.1 hcc.2.2.1 hcc.2.2.2.2 htx h.2.2.1 hcs0 hpdc hnxc (fun s q hs hq e d1 d2 => M.2.1 s q hs hq ((pv_xe h hs hq).mpr e) (w1 s hs d1) (w1 q hq d2)) (fun fR' fl' co' mx' rm' sX' hcm => ?_) n 0 f1 _ co mx rm3 sX (by omega) ⟨fun s hs => ⟨fun w => by have := w.2.1; omega, fun _ => rfl⟩, fun x hx => ⟨fun ⟨s, hs, _⟩ => by omega, fun _ => rfl⟩, fun x hx => Or.inl rfl, fun ⟨s, hs, _⟩ => by omega, fun _ => rfl⟩⟩
  obtain ⟨st, hl', hmx⟩ := pv_step (fR' := fR') (rm' := rm') (fl' := fl') (mx' := mx') (mx := mx) h (by omega) i2 hl K.1 hrob hfr' hra hef hcm
  have hfok : fR' = -1 ∨ ∃ f, f < n ∧ fR' = nI f ∧ rs f = 8 := by
    by_cases q : ∃ s, s < n ∧ nI s = f1 ∧ tu_cp rs lX3 rm3 s
    · exact Or.inl (hcm.2.2.2.1 q)
    · rw [hcm.2.2.2.2 q]
      by_cases e : fR = -1
      · rw [hef.2.2.1 e]
        rcases sn_mu_some rs pr rm1 8 n with a | ⟨j, hj, a, b⟩
        · exact Or.inl a
        · exact Or.inr ⟨j, hj, a, b⟩
      · rw [hef.2.2.2.1 e]; exact i3
  have hrn' := tk_ext hrn (by rw [hfr]; exact st)
  have hr' := tk_of hrn'
  have hT' : pv_T c n (nI (H + 1)) fR' tx rs cs pr pd nx pe ga (tu_mk (fun x => na x = nI H) (fun x => nI H + pe x + ga x) na c) fl' (tu_mk (fun x => na x = nI H ∧ fl x = 0) (fun _ => nI H) aa c) rm' (H + 1) :=
    ⟨_, _, _, _, _, _, by omega, rfl, hrn', by rw [tk_ad_s, tk_ad_s, tk_ad_s, tk_ad_s]; exact hl', tk_ad_s⟩
  refine nm_r (nI_1 H) (hp _ _ _ _ _ _ _ _ _ _ ⟨i1, i2, hfok, ⟨H + 1, hT'⟩, ?_⟩ hT')
  -- within every finite fixpoint
  intro R hG x hx
  obtain ⟨s1, s2⟩ := i5 R hG x hx
  have hcf := an_cf (pv_H h)
  have hTp : ∀ x, x < c → 1 ≤ an_C pe x := fun x hx => (pv_pe h hx).1.2.1
  have hRT : ∀ s, s < n → R s ≤ an_C pe (an_C tx s) := by
    intro s hs
    have a := pv_pe h (pv_x h hs).2
    have b := hG.1 s hs
    rcases hG.2 s hs with ⟨_, q⟩ | ⟨_, ⟨w, _, _, q, e⟩ | ⟨_, q⟩⟩
    · omega
    · have : an_T dl tx s = an_C dl (an_C tx s) := rfl
      omega
    · omega
  have e1 : tk_ad (H + 1) naT (pv_na pe ga H (naT H)) H = naT H := tk_ad_n (by omega)
  have e2 : tk_ad (H + 1) flT (pv_fl fl') H = flT H := tk_ad_n (by omega)
  have e3 : tk_ad (H + 1) aaT (pv_aa H (naT H) (flT H) (aaT H)) H = aaT H := tk_ad_n (by omega)
  have e4 : tk_ad (H + 1) rmT (pv_rm rm') H = rmT H := tk_ad_n (by omega)
  refine ⟨?_, ?_⟩
  · have nd := tk_noov hcf tkf hr' h.2.2.2.2.2.2.2 hTp hG.1 hRT hG.2 (t := H) (by omega) hx
    rw [e1, e2] at nd
    rw [tu_q (P := fun x => na x = nI H ∧ ¬ fl x = 0) (fun w => nd ?_)]
    · exact s1
    · have a := hl.1 x hx
      have b := hl.2.1 x hx
      have k := K.1 x hx
      refine ⟨?_, ?_⟩
      · have := w.1
        rw [a.1, nI_eq (by omega) (by omega)] at this
        exact this
      · have nz : ¬ flT H x = 0 := fun q => w.2 (by rw [b, q]; rfl)
        omega
  · rcases hmx x hx with q | ⟨s, hs, et, en, dd, ro1, q⟩
    · rw [q]; exact s2
    · have main := tk_main hcf tkf hr' h.2.2.2.2.2.2.2 hTp hG.1 hG.2 (t := H) (s := s) (by omega) hs (by
        unfold tk_rho
        rw [e1, e2, e4]
        show 0 < tk_ro (an_C tx) pd (an_C cs) H (naT H) (flT H) (rmT H) s
        omega)
      unfold tk_rho tk_al at main
      rw [e1, e2, e3, e4] at main
      have er : (if (naT H (an_C tx s) = H ∧ flT H (an_C tx s) = 0) ∧ pd s = -1 then an_C cs s else rmT H s) = 1 := ro1
      have ea : (if naT H (an_C tx s) = H ∧ flT H (an_C tx s) = 0 then H else aaT H (an_C tx s)) = pv_aa H (naT H) (flT H) (aaT H) x := by rw [et]; rfl
      rw [er, ea] at main
      have hal : pv_aa H (naT H) (flT H) (aaT H) x ≤ H := by
        unfold pv_aa
        by_cases y : naT H x = H ∧ flT H x = 0
        · rw [if_pos y]; exact Nat.le_refl H
        · rw [if_neg y]
          rcases M.1 s hs (by show 0 < tk_ro (an_C tx) pd (an_C cs) H (naT H) (flT H) (rmT H) s; omega) with v | v
          · rw [et] at v; exact absurd v y
          · rw [et] at v
            have := K.2.2.2.2.2 x hx v
            omega
      have etl := (pv_tl h hs hx et en).2
      have hR := hG.1 s hs
      rw [q, nI_1, pk_sub (by omega), etl]
      rcases s2 with y | ⟨k, y1, y2, y3⟩
      · rw [y, ti_gr2 (fun w => ?_)]
        · exact Or.inr ⟨_, rfl, by omega, by omega⟩
        · exact absurd (Int32.le_trans (nI_pos' (by omega)) w) (by decide)
      · rw [y1]
        by_cases w : nI (H + 1 - pv_aa H (naT H) (flT H) (aaT H) x) ≤ nI k
        · rw [ti_gr1 w]
          rw [etl] at y2
          exact Or.inr ⟨k, rfl, y2, y3⟩
        · rw [ti_gr2 w]
          exact Or.inr ⟨_, rfl, by omega, by omega⟩
theorem pv_run {post : Int32 → St2 → Prop} (h : pv_C c n p pe dl hd tl tx rs cs pr pd nx) {w : Nat} (hw : w ≤ 1000)
    (hp : ∀ (r tM' fR' : Int32) (na' fl' aa' co' ov' mx' rm' sX' lX' : Nat → Int32), pv_I c n tM' fR' pe dl tl os ga tx rs cs pr pd nx na' fl' aa' ov' mx' rm' → post r (nI p, pK, nI c, nI n, sT, tM', fR', pe, dl, hd, tl, os, ga, tx, rs, cs, pr, pd, nx, bX, na', fl', aa', co', ov', mx', rm', sX', lX')) :
    ∀ (d i H : Nat) (fR : Int32) (na fl aa co ov mx rm sX lX : Nat → Int32), i + d = w → H ≤ 100000 → pv_I c n (nI H) fR pe dl tl os ga tx rs cs pr pd nx na fl aa ov mx rm → pv_T c n (nI H) fR tx rs cs pr pd nx pe ga na fl aa rm H → wX_run_21 post (nI w) (d + 1) (nI i) (nI p) pK (nI c) (nI n) sT (nI H) fR pe dl hd tl os ga tx rs cs pr pd nx bX na fl aa co ov mx rm sX lX := by
  intro d
  induction d with
  | zero =>
    intro i H fR na fl aa co ov mx rm sX lX hi hH hI hT
    exact br_t (nI_le (by omega) (by omega)) (hp _ _ _ _ _ _ _ _ _ _ _ _ hI)
  | succ d ih =>
    intro i H fR na fl aa co ov mx rm sX lX hi hH hI hT
    refine br_f (nI_ge (by omega) (by omega)) ?_
    by_cases z : H < 100000
    · refine br_f (nI_ge (a := H) (b := 100000) z (by omega)) (pv_tick h z hI hT (fun fR' na' fl' aa' co' ov' mx' rm' sX' lX' hI' hT' => ?_))
      exact nm_r (nI_1 i) (ih (i + 1) (H + 1) fR' na' fl' aa' co' ov' mx' rm' sX' lX' (by omega) (by omega) hI' hT')
    · exact br_t (nI_le (a := 100000) (b := H) (by omega) (by omega)) (hp _ _ _ _ _ _ _ _ _ _ _ _ hI)
/-- a reset: a trace of no tick -/
theorem pv_rst (h1 : ∀ x, x < c → os x = nI (an_C os x) ∧ an_C os x ≤ 200) (h2 : ∀ x, x < c → ga x = nI (an_C ga x) ∧ an_C ga x ≤ 200) {aaN : Nat → Nat} (h3 : ∀ x, x < c → aa x = nI (aaN x)) :
    pv_I c n 0 (-1) pe dl tl os ga tx rs cs pr pd nx (bs_mz na os c) (bs_mz fl (fun _ => 0) c) aa (bs_mz ov (fun _ => 0) c) (bs_mz mx (fun _ => -1) c) (bs_mz rm (fun _ => 0) n) := by
  refine ⟨h1, h2, Or.inl rfl, ⟨0, fun _ => an_C os, fun _ _ => 0, fun _ => aaN, fun _ _ => 0, fun _ _ => 0, fun _ => -1, by omega, rfl, ⟨⟨fun _ _ => rfl, fun _ _ => rfl, rfl⟩, fun t ht => by omega⟩, ⟨fun x hx => ?_, fun x hx => ?_, h3, fun s hs => ?_⟩, rfl⟩, fun R hR x hx => ?_⟩
  · rw [bs_mz_lt hx]
    exact ⟨(h1 x hx).1, Nat.le_trans (h1 x hx).2 (by omega)⟩
  · rw [bs_mz_lt hx]; rfl
  · rw [bs_mz_lt hs]; rfl
  · rw [bs_mz_lt hx, bs_mz_lt hx]
    exact ⟨rfl, Or.inl rfl⟩
theorem pv_aaN (hI : pv_I c n tM fR pe dl tl os ga tx rs cs pr pd nx na fl aa ov mx rm) : ∃ aaN : Nat → Nat, ∀ x, x < c → aa x = nI (aaN x) := by
  obtain ⟨_, _, _, ⟨H, naT, flT, aaT, rmT, dT, frT, _, _, _, hl, _⟩, _⟩ := hI
  exact ⟨_, hl.2.2.1⟩
end
