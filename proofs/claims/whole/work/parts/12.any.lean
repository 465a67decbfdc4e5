/-! the analysis: the reference's raw -/
section
variable {pN pK sT tM fR tC sC : Int32} {c n p kk : Nat} {pe dl hd tl os ga tx rs cs pr pd nx bX na fl aa co ov mx rm sX lX sY dY bY nY lY : Nat → Int32} {R : Nat → Nat}
theorem an_yj {post : Int32 → Prop} {j : Nat} (h : an_H n pe dl tx cs pd) (hpd : ∀ s, s < n → pd s = sn_L tx (tx s) s) (hb : ∀ i, i < n → bY i = nI (R i)) (hj : j < n) (hp : post (nI (fx_J pd R j))) : wpY_jitter post (pN, pK, tC, sC, sT, tM, fR, pe, dl, os, ga, na, aa, co, ov, mx, fl, tx, rs, cs, pr, rm, sY, dY, bY, nY, lY) (nI j) := by
  have hn := h.1
  unfold wpY_jitter
  refine sm_yp (by omega) ?_
  rw [← hpd j hj]
  unfold fx_J at hp
  by_cases e : pd j = -1
  · rw [if_pos e] at hp
    exact br_t e hp
  · rw [if_neg e] at hp
    rcases h.2.1 j hj with z | ⟨q, hq, z⟩
    · exact absurd z e
    · rw [z] at hp ⊢
      rw [nI_clamp (by omega)] at hp
      refine br_f (bs_ne (by omega)) ⟨vp_in_nI (by omega) (by omega), ?_⟩
      rw [nI_clamp (by omega), hb q hq]
      exact hp
theorem an_yu {post : Int32 → Prop} {j s : Nat} (hj : j < 16) (hs : s < 16) (h1 : rs j = rs s ∧ pr s < pr j → post 1) (h0 : ¬ (rs j = rs s ∧ pr s < pr j) → post 0) : wpY_isHp post (pN, pK, tC, sC, sT, tM, fR, pe, dl, os, ga, na, aa, co, ov, mx, fl, tx, rs, cs, pr, rm, sY, dY, bY, nY, lY) (nI j) (nI s) := by
  have kj : vp_in (nI j) 16 := vp_in_nI hj (by omega)
  have ks : vp_in (nI s) 16 := vp_in_nI hs (by omega)
  by_cases q : j = s
  · subst q
    exact br_t rfl (h0 (fun z => Int32.lt_irrefl z.2))
  · refine br_f (fun z => q ((nI_eq (by omega) (by omega)).mp z)) ⟨kj, ks, ?_⟩
    rw [nI_clamp (by omega), nI_clamp (by omega)]
    by_cases e : rs j = rs s
    · refine br_t e ⟨kj, ks, ?_⟩
      by_cases g : pr j ≤ pr s
      · exact br_t g (h0 (fun z => Int32.not_lt.mpr g z.2))
      · exact br_f g (h1 ⟨e, Int32.not_le.mp g⟩)
    · exact br_f e (h0 (fun z => e z.1))
theorem an_yf105 {post : Int32 → Prop} {s w B ld : Nat} {x3 : Int32} (h : an_H n pe dl tx cs pd) (hpd : ∀ s, s < n → pd s = sn_L tx (tx s) s) (hb : ∀ i, i < n → bY i = nI (R i)) (hs : s < n) (hw : w ≤ 200) (hld : (x3 = 0 ∧ ld = 0) ∨ (¬ x3 = 0 ∧ ld = 1)) (hfin : ∀ j, j < n → rs j = rs s ∧ pr s < pr j → fx_J pd R j ≤ 200) :
    ∀ d i, i + d = n → post (nI (B + fx_sm rs pr (an_C cs) (an_T pe tx) (fx_J pd R) s (w + ld) n)) → wY_f_105 post (nI s) (nI w) x3 pN pK tC (nI n) sT tM fR pe dl os ga na aa co ov mx fl tx rs cs pr rm sY dY bY nY lY (d + 1) (nI (B + fx_sm rs pr (an_C cs) (an_T pe tx) (fx_J pd R) s (w + ld) i)) (nI i) := by
  have hn := h.1
  intro d
  induction d with
  | zero =>
    intro i hi hp
    have e : i = n := by omega
    subst e
    exact br_t (nI_le (by omega) (by omega)) hp
  | succ d ih =>
    intro i hi hp
    have z := ih (i + 1) (by omega) hp
    simp only [fx_sm] at z
    have hci := h.2.2.2.1 i (by omega)
    have hti := h.2.2.2.2.1 i (by omega)
    obtain ⟨y, hy, ey⟩ := h.2.2.1 i (by omega)
    have ki : vp_in (nI i) 16 := vp_in_nI (by omega) (by omega)
    have cl : (nI i).toNatClampNeg = i := nI_clamp (by omega)
    refine br_f (nI_ge (by omega) (by omega)) (an_yu (by omega) (by omega) (fun u => br_f sm_1 (an_yj h hpd hb (by omega : i < n) ?_)) (fun u => ?_))
    · have hJ := hfin i (by omega) u
      rw [if_pos u, ← Nat.add_assoc] at z
      have t144 : ∀ a, a = w + ld + fx_J pd R i → wY_f_144 post (wY_f_105 post (nI s) (nI w) x3 pN pK tC (nI n) sT tM fR pe dl os ga na aa co ov mx fl tx rs cs pr rm sY dY bY nY lY (d + 1)) (nI s) (nI w) x3 (nI (B + fx_sm rs pr (an_C cs) (an_T pe tx) (fx_J pd R) s (w + ld) i)) (nI i) (nI a) pN pK tC (nI n) sT tM fR pe dl os ga na aa co ov mx fl tx rs cs pr rm sY dY bY nY lY := by
        intro a ea
        refine ⟨ki, ?_⟩
        rw [cl]
        refine ⟨by rw [ey]; exact vp_in_nI hy (by omega), ?_⟩
        rw [hti.1]
        refine nm_e ⟨nI_ne0 (by omega) (by omega), ?_⟩
        rw [an_div (by omega) hti.2.1 hti.2.2]
        refine nm_e ⟨ki, ?_⟩
        rw [hci.1, pk_mul, nI_add, ea]
        exact nm_e (nm_r (nI_1 i) z)
      refine nm_r (nI_add _ _) ?_
      rcases hld with ⟨h3, hl⟩ | ⟨h3, hl⟩
      · exact br_t h3 (t144 _ (by omega))
      · exact br_f h3 (nm_r (nI_1 _) (t144 _ (by omega)))
    · rw [if_neg u] at z
      exact br_t rfl (nm_r (nI_1 i) z)
theorem an_yf32 {post : Int32 → Prop} {s w : Nat} {x3 : Int32} (h : an_H n pe dl tx cs pd) (hs : s < n) (h8 : rs s = 8) : ∀ d i, i + d = n → (∃ m, wY_f_105 post (nI s) (nI w) x3 pN pK tC (nI n) sT tM fR pe dl os ga na aa co ov mx fl tx rs cs pr rm sY dY bY nY lY m (nI (fx_bl rs pr (an_C cs) s n)) 0) → wY_f_32 post (nI s) (nI w) x3 pN pK tC (nI n) sT tM fR pe dl os ga na aa co ov mx fl tx rs cs pr rm sY dY bY nY lY (d + 1) (nI (fx_bl rs pr (an_C cs) s i)) (nI i) := by
  have hn := h.1
  intro d
  induction d with
  | zero =>
    intro i hi hp
    have e : i = n := by omega
    subst e
    exact br_t (nI_le (by omega) (by omega)) hp
  | succ d ih =>
    intro i hi hp
    have z := ih (i + 1) (by omega) hp
    simp only [fx_bl] at z
    have hci := h.2.2.2.1 i (by omega)
    have hbl := an_bl (rs := rs) (pr := pr) h hs i (by omega)
    have ki : vp_in (nI i) 16 := vp_in_nI (by omega) (by omega)
    have ks : vp_in (nI s) 16 := vp_in_nI (by omega) (by omega)
    have cl : (nI i).toNatClampNeg = i := nI_clamp (by omega)
    refine br_f (nI_ge (by omega) (by omega)) ?_
    by_cases q : i = s
    · rw [if_neg (fun w => Int32.lt_irrefl (by have := w.2; rw [q] at this; exact this))] at z
      exact br_t (by rw [q]) (nm_r (nI_1 i) z)
    · refine br_f (fun w => q ((nI_eq (by omega) (by omega)).mp w)) ⟨ki, ?_⟩
      rw [cl]
      by_cases e : rs i = 8
      · refine br_t e ⟨ki, ks, ?_⟩
        rw [nI_clamp (by omega)]
        by_cases g : pr s ≤ pr i
        · rw [if_neg (fun w => Int32.not_lt.mpr g w.2)] at z
          exact br_t g (nm_r (nI_1 i) z)
        · rw [if_pos ⟨by rw [e, h8], Int32.not_le.mp g⟩] at z
          refine br_f g ⟨ki, ?_⟩
          rw [hci.1]
          by_cases k : fx_bl rs pr (an_C cs) s i < an_C cs i
          · rw [if_pos k] at z
            exact br_f (nI_ge (by omega) (by omega)) ⟨ki, nm_e (nm_r (nI_1 i) z)⟩
          · rw [if_neg k] at z
            exact br_t (nI_le (by omega) (by omega)) (nm_r (nI_1 i) z)
      · rw [if_neg (fun w => e (by rw [w.1, h8]))] at z
        exact br_f e (nm_r (nI_1 i) z)
theorem an_yf {post : Int32 → Prop} {s w : Nat} (h : an_H n pe dl tx cs pd) (hpd : ∀ s, s < n → pd s = sn_L tx (tx s) s) (hb : ∀ i, i < n → bY i = nI (R i)) (hs : s < n) (hw : w ≤ 200) (hfin : ∀ j, j < n → rs j = rs s ∧ pr s < pr j → fx_J pd R j ≤ 200) (hp : post (nI (fx_f n rs pr pd (an_C cs) (an_T pe tx) R s w))) : wpY_f post (pN, pK, tC, nI n, sT, tM, fR, pe, dl, os, ga, na, aa, co, ov, mx, fl, tx, rs, cs, pr, rm, sY, dY, bY, nY, lY) (nI s) (nI w) := by
  have hn := h.1
  have ks : vp_in (nI s) 16 := vp_in_nI (by omega) (by omega)
  have cl : (nI s).toNatClampNeg = s := nI_clamp (by omega)
  have hcs := h.2.2.2.1 s hs
  refine ⟨ks, ?_⟩
  rw [cl]
  unfold fx_f fx_base fx_lead at hp
  by_cases e8 : rs s = 8
  · rw [if_pos e8, if_pos e8] at hp
    refine br_t e8 ⟨ks, ?_⟩
    rw [cl, hcs.1]
    exact nm_e (br_f sm_1 ⟨n + 1, an_yf32 h hs e8 n 0 (by omega) ⟨n + 1, an_yf105 (ld := 1) h hpd hb hs hw (Or.inr ⟨sm_1, rfl⟩) hfin n 0 (by omega) hp⟩⟩)
  · rw [if_neg e8, if_neg e8] at hp
    refine br_f e8 ⟨ks, ?_⟩
    rw [cl, hcs.1]
    exact nm_e (br_t rfl ⟨n + 1, an_yf105 (ld := 0) h hpd hb hs hw (Or.inl ⟨rfl, rfl⟩) hfin n 0 (by omega) hp⟩)
theorem an_y68 {post : Int32 → Prop} {s : Nat} (h : an_H n pe dl tx cs pd) (hpd : ∀ s, s < n → pd s = sn_L tx (tx s) s) (hb : ∀ i, i < n → bY i = nI (R i)) (hs : s < n) (hJs : fx_J pd R s ≤ 200) (hfin : ∀ j, j < n → rs j = rs s ∧ pr s < pr j → fx_J pd R j ≤ 200)
    (hp1 : ∀ w, fx_f n rs pr pd (an_C cs) (an_T pe tx) R s w = w → (∀ u, u < w → fx_f n rs pr pd (an_C cs) (an_T pe tx) R s u ≠ u) → fx_out rs pd (an_C cs) R s + w ≤ an_T dl tx s → post (nI (fx_out rs pd (an_C cs) R s + w)))
    (hp0 : (∀ w, fx_f n rs pr pd (an_C cs) (an_T pe tx) R s w = w → an_T dl tx s < fx_out rs pd (an_C cs) R s + w) → post 1000000) :
    ∀ d i, i + d = an_T dl tx s + 1 → (∀ u, u < i → fx_f n rs pr pd (an_C cs) (an_T pe tx) R s u ≠ u) → wY_raw_68 post (nI s) (nI (fx_J pd R s)) (nI (an_T dl tx s)) pN pK tC (nI n) sT tM fR pe dl os ga na aa co ov mx fl tx rs cs pr rm sY dY bY nY lY (d + 1) (nI i) := by
  have hn := h.1
  have hcs := h.2.2.2.1 s hs
  have hds := h.2.2.2.2.2 s hs
  have ks : vp_in (nI s) 16 := vp_in_nI (by omega) (by omega)
  have cl : (nI s).toNatClampNeg = s := nI_clamp (by omega)
  intro d
  induction d with
  | zero =>
    intro i hi ha
    refine br_t (nI_lt (by omega) (by omega)) (hp0 (fun w ew => ?_))
    by_cases q : w < i
    · exact absurd ew (ha w q)
    · omega
  | succ d ih =>
    intro i hi ha
    refine br_f (nI_nlt (by omega) (by omega)) (an_yf h hpd hb hs (by omega) hfin ?_)
    have bnd : fx_f n rs pr pd (an_C cs) (an_T pe tx) R s i < 2 ^ 31 := by
      have b := an_sm (s := s) (sp := i + fx_lead rs s) h (by unfold fx_lead; split <;> omega) hfin n (Nat.le_refl n)
      have b2 : fx_base n rs pr (an_C cs) s ≤ 20 := by
        unfold fx_base
        split
        · exact an_bl h hs n (Nat.le_refl n)
        · exact hcs.2.2
      unfold fx_f
      omega
    by_cases e : fx_f n rs pr pd (an_C cs) (an_T pe tx) R s i = i
    · refine br_t (by rw [e]) (nm_r (nI_add _ _) ⟨ks, ?_⟩)
      have fin : ∀ o, o = fx_out rs pd (an_C cs) R s + i → wY_raw_114 post (nI (an_T dl tx s)) (nI o) pN pK tC (nI n) sT tM fR pe dl os ga na aa co ov mx fl tx rs cs pr rm sY dY bY nY lY := by
        intro o eo
        have ob : o ≤ 500 := by
          rw [eo]
          unfold fx_out
          split <;> omega
        by_cases g : an_T dl tx s < o
        · refine br_t (nI_lt g (by omega)) (hp0 (fun w ew => ?_))
          by_cases q : w < i
          · exact absurd ew (ha w q)
          · omega
        · refine br_f (nI_nlt (by omega) (by omega)) ?_
          rw [eo]
          exact hp1 i e ha (by omega)
      rw [cl]
      by_cases e8 : rs s = 8
      · refine br_t e8 ⟨ks, ?_⟩
        rw [hcs.1, nI_add]
        refine nm_e (fin _ ?_)
        unfold fx_out
        rw [if_pos e8]
        omega
      · refine br_f e8 (fin _ ?_)
        unfold fx_out
        rw [if_neg e8]
        omega
    · refine br_f (fun z => e ((nI_eq bnd (by omega)).mp z)) (nm_r (nI_1 i) (ih (i + 1) (by omega) (fun u hu => ?_)))
      by_cases g : u = i
      · rw [g]; exact e
      · exact ha u (by omega)
theorem an_y17 {post : Int32 → Prop} {s : Nat} (h : an_H n pe dl tx cs pd) (hR : fx_VL n R) (hpd : ∀ s, s < n → pd s = sn_L tx (tx s) s) (hb : ∀ i, i < n → bY i = nI (R i)) (hs : s < n) (hJs : fx_J pd R s ≤ 200) (hp : ∀ r, fx_Fr n rs pr pd (an_C cs) (an_T pe tx) (an_T dl tx) R s r → post (nI r)) :
    ∀ d i, i + d = n → (∀ j, j < i → (rs j = rs s ∧ pr s < pr j) → fx_J pd R j ≤ 200) → wY_raw_17 post (nI s) (nI (fx_J pd R s)) pN pK tC (nI n) sT tM fR pe dl os ga na aa co ov mx fl tx rs cs pr rm sY dY bY nY lY (d + 1) (nI i) := by
  have hn := h.1
  have ks : vp_in (nI s) 16 := vp_in_nI (by omega) (by omega)
  intro d
  induction d with
  | zero =>
    intro i hi ha
    have e : i = n := by omega
    subst e
    obtain ⟨y, hy, ey⟩ := h.2.2.1 s hs
    have nb : ¬ fx_bad i rs pr pd R s := by
      rintro ⟨j, hj, hc, z⟩
      rcases hc with hc | hc
      · rw [hc] at z; omega
      · have := ha j hj hc
        omega
    refine br_t (nI_le (by omega) (by omega)) ⟨ks, ?_⟩
    rw [nI_clamp (by omega)]
    refine ⟨by rw [ey]; exact vp_in_nI hy (by omega), nm_r (h.2.2.2.2.2 s hs).1 ⟨_, an_y68 h hpd hb hs hJs ha (fun w h1 h2 h3 => ?_) (fun h1 => ?_) (an_T dl tx s + 1) 0 (by omega) (fun u hu => by omega)⟩⟩
    · exact hp _ (Or.inr ⟨nb, Or.inl ⟨w, h1, h2, h3, rfl⟩⟩)
    · exact hp 1000000 (Or.inr ⟨nb, Or.inr ⟨h1, rfl⟩⟩)
  | succ d ih =>
    intro i hi ha
    have next : ((rs i = rs s ∧ pr s < pr i) → fx_J pd R i ≤ 200) → wY_raw_17 post (nI s) (nI (fx_J pd R s)) pN pK tC (nI n) sT tM fR pe dl os ga na aa co ov mx fl tx rs cs pr rm sY dY bY nY lY (d + 1) (nI (i + 1)) := by
      intro z
      refine ih (i + 1) (by omega) (fun j hj => ?_)
      by_cases e : j = i
      · rw [e]; exact z
      · exact ha j (by omega)
    refine br_f (nI_ge (by omega) (by omega)) (an_yu (by omega) (by omega) (fun u => br_f sm_1 (an_yj h hpd hb (by omega : i < n) ?_)) (fun u => br_t rfl (nm_r (nI_1 i) (next (fun z => absurd z u)))))
    have v := an_J h hR (by omega : i < n)
    by_cases z : fx_J pd R i = 1000000
    · exact br_t ((rl_inf v).mpr z) (hp 1000000 (Or.inl ⟨⟨i, by omega, Or.inr u, z⟩, rfl⟩))
    · exact br_f (fun w => z ((rl_inf v).mp w)) (nm_r (nI_1 i) (next (fun _ => by omega)))
theorem an_yraw {post : Int32 → Prop} {s : Nat} (h : an_H n pe dl tx cs pd) (hR : fx_VL n R) (hpd : ∀ s, s < n → pd s = sn_L tx (tx s) s) (hb : ∀ i, i < n → bY i = nI (R i)) (hs : s < n) (hp : ∀ r, fx_Fr n rs pr pd (an_C cs) (an_T pe tx) (an_T dl tx) R s r → post (nI r)) : wpY_raw post (pN, pK, tC, nI n, sT, tM, fR, pe, dl, os, ga, na, aa, co, ov, mx, fl, tx, rs, cs, pr, rm, sY, dY, bY, nY, lY) (nI s) := by
  unfold wpY_raw
  refine an_yj h hpd hb hs ?_
  have v := an_J h hR hs
  by_cases z : fx_J pd R s = 1000000
  · exact br_t ((rl_inf v).mpr z) (hp 1000000 (Or.inl ⟨⟨s, hs, Or.inl rfl, z⟩, rfl⟩))
  · exact br_f (fun w => z ((rl_inf v).mp w)) ⟨n + 1, an_y17 h hR hpd hb hs (by omega) hp n 0 (by omega) (fun j hj => by omega)⟩
end
