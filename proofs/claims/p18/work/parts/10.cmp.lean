/-! one tick of the component: completions -/
section
variable {pN pK sT tM fR tC sC : Int32} {c n p kk : Nat} {pe dl hd tl os ga tx rs cs pr pd nx bX na fl aa co ov mx rm sX lX : Nat → Int32}
def ti_fr (i : Nat) (fR : Int32) : Int32 := if nI i = fR then -1 else fR
theorem ti_xc50t {post : St2 → Prop} {i y : Nat} {x3 : Int32} (hi : i < 16) (hy : y < 8) (e : nx i = -1) (hp : post (pN, pK, tC, sC, sT, tM, fR, pe, dl, hd, tl, os, ga, tx, rs, cs, pr, pd, nx, bX, na, upd fl y 0, aa, upd co y (co y + 1), ov, upd mx y (ti_gr (mx y) x3), rm, sX, lX)) : wX_complete_50 post (nI i) (nI y) x3 pN pK tC sC sT tM fR pe dl hd tl os ga tx rs cs pr pd nx bX na fl aa co ov mx rm sX lX := by
  have k : vp_in (nI y) 8 := vp_in_nI (by omega) (by omega)
  refine ⟨vp_in_nI (by omega) (by omega), br_t (by rw [nI_clamp (by omega)]; exact e) ⟨k, nm_r (cf_up (by omega)) ⟨k, k, nm_r (by rw [nI_clamp (by omega)]) ⟨k, ti_gx ⟨k, nm_r (by rw [nI_clamp (by omega)]) hp⟩⟩⟩⟩⟩
theorem ti_xc50n {post : St2 → Prop} {i m : Nat} {x2 x3 : Int32} (hi : i < 16) (hm : m < 16) (e : nx i = nI m) (hp : post (pN, pK, tC, sC, sT, tM, fR, pe, dl, hd, tl, os, ga, tx, rs, cs, pr, pd, nx, bX, na, fl, aa, co, ov, mx, upd rm m (cs m), sX, lX)) : wX_complete_50 post (nI i) x2 x3 pN pK tC sC sT tM fR pe dl hd tl os ga tx rs cs pr pd nx bX na fl aa co ov mx rm sX lX := by
  have k : vp_in (nI m) 16 := vp_in_nI (by omega) (by omega)
  have ki : vp_in (nI i) 16 := vp_in_nI (by omega) (by omega)
  refine ⟨ki, br_f (by rw [nI_clamp (by omega), e]; exact bs_ne (by omega)) ⟨ki, ?_⟩⟩
  rw [nI_clamp (by omega), e]
  exact ⟨k, k, nm_r (by rw [nI_clamp (by omega)]) hp⟩
theorem ti_xc {post : St2 → Prop} {i y : Nat} (hi : i < 16) (hy : y < 8) (et : tx i = nI y) (hp : wX_complete_50 post (nI i) (nI y) (tM + 1 - aa y) pN pK tC sC sT tM (ti_fr i fR) pe dl hd tl os ga tx rs cs pr pd nx bX na fl aa co ov mx rm (upd sX i (ti_gr (sX i) (tM + 1 - aa y))) lX) : wpX_complete post (pN, pK, tC, sC, sT, tM, fR, pe, dl, hd, tl, os, ga, tx, rs, cs, pr, pd, nx, bX, na, fl, aa, co, ov, mx, rm, sX, lX) (nI i) := by
  have ki : vp_in (nI i) 16 := vp_in_nI (by omega) (by omega)
  refine ⟨ki, nm_r (by rw [nI_clamp (by omega), et]) ⟨vp_in_nI (by omega) (by omega), nm_r (by rw [nI_clamp (by omega)]) ⟨ki, ti_gx ⟨ki, nm_r (by rw [nI_clamp (by omega)]) ?_⟩⟩⟩⟩
  unfold ti_fr at hp
  by_cases e : nI i = fR
  · rw [if_pos e] at hp
    exact br_t e hp
  · rw [if_neg e] at hp
    exact br_f e hp
/-- s is at its end: it worked, and nothing is left -/
def tu_cp (rs lX rm2 : Nat → Int32) (s : Nat) : Prop := lX (rs s).toNatClampNeg = nI s ∧ rm2 s = 0
def tu_CM (c n i : Nat) (tM f1 : Int32) (tx rs cs pd nx lX aa rm2 fl1 mx1 : Nat → Int32) (fR : Int32) (rm fl mx : Nat → Int32) : Prop :=
  (∀ s, s < n → ((¬ pd s = -1 ∧ (pd s).toNatClampNeg < i ∧ tu_cp rs lX rm2 (pd s).toNatClampNeg) → rm s = cs s) ∧ (¬ (¬ pd s = -1 ∧ (pd s).toNatClampNeg < i ∧ tu_cp rs lX rm2 (pd s).toNatClampNeg) → rm s = rm2 s)) ∧
  (∀ x, x < c → ((∃ s, s < i ∧ tx s = nI x ∧ nx s = -1 ∧ tu_cp rs lX rm2 s) → fl x = 0) ∧ ((¬ ∃ s, s < i ∧ tx s = nI x ∧ nx s = -1 ∧ tu_cp rs lX rm2 s) → fl x = fl1 x)) ∧
  (∀ x, x < c → mx x = mx1 x ∨ ∃ s, s < i ∧ tx s = nI x ∧ nx s = -1 ∧ tu_cp rs lX rm2 s ∧ mx x = ti_gr (mx1 x) (tM + 1 - aa x)) ∧
  (((∃ s, s < i ∧ nI s = f1 ∧ tu_cp rs lX rm2 s) → fR = -1) ∧ ((¬ ∃ s, s < i ∧ nI s = f1 ∧ tu_cp rs lX rm2 s) → fR = f1))
theorem tu_ex {P : Nat → Prop} {i : Nat} (h : ¬ P i) : (∃ s, s < i + 1 ∧ P s) ↔ ∃ s, s < i ∧ P s := by
  constructor
  · rintro ⟨s, hs, hp⟩
    by_cases e : s = i
    · subst e; exact absurd hp h
    · exact ⟨s, by omega, hp⟩
  · rintro ⟨s, hs, hp⟩
    exact ⟨s, by omega, hp⟩
section
variable {f1 : Int32} {rm2 fl1 mx1 : Nat → Int32} {i : Nat}
theorem tu_skip (h : tu_CM c n i tM f1 tx rs cs pd nx lX aa rm2 fl1 mx1 fR rm fl mx) (hno : ¬ tu_cp rs lX rm2 i) : tu_CM c n (i + 1) tM f1 tx rs cs pd nx lX aa rm2 fl1 mx1 fR rm fl mx := by
  obtain ⟨h1, h2, h3, h4⟩ := h
  refine ⟨fun s hs => ?_, fun x hx => ?_, fun x hx => ?_, ?_⟩
  · obtain ⟨a, b⟩ := h1 s hs
    refine ⟨fun z => a ⟨z.1, ?_, z.2.2⟩, fun z => b (fun w => z ⟨w.1, by have := w.2.1; omega, w.2.2⟩)⟩
    by_cases e : (pd s).toNatClampNeg = i
    · rw [e] at z; exact absurd z.2.2 hno
    · have := z.2.1; omega
  · rw [tu_ex (fun z => hno z.2.2)]
    exact h2 x hx
  · rcases h3 x hx with z | ⟨s, hs, z⟩
    · exact Or.inl z
    · exact Or.inr ⟨s, by omega, z⟩
  · rw [tu_ex (fun z => hno z.2)]
    exact h4
theorem tu_fr (hi : i < 2 ^ 31) (h : ((∃ s, s < i ∧ nI s = f1 ∧ tu_cp rs lX rm2 s) → fR = -1) ∧ ((¬ ∃ s, s < i ∧ nI s = f1 ∧ tu_cp rs lX rm2 s) → fR = f1)) (hc : tu_cp rs lX rm2 i) : ((∃ s, s < i + 1 ∧ nI s = f1 ∧ tu_cp rs lX rm2 s) → ti_fr i fR = -1) ∧ ((¬ ∃ s, s < i + 1 ∧ nI s = f1 ∧ tu_cp rs lX rm2 s) → ti_fr i fR = f1) := by
  obtain ⟨a, b⟩ := h
  unfold ti_fr
  by_cases z : ∃ s, s < i ∧ nI s = f1 ∧ tu_cp rs lX rm2 s
  · have e := a z
    obtain ⟨s, hs, w⟩ := z
    rw [if_neg (by rw [e]; exact bs_ne hi)]
    exact ⟨fun _ => e, fun q => absurd ⟨s, by omega, w⟩ q⟩
  · have e := b z
    rw [e]
    by_cases q : nI i = f1
    · rw [if_pos q]
      exact ⟨fun _ => rfl, fun w => absurd ⟨i, by omega, q, hc⟩ w⟩
    · rw [if_neg q]
      refine ⟨fun w => ?_, fun _ => rfl⟩
      rw [tu_ex (fun y => q y.1)] at w
      exact absurd w z
theorem tu_tail (h : tu_CM c n i tM f1 tx rs cs pd nx lX aa rm2 fl1 mx1 fR rm fl mx) (hi : i < n) (hn : n ≤ 16) (hc : tu_cp rs lX rm2 i) {y : Nat} (hy : y < c) (hcc : c ≤ 8) (et : tx i = nI y) (en : nx i = -1) (hpd : ∀ s, s < n → ¬ pd s = -1 → nx (pd s).toNatClampNeg = nI s)
    (hun : ∀ s, s < i → tx s = nI y → tu_cp rs lX rm2 s → False) : tu_CM c n (i + 1) tM f1 tx rs cs pd nx lX aa rm2 fl1 mx1 (ti_fr i fR) rm (upd fl y 0) (upd mx y (ti_gr (mx y) (tM + 1 - aa y))) := by
  obtain ⟨h1, h2, h3, h4⟩ := h
  refine ⟨fun s hs => ?_, fun x hx => ?_, fun x hx => ?_, tu_fr (by omega) h4 hc⟩
  · obtain ⟨a, b⟩ := h1 s hs
    refine ⟨fun z => a ⟨z.1, ?_, z.2.2⟩, fun z => b (fun w => z ⟨w.1, by have := w.2.1; omega, w.2.2⟩)⟩
    by_cases e : (pd s).toNatClampNeg = i
    · have := hpd s hs z.1
      rw [e, en] at this
      exact absurd this.symm (bs_ne (by omega))
    · have := z.2.1; omega
  · by_cases e : x = y
    · subst e
      rw [pk_us]
      exact ⟨fun _ => rfl, fun w => absurd ⟨i, by omega, et, en, hc⟩ w⟩
    · rw [pk_un e, tu_ex (fun z => e ((nI_eq (by omega) (by omega)).mp (et.symm.trans z.1)).symm)]
      exact h2 x hx
  · by_cases e : x = y
    · subst e
      rw [pk_us]
      refine Or.inr ⟨i, by omega, et, en, hc, ?_⟩
      rcases h3 x hx with z | ⟨s, hs, z1, _, z3, _⟩
      · rw [z]
      · exact absurd z3 (fun w => hun s hs z1 w)
    · rw [pk_un e]
      rcases h3 x hx with z | ⟨s, hs, z⟩
      · exact Or.inl z
      · exact Or.inr ⟨s, by omega, z⟩
theorem tu_next (h : tu_CM c n i tM f1 tx rs cs pd nx lX aa rm2 fl1 mx1 fR rm fl mx) (hi : i < n) (hn : n ≤ 16) (hc : tu_cp rs lX rm2 i) {m : Nat} (hm : m < n) (en : nx i = nI m) (epd : pd m = nI i) (hpd : ∀ s, s < n → ¬ pd s = -1 → nx (pd s).toNatClampNeg = nI s) : tu_CM c n (i + 1) tM f1 tx rs cs pd nx lX aa rm2 fl1 mx1 (ti_fr i fR) (upd rm m (cs m)) fl mx := by
  obtain ⟨h1, h2, h3, h4⟩ := h
  refine ⟨fun s hs => ?_, fun x hx => ?_, fun x hx => ?_, tu_fr (by omega) h4 hc⟩
  · by_cases q : s = m
    · subst q
      rw [pk_us]
      refine ⟨fun _ => rfl, fun w => absurd ⟨by rw [epd]; exact bs_ne (by omega), by rw [epd, nI_clamp (by omega)]; omega, by rw [epd, nI_clamp (by omega)]; exact hc⟩ w⟩
    · rw [pk_un q]
      obtain ⟨a, b⟩ := h1 s hs
      refine ⟨fun z => a ⟨z.1, ?_, z.2.2⟩, fun z => b (fun w => z ⟨w.1, by have := w.2.1; omega, w.2.2⟩)⟩
      by_cases e : (pd s).toNatClampNeg = i
      · have := hpd s hs z.1
        rw [e, en] at this
        exact absurd ((nI_eq (by omega) (by omega)).mp this).symm q
      · have := z.2.1; omega
  · rw [tu_ex (fun z => bs_ne (i := m) (by omega) (en.symm.trans z.2.1))]
    exact h2 x hx
  · rcases h3 x hx with z | ⟨s, hs, z⟩
    · exact Or.inl z
    · exact Or.inr ⟨s, by omega, z⟩
end
theorem tu_cmp {post : St2 → Prop} (hc : c ≤ 8) (hn : n ≤ 16) (hp4 : p ≤ 4) (ht : ∀ s, s < n → ∃ y, y < c ∧ tx s = nI y) (hr : ∀ s, s < n → rs s = 8 ∨ ∃ q, q < p ∧ rs s = nI q) (hcs : ∀ s, s < n → ¬ cs s = 0)
    (hpd : ∀ s, s < n → ¬ pd s = -1 → (pd s).toNatClampNeg < s ∧ tx (pd s).toNatClampNeg = tx s ∧ nx (pd s).toNatClampNeg = nI s) (hnx : ∀ s, s < n → nx s = -1 ∨ ∃ m, m < n ∧ nx s = nI m ∧ pd m = nI s)
    {f1 : Int32} {rm2 fl1 mx1 : Nat → Int32} (hU : ∀ s q, s < n → q < n → tx s = tx q → lX (rs s).toNatClampNeg = nI s → lX (rs q).toNatClampNeg = nI q → s = q)
    (hp : ∀ (fR' : Int32) (fl' co' mx' rm' sX' : Nat → Int32), tu_CM c n n tM f1 tx rs cs pd nx lX aa rm2 fl1 mx1 fR' rm' fl' mx' → post (pN, pK, tC, nI n, sT, tM, fR', pe, dl, hd, tl, os, ga, tx, rs, cs, pr, pd, nx, bX, na, fl', aa, co', ov, mx', rm', sX', lX)) :
    ∀ (d i : Nat) (fR : Int32) (fl co mx rm sX : Nat → Int32), i + d = n → tu_CM c n i tM f1 tx rs cs pd nx lX aa rm2 fl1 mx1 fR rm fl mx → wX_takeCompletions_2 post (d + 1) (nI i) pN pK tC (nI n) sT tM fR pe dl hd tl os ga tx rs cs pr pd nx bX na fl aa co ov mx rm sX lX := by
  intro d
  induction d with
  | zero =>
    intro i fR fl co mx rm sX hi hcm
    have e : i = n := by omega
    subst e
    exact br_t (nI_le (by omega) (by omega)) (hp fR fl co mx rm sX hcm)
  | succ d ih =>
    intro i fR fl co mx rm sX hi hcm
    have g : ¬ nI n ≤ nI i := nI_ge (by omega) (by omega)
    have k : vp_in (nI i) 16 := vp_in_nI (by omega) (by omega)
    have cl : (nI i).toNatClampNeg = i := nI_clamp (by omega)
    have k9 : vp_in (rs i) 9 := by
      rcases hr i (by omega) with e | ⟨q, hq, e⟩
      · rw [e]; exact vp_in_nI (n := 8) (by omega) (by omega)
      · rw [e]; exact vp_in_nI (by omega) (by omega)
    have hpx : ∀ s, s < n → ¬ pd s = -1 → nx (pd s).toNatClampNeg = nI s := fun s hs z => (hpd s hs z).2.2
    refine br_f g ⟨k, ?_⟩
    rw [cl]
    refine ⟨k9, ?_⟩
    by_cases w : lX (rs i).toNatClampNeg = nI i
    · -- nothing before it in its chain worked
      have er : rm i = rm2 i := (hcm.1 i (by omega)).2 (fun z => by
        obtain ⟨a1, a2, a3⟩ := hpd i (by omega) z.1
        have := hU _ i (by omega) (by omega) a2 z.2.2.1 w
        omega)
      refine br_t w ⟨k, ?_⟩
      by_cases z : rm i = 0
      · have hcp : tu_cp rs lX rm2 i := ⟨w, by rw [← er]; exact z⟩
        obtain ⟨y, hy, et⟩ := ht i (by omega)
        refine br_t z ?_
        rcases hnx i (by omega) with en | ⟨m, hm, en, epd⟩
        · exact ti_xc (by omega) (by omega) et (ti_xc50t (by omega) (by omega) en (nm_r (nI_1 i) (ih (i + 1) _ _ _ _ _ _ (by omega) (tu_tail hcm (by omega) hn hcp hy hc et en hpx (fun s hs e1 e2 => by
            have := hU s i (by omega) (by omega) (by rw [e1, et]) e2.1 w
            omega)))))
        · exact ti_xc (by omega) (by omega) et (ti_xc50n (by omega) (by omega) en (nm_r (nI_1 i) (ih (i + 1) _ _ _ _ _ _ (by omega) (tu_next hcm (by omega) hn hcp hm en epd hpx))))
      · exact br_f z (nm_r (nI_1 i) (ih (i + 1) _ _ _ _ _ _ (by omega) (tu_skip hcm (fun q => z (by rw [er]; exact q.2)))))
    · exact br_f w (nm_r (nI_1 i) (ih (i + 1) _ _ _ _ _ _ (by omega) (tu_skip hcm (fun q => w q.1))))
end
