/-! the analysis: both rise to the least fixpoint -/
section
variable {n : Nat} {pe dl tx rs cs pr pd : Nat → Int32} {R Q : Nat → Nat}
/-- R is a vector on the way up -/
abbrev an_I (n : Nat) (pe dl tx rs cs pr pd : Nat → Int32) (R : Nat → Nat) : Prop := fx_Inv n rs pr pd (an_C cs) (an_T pe tx) (an_T dl tx) R
abbrev an_F (n : Nat) (pe dl tx rs cs pr pd : Nat → Int32) (R : Nat → Nat) (s r : Nat) : Prop := fx_Fr n rs pr pd (an_C cs) (an_T pe tx) (an_T dl tx) R s r
theorem an_mu (hn : n ≤ 16) : fx_mu R n ≤ 3216 := Nat.le_trans (fx_mu_max R n) (by omega)
end
section
variable {pN pK sT tM fR tC sC : Int32} {c n p kk : Nat} {pe dl hd tl os ga tx rs cs pr pd nx bX na fl aa co ov mx rm sX lX sY dY bY nY lY : Nat → Int32} {R : Nat → Nat}
/-! the component's passes -/
theorem an_xr4 {post : Int32 → SX → Prop} {R0 : Nat → Nat} (h : an_H n pe dl tx cs pd)
    (hp : ∀ (R : Nat → Nat) (b : Nat → Int32) (r : Int32), an_I n pe dl tx rs cs pr pd R → (∀ j, j < n → b j = rl_en (R j)) → (∀ j, j < n → R0 j ≤ R j) → ((r = 0 ∧ ∀ j, j < n → an_F n pe dl tx rs cs pr pd R j (R j)) ∨ (r = 1 ∧ ∃ j, j < n ∧ R0 j ≠ R j)) → post r (pN, pK, tC, nI n, sT, tM, fR, pe, dl, hd, tl, os, ga, tx, rs, cs, pr, pd, nx, b, na, fl, aa, co, ov, mx, rm, sX, lX)) :
    ∀ (d i : Nat) (R : Nat → Nat) (bX : Nat → Int32) (r : Int32), i + d = n → an_I n pe dl tx rs cs pr pd R → (∀ j, j < n → bX j = rl_en (R j)) → (∀ j, j < n → R0 j ≤ R j) → ((r = 0 ∧ ∀ j, j < i → an_F n pe dl tx rs cs pr pd R j (R j)) ∨ (r = 1 ∧ ∃ j, j < n ∧ R0 j ≠ R j)) →
      wX_raiseBounds_4 post pN pK tC (nI n) sT tM fR (d + 1) r (nI i) pe dl hd tl os ga tx rs cs pr pd nx bX na fl aa co ov mx rm sX lX := by
  have hn := h.1
  have hcf := an_cf h
  intro d
  induction d with
  | zero =>
    intro i R bX r hi hI hb hle hst
    have e : i = n := by omega
    subst e
    refine br_t (nI_le (by omega) (by omega)) ⟨?_, hp R bX r hI hb hle hst⟩
    rcases hst with ⟨rfl, _⟩ | ⟨rfl, _⟩ <;> rfl
  | succ d ih =>
    intro i R bX r hi hI hb hle hst
    have k : vp_in (nI i) 16 := vp_in_nI (by omega) (by omega)
    refine br_f (nI_ge (by omega) (by omega)) (an_xask h hI.1 hb (by omega : i < n) (fun a ha => ⟨k, ?_⟩))
    rw [nI_clamp (by omega), hb i (by omega)]
    have va := fx_val hcf (by omega : i < n) ha
    have vR := hI.1 i (by omega)
    by_cases e : a = R i
    · refine br_t (by rw [e]) (nm_r (nI_1 i) (ih (i + 1) R bX r (by omega) hI hb hle ?_))
      rcases hst with ⟨e0, hF⟩ | z
      · refine Or.inl ⟨e0, fun j hj => ?_⟩
        by_cases q : j = i
        · rw [q, ← e]; exact ha
        · exact hF j (by omega)
      · exact Or.inr z
    · have ⟨hra, hI'⟩ := fx_step hcf hI (by omega : i < n) ha
      refine br_f (fun z => e ((an_en_inj va vR).mp z)) ⟨k, nm_e (nm_r (nI_1 i) (ih (i + 1) (fun t => if t = i then a else R t) (upd bX i (rl_en a)) 1 (by omega) hI' (fun j hj => ?_) (fun j hj => ?_) (Or.inr ⟨rfl, i, by omega, ?_⟩)))⟩
      · show upd bX i (rl_en a) j = rl_en (if j = i then a else R j)
        by_cases q : j = i
        · rw [if_pos q, q, pk_us]
        · rw [if_neg q, pk_un q]; exact hb j hj
      · show R0 j ≤ if j = i then a else R j
        by_cases q : j = i
        · rw [if_pos q, q]; exact Nat.le_trans (hle i (by omega)) hra
        · rw [if_neg q]; exact hle j hj
      · show R0 i ≠ if i = i then a else R i
        rw [if_pos rfl]
        have := hle i (by omega)
        omega
theorem an_xab2 {post : Int32 → Prop} (hn : n ≤ 16) (hR : fx_VL n R) (hb : ∀ i, i < n → bX i = rl_en (R i)) (h1 : (∀ j, j < n → ¬ R j = 1000000) → post 1) (h0 : (¬ ∀ j, j < n → ¬ R j = 1000000) → post 0) : ∀ d i, i + d = n → (∀ j, j < i → ¬ R j = 1000000) → wX_areAllBounded_2 post pN pK tC (nI n) sT tM fR pe dl hd tl os ga tx rs cs pr pd nx bX na fl aa co ov mx rm sX lX (d + 1) (nI i) := by
  intro d
  induction d with
  | zero =>
    intro i hi ha
    have e : i = n := by omega
    subst e
    exact br_t (nI_le (by omega) (by omega)) (h1 ha)
  | succ d ih =>
    intro i hi ha
    refine br_f (nI_ge (by omega) (by omega)) ⟨vp_in_nI (by omega) (by omega), ?_⟩
    rw [nI_clamp (by omega), hb i (by omega)]
    have v := hR i (by omega)
    by_cases e : R i = 1000000
    · exact br_t ((an_en v).mpr e) (h0 (fun z => z i (by omega) e))
    · refine br_f (fun z => e ((an_en v).mp z)) (nm_r (nI_1 i) (ih (i + 1) (by omega) (fun j hj => ?_)))
      by_cases q : j = i
      · rw [q]; exact e
      · exact ha j (by omega)
theorem an_x58 {post : Int32 → SX → Prop} (hn : n ≤ 16) (hR : fx_VL n R) (hb : ∀ i, i < n → bX i = rl_en (R i)) (h1 : (∀ j, j < n → ¬ R j = 1000000) → post 1 (pN, pK, tC, nI n, 1, tM, fR, pe, dl, hd, tl, os, ga, tx, rs, cs, pr, pd, nx, bX, na, fl, aa, co, ov, mx, rm, sX, lX)) (h2 : (¬ ∀ j, j < n → ¬ R j = 1000000) → post 2 (pN, pK, tC, nI n, 2, tM, fR, pe, dl, hd, tl, os, ga, tx, rs, cs, pr, pd, nx, bX, na, fl, aa, co, ov, mx, rm, sX, lX)) : wX_analyse_58 post pN pK tC (nI n) sT tM fR pe dl hd tl os ga tx rs cs pr pd nx bX na fl aa co ov mx rm sX lX := by
  unfold wX_analyse_58
  exact ⟨n + 1, an_xab2 hn hR hb (fun z => br_f sm_1 (h1 z)) (fun z => br_t rfl (h2 z)) n 0 (by omega) (fun j hj => by omega)⟩
/-- what the component's analysis ends with -/
theorem an_x37 {post : Int32 → SX → Prop} (h : an_H n pe dl tx cs pd)
    (hp : ∀ (R : Nat → Nat) (b : Nat → Int32), an_I n pe dl tx rs cs pr pd R → (∀ j, j < n → an_F n pe dl tx rs cs pr pd R j (R j)) → (∀ j, j < n → b j = rl_en (R j)) → ((∀ j, j < n → ¬ R j = 1000000) → post 1 (pN, pK, tC, nI n, 1, tM, fR, pe, dl, hd, tl, os, ga, tx, rs, cs, pr, pd, nx, b, na, fl, aa, co, ov, mx, rm, sX, lX)) ∧ ((¬ ∀ j, j < n → ¬ R j = 1000000) → post 2 (pN, pK, tC, nI n, 2, tM, fR, pe, dl, hd, tl, os, ga, tx, rs, cs, pr, pd, nx, b, na, fl, aa, co, ov, mx, rm, sX, lX))) :
    ∀ (m i : Nat) (R : Nat → Nat) (bX : Nat → Int32), 3217 ≤ fx_mu R n + m → i ≤ fx_mu R n → an_I n pe dl tx rs cs pr pd R → (∀ j, j < n → bX j = rl_en (R j)) → wX_analyse_37 post (m + 1) 1 (nI i) pN pK tC (nI n) sT tM fR pe dl hd tl os ga tx rs cs pr pd nx bX na fl aa co ov mx rm sX lX := by
  have hn := h.1
  intro m
  induction m with
  | zero =>
    intro i R bX hm hi hI hb
    have := an_mu (R := R) hn
    omega
  | succ m ih =>
    intro i R bX hm hi hI hb
    have mb := an_mu (R := R) hn
    refine br_f sm_1 (br_f (nI_ge (a := i) (b := 1000000) (by omega) (by omega)) ?_)
    refine ⟨n + 1, an_xr4 (R0 := R) h (fun R' b' r' hI' hb' hle' hst' => ?_) n 0 R bX 0 (by omega) hI hb (fun j _ => Nat.le_refl _) (Or.inl ⟨rfl, fun j hj => by omega⟩)⟩
    refine nm_r (nI_1 i) ?_
    rcases hst' with ⟨rfl, hF⟩ | ⟨rfl, j, hj, hne⟩
    · obtain ⟨p1, p2⟩ := hp R' b' hI' hF hb'
      exact br_t rfl (an_x58 hn hI'.1 hb' p1 p2)
    · have lt := fx_mu_lt hI.1 hI'.1 n (Nat.le_refl n) hle' j hj hne
      exact ih (i + 1) R' b' (by omega) (by omega) hI' hb'
theorem an_x12 {post : Int32 → SX → Prop} (hn : n ≤ 16) : ∀ d i, i + d = n → (∃ m, wX_analyse_37 post m 1 0 pN pK tC (nI n) sT tM fR pe dl hd tl os ga tx rs cs pr pd nx (bs_mz bX (fun _ => 0) n) na fl aa co ov mx rm sX lX) → wX_analyse_12 post pN pK tC (nI n) sT tM fR (d + 1) (nI i) pe dl hd tl os ga tx rs cs pr pd nx (bs_mz bX (fun _ => 0) i) na fl aa co ov mx rm sX lX := by
  intro d
  induction d with
  | zero =>
    intro i hi hp
    have e : i = n := by omega
    subst e
    exact br_t (nI_le (by omega) (by omega)) hp
  | succ d ih =>
    intro i hi hp
    exact br_f (nI_ge (by omega) (by omega)) ⟨vp_in_nI (by omega) (by omega), nm_r (rs_sv (by omega)) (nm_r (nI_1 i) (ih (i + 1) (by omega) hp))⟩
theorem an_xana {post : Int32 → SX → Prop} (h : an_H n pe dl tx cs pd)
    (hp : ∀ (R : Nat → Nat) (b : Nat → Int32), an_I n pe dl tx rs cs pr pd R → (∀ j, j < n → an_F n pe dl tx rs cs pr pd R j (R j)) → (∀ j, j < n → b j = rl_en (R j)) → ((∀ j, j < n → ¬ R j = 1000000) → post 1 (pN, pK, tC, nI n, 1, tM, fR, pe, dl, hd, tl, os, ga, tx, rs, cs, pr, pd, nx, b, na, fl, aa, co, ov, mx, rm, sX, lX)) ∧ ((¬ ∀ j, j < n → ¬ R j = 1000000) → post 2 (pN, pK, tC, nI n, 2, tM, fR, pe, dl, hd, tl, os, ga, tx, rs, cs, pr, pd, nx, b, na, fl, aa, co, ov, mx, rm, sX, lX))) :
    ∃ m, wX_analyse_12 post pN pK tC (nI n) sT tM fR m 0 pe dl hd tl os ga tx rs cs pr pd nx bX na fl aa co ov mx rm sX lX := by
  have hn := h.1
  have z := an_x37 (post := post) (pN := pN) (pK := pK) (tC := tC) (sT := sT) (tM := tM) (fR := fR) (hd := hd) (tl := tl) (os := os) (ga := ga) (nx := nx) (na := na) (fl := fl) (aa := aa) (co := co) (ov := ov) (mx := mx) (rm := rm) (sX := sX) (lX := lX) h hp 3217 0 (fun _ => 0) (bs_mz bX (fun _ => 0) n) (by omega) (by omega) (fx_inv0 (fun _ _ => rfl)) (fun j hj => by rw [bs_mz_lt hj]; rfl)
  have y := an_x12 (post := post) (pN := pN) (pK := pK) (tC := tC) (sT := sT) (tM := tM) (fR := fR) (pe := pe) (dl := dl) (hd := hd) (tl := tl) (os := os) (ga := ga) (tx := tx) (rs := rs) (cs := cs) (pr := pr) (pd := pd) (nx := nx) (bX := bX) (na := na) (fl := fl) (aa := aa) (co := co) (ov := ov) (mx := mx) (rm := rm) (sX := sX) (lX := lX) hn n 0 (by omega) ⟨_, z⟩
  rw [bs_mz0] at y
  exact ⟨_, y⟩
/-! the reference's passes -/
theorem an_y131 {post : Int32 → SY → Prop} (hn : n ≤ 16) (hR : fx_VL n R) (hb : ∀ i, i < n → bY i = nI (R i)) (h1 : (∀ j, j < n → ¬ R j = 1000000) → post 1 (pN, pK, tC, nI n, 1, tM, fR, pe, dl, os, ga, na, aa, co, ov, mx, fl, tx, rs, cs, pr, rm, sY, dY, bY, nY, lY)) (h2 : (¬ ∀ j, j < n → ¬ R j = 1000000) → post 2 (pN, pK, tC, nI n, 2, tM, fR, pe, dl, os, ga, na, aa, co, ov, mx, fl, tx, rs, cs, pr, rm, sY, dY, bY, nY, lY)) : ∀ (d i : Nat) (r : Int32), i + d = n → ((r = 1 ∧ ∀ j, j < i → ¬ R j = 1000000) ∨ (r = 2 ∧ ¬ ∀ j, j < n → ¬ R j = 1000000)) → wY_analyse_131 post pN pK tC (nI n) sT tM fR pe dl os ga na aa co ov mx fl tx rs cs pr rm sY dY bY nY lY (d + 1) r (nI i) := by
  intro d
  induction d with
  | zero =>
    intro i r hi hst
    have e : i = n := by omega
    subst e
    refine br_t (nI_le (by omega) (by omega)) ?_
    rcases hst with ⟨rfl, z⟩ | ⟨rfl, z⟩
    · exact h1 z
    · exact h2 z
  | succ d ih =>
    intro i r hi hst
    refine br_f (nI_ge (by omega) (by omega)) ⟨vp_in_nI (by omega) (by omega), ?_⟩
    rw [nI_clamp (by omega), hb i (by omega)]
    have v := hR i (by omega)
    by_cases e : R i = 1000000
    · exact br_t ((rl_inf v).mpr e) (nm_r (nI_1 i) (ih (i + 1) 2 (by omega) (Or.inr ⟨rfl, fun z => z i (by omega) e⟩)))
    · refine br_f (fun z => e ((rl_inf v).mp z)) (nm_r (nI_1 i) (ih (i + 1) r (by omega) ?_))
      rcases hst with ⟨e1, z⟩ | z
      · refine Or.inl ⟨e1, fun j hj => ?_⟩
        by_cases q : j = i
        · rw [q]; exact e
        · exact z j (by omega)
      · exact Or.inr z
abbrev an_J33 : Type := Int32 → (Nat → Int32) → (Nat → Int32) → (Nat → Int32) → (Nat → Int32) → (Nat → Int32) → (Nat → Int32) → (Nat → Int32) → (Nat → Int32) → (Nat → Int32) → (Nat → Int32) → (Nat → Int32) → (Nat → Int32) → (Nat → Int32) → (Nat → Int32) → (Nat → Int32) → (Nat → Int32) → (Nat → Int32) → (Nat → Int32) → (Nat → Int32) → (Nat → Int32) → Prop
theorem an_y71 {post : Int32 → SY → Prop} {J : an_J33} {x1 : Int32} {Q : Nat → Nat} (hn : n ≤ 16) (hR : fx_VL n R) (hQ : fx_VL n Q) (hq : ∀ i, i < n → nY i = nI (Q i))
    (h0 : ∀ b : Nat → Int32, (∀ j, j < n → b j = nI (Q j)) → (∀ j, j < n → Q j = R j) → ∃ m, wY_analyse_131 post pN pK tC (nI n) sT tM fR pe dl os ga na aa co ov mx fl tx rs cs pr rm sY dY b nY lY m 1 0)
    (h1 : ∀ b : Nat → Int32, (∀ j, j < n → b j = nI (Q j)) → (∃ j, j < n ∧ R j ≠ Q j) → J (x1 + 1) pe dl os ga na aa co ov mx fl tx rs cs pr rm sY dY b nY lY) :
    ∀ (d i : Nat) (bY : Nat → Int32) (r : Int32), i + d = n → (∀ j, j < i → bY j = nI (Q j)) → (∀ j, i ≤ j → j < n → bY j = nI (R j)) → ((r = 0 ∧ ∀ j, j < i → Q j = R j) ∨ (r = 1 ∧ ∃ j, j < n ∧ R j ≠ Q j)) → wY_analyse_71 post J x1 pN pK tC (nI n) sT tM fR (d + 1) r (nI i) pe dl os ga na aa co ov mx fl tx rs cs pr rm sY dY bY nY lY := by
  intro d
  induction d with
  | zero =>
    intro i bY r hi hb1 hb2 hst
    have e : i = n := by omega
    subst e
    refine br_t (nI_le (by omega) (by omega)) ?_
    rcases hst with ⟨rfl, z⟩ | ⟨rfl, z⟩
    · exact br_t rfl (h0 bY hb1 z)
    · exact br_f sm_1 (nm_e (h1 bY hb1 z))
  | succ d ih =>
    intro i bY r hi hb1 hb2 hst
    have k : vp_in (nI i) 16 := vp_in_nI (by omega) (by omega)
    have cl : (nI i).toNatClampNeg = i := nI_clamp (by omega)
    have nb1 : ∀ j, j < i + 1 → upd bY i (nI (Q i)) j = nI (Q j) := by
      intro j hj
      by_cases q : j = i
      · rw [q, pk_us]
      · rw [pk_un q]; exact hb1 j (by omega)
    have nb2 : ∀ j, i + 1 ≤ j → j < n → upd bY i (nI (Q i)) j = nI (R j) := by
      intro j hj hj'
      rw [pk_un (by omega)]; exact hb2 j (by omega) hj'
    refine br_f (nI_ge (by omega) (by omega)) ⟨k, k, ?_⟩
    rw [cl, hq i (by omega), hb2 i (Nat.le_refl i) (by omega)]
    have vQ := hQ i (by omega)
    have vR := hR i (by omega)
    by_cases e : Q i = R i
    · refine br_t (by rw [e]) ⟨k, k, nm_r (by rw [cl, hq i (by omega)]) (nm_r (nI_1 i) (ih (i + 1) (upd bY i (nI (Q i))) r (by omega) nb1 nb2 ?_))⟩
      rcases hst with ⟨e0, z⟩ | z
      · refine Or.inl ⟨e0, fun j hj => ?_⟩
        by_cases q : j = i
        · rw [q]; exact e
        · exact z j (by omega)
      · exact Or.inr z
    · exact br_f (fun z => e ((nI_eq (by omega) (by omega)).mp z)) ⟨k, k, nm_r (by rw [cl, hq i (by omega)]) (nm_r (nI_1 i) (ih (i + 1) (upd bY i (nI (Q i))) 1 (by omega) nb1 nb2 (Or.inr ⟨rfl, i, by omega, fun z => e z.symm⟩)))⟩
theorem an_y42 {post : Int32 → SY → Prop} {J : an_J33} {x1 : Int32} (h : an_H n pe dl tx cs pd) (hpd : ∀ s, s < n → pd s = sn_L tx (tx s) s) (hR : fx_VL n R) (hb : ∀ i, i < n → bY i = nI (R i))
    (hp : ∀ (Q : Nat → Nat) (q : Nat → Int32), (∀ j, j < n → an_F n pe dl tx rs cs pr pd R j (Q j)) → (∀ j, j < n → q j = nI (Q j)) → ∃ m, wY_analyse_71 post J x1 pN pK tC (nI n) sT tM fR m 0 0 pe dl os ga na aa co ov mx fl tx rs cs pr rm sY dY bY q lY) :
    ∀ (d i : Nat) (Q : Nat → Nat) (nY : Nat → Int32), i + d = n → (∀ j, j < i → an_F n pe dl tx rs cs pr pd R j (Q j)) → (∀ j, j < i → nY j = nI (Q j)) → wY_analyse_42 post J x1 pN pK tC (nI n) sT tM fR (d + 1) (nI i) pe dl os ga na aa co ov mx fl tx rs cs pr rm sY dY bY nY lY := by
  have hn := h.1
  intro d
  induction d with
  | zero =>
    intro i Q nY hi hF hq
    have e : i = n := by omega
    subst e
    exact br_t (nI_le (by omega) (by omega)) (hp Q nY hF hq)
  | succ d ih =>
    intro i Q nY hi hF hq
    refine br_f (nI_ge (by omega) (by omega)) (an_yraw h hR hpd hb (by omega : i < n) (fun a ha => ⟨vp_in_nI (by omega) (by omega), nm_r (cf_up (by omega)) (nm_r (nI_1 i) (ih (i + 1) (fun t => if t = i then a else Q t) (upd nY i (nI a)) (by omega) (fun j hj => ?_) (fun j hj => ?_)))⟩))
    · show an_F n pe dl tx rs cs pr pd R j (if j = i then a else Q j)
      by_cases q : j = i
      · rw [if_pos q, q]; exact ha
      · rw [if_neg q]; exact hF j (by omega)
    · show upd nY i (nI a) j = nI (if j = i then a else Q j)
      by_cases q : j = i
      · rw [if_pos q, q, pk_us]
      · rw [if_neg q, pk_un q]; exact hq j (by omega)
theorem an_y33 {post : Int32 → SY → Prop} (h : an_H n pe dl tx cs pd) (hpd : ∀ s, s < n → pd s = sn_L tx (tx s) s)
    (hp : ∀ (R : Nat → Nat) (b q : Nat → Int32), an_I n pe dl tx rs cs pr pd R → (∀ j, j < n → an_F n pe dl tx rs cs pr pd R j (R j)) → (∀ j, j < n → b j = nI (R j)) → ((∀ j, j < n → ¬ R j = 1000000) → post 1 (pN, pK, tC, nI n, 1, tM, fR, pe, dl, os, ga, na, aa, co, ov, mx, fl, tx, rs, cs, pr, rm, sY, dY, b, q, lY)) ∧ ((¬ ∀ j, j < n → ¬ R j = 1000000) → post 2 (pN, pK, tC, nI n, 2, tM, fR, pe, dl, os, ga, na, aa, co, ov, mx, fl, tx, rs, cs, pr, rm, sY, dY, b, q, lY))) :
    ∀ (m i : Nat) (R : Nat → Nat) (bY nY : Nat → Int32), 3217 ≤ fx_mu R n + m → i ≤ fx_mu R n → an_I n pe dl tx rs cs pr pd R → (∀ j, j < n → bY j = nI (R j)) → wY_analyse_33 post pN pK tC (nI n) sT tM fR (m + 1) (nI i) pe dl os ga na aa co ov mx fl tx rs cs pr rm sY dY bY nY lY := by
  have hn := h.1
  have hcf := an_cf h
  intro m
  induction m with
  | zero =>
    intro i R bY nY hm hi hI hb
    have := an_mu (R := R) hn
    omega
  | succ m ih =>
    intro i R bY nY hm hi hI hb
    have mb := an_mu (R := R) hn
    refine br_f (nI_ge (a := i) (b := 5000) (by omega) (by omega)) ⟨n + 1, an_y42 h hpd hI.1 hb (fun Q q hF hq => ⟨n + 1, ?_⟩) n 0 (fun _ => 0) nY (by omega) (fun j hj => by omega) (fun j hj => by omega)⟩
    obtain ⟨hle, hI'⟩ := fx_steps hcf hI hF
    refine an_y71 hn hI.1 hI'.1 hq (fun b hb' he => ?_) (fun b hb' hne => ?_) n 0 bY 0 (by omega) (fun j hj => by omega) (fun j _ hj => hb j hj) (Or.inl ⟨rfl, fun j hj => by omega⟩)
    · have hF' : ∀ j, j < n → an_F n pe dl tx rs cs pr pd R j (R j) := fun j hj => by
        have := hF j hj
        rw [he j hj] at this
        exact this
      have hb2 : ∀ j, j < n → b j = nI (R j) := fun j hj => by rw [hb' j hj, he j hj]
      obtain ⟨p1, p2⟩ := hp R b q hI hF' hb2
      exact ⟨n + 1, an_y131 hn hI.1 hb2 p1 p2 n 0 1 (by omega) (Or.inl ⟨rfl, fun j hj => by omega⟩)⟩
    · obtain ⟨j, hj, ne⟩ := hne
      have lt := fx_mu_lt hI.1 hI'.1 n (Nat.le_refl n) hle j hj ne
      rw [nI_1]
      exact ih (i + 1) Q b q (by omega) (by omega) hI' hb'
theorem an_y12 {post : Int32 → SY → Prop} {sC : Int32} : ∀ d i, i + d = 16 → (∃ m, wY_analyse_33 post pN pK tC sC sT tM fR m 0 pe dl os ga na aa co ov mx fl tx rs cs pr rm sY dY (bs_mz bY (fun _ => 0) 16) nY lY) → wY_analyse_12 post pN pK tC sC sT tM fR (d + 1) (nI i) pe dl os ga na aa co ov mx fl tx rs cs pr rm sY dY (bs_mz bY (fun _ => 0) i) nY lY := by
  intro d
  induction d with
  | zero =>
    intro i hi hp
    have e : i = 16 := by omega
    subst e
    exact br_t (nI_le (a := 16) (b := 16) (by omega) (by omega)) hp
  | succ d ih =>
    intro i hi hp
    exact br_f (nI_ge (a := i) (b := 16) (by omega) (by omega)) ⟨vp_in_nI (by omega) (by omega), nm_r (rs_sv (by omega)) (nm_r (nI_1 i) (ih (i + 1) (by omega) hp))⟩
theorem an_yana {post : Int32 → SY → Prop} (h : an_H n pe dl tx cs pd) (hpd : ∀ s, s < n → pd s = sn_L tx (tx s) s)
    (hp : ∀ (R : Nat → Nat) (b q : Nat → Int32), an_I n pe dl tx rs cs pr pd R → (∀ j, j < n → an_F n pe dl tx rs cs pr pd R j (R j)) → (∀ j, j < n → b j = nI (R j)) → ((∀ j, j < n → ¬ R j = 1000000) → post 1 (pN, pK, tC, nI n, 1, tM, fR, pe, dl, os, ga, na, aa, co, ov, mx, fl, tx, rs, cs, pr, rm, sY, dY, b, q, lY)) ∧ ((¬ ∀ j, j < n → ¬ R j = 1000000) → post 2 (pN, pK, tC, nI n, 2, tM, fR, pe, dl, os, ga, na, aa, co, ov, mx, fl, tx, rs, cs, pr, rm, sY, dY, b, q, lY))) :
    ∃ m, wY_analyse_12 post pN pK tC (nI n) sT tM fR m 0 pe dl os ga na aa co ov mx fl tx rs cs pr rm sY dY bY nY lY := by
  have hn := h.1
  have z := an_y33 (post := post) (pN := pN) (pK := pK) (tC := tC) (sT := sT) (tM := tM) (fR := fR) (os := os) (ga := ga) (na := na) (fl := fl) (aa := aa) (co := co) (ov := ov) (mx := mx) (rm := rm) (sY := sY) (dY := dY) (lY := lY) h hpd hp 3217 0 (fun _ => 0) (bs_mz bY (fun _ => 0) 16) nY (by omega) (by omega) (fx_inv0 (fun _ _ => rfl)) (fun j hj => by rw [bs_mz_lt (by omega)]; rfl)
  have y := an_y12 (post := post) (pN := pN) (pK := pK) (tC := tC) (sC := nI n) (sT := sT) (tM := tM) (fR := fR) (pe := pe) (dl := dl) (os := os) (ga := ga) (na := na) (fl := fl) (aa := aa) (co := co) (ov := ov) (mx := mx) (tx := tx) (rs := rs) (cs := cs) (pr := pr) (rm := rm) (sY := sY) (dY := dY) (bY := bY) (nY := nY) (lY := lY) 16 0 rfl ⟨_, z⟩
  rw [bs_mz0] at y
  exact ⟨_, y⟩
end
