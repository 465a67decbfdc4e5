/-! the component: the analysis -/
def an_C (cs : Nat → Int32) (s : Nat) : Nat := (cs s).toNatClampNeg
def an_T (pe tx : Nat → Int32) (s : Nat) : Nat := (pe (tx s).toNatClampNeg).toNatClampNeg
def an_H (n : Nat) (pe dl tx cs pd : Nat → Int32) : Prop :=
  n ≤ 16 ∧ (∀ j, j < n → pd j = -1 ∨ ∃ q, q < n ∧ pd j = nI q) ∧ (∀ s, s < n → ∃ y, y < 8 ∧ tx s = nI y) ∧
  (∀ s, s < n → cs s = nI (an_C cs s) ∧ 1 ≤ an_C cs s ∧ an_C cs s ≤ 20) ∧
  (∀ s, s < n → pe (tx s).toNatClampNeg = nI (an_T pe tx s) ∧ 1 ≤ an_T pe tx s ∧ an_T pe tx s ≤ 200) ∧
  (∀ s, s < n → dl (tx s).toNatClampNeg = nI (an_T dl tx s) ∧ 1 ≤ an_T dl tx s ∧ an_T dl tx s ≤ 200)
theorem an_v {x : Int32} {m : Nat} (hm : m < 2 ^ 31) (h : ∃ v, 1 ≤ v ∧ v ≤ m ∧ x = nI v) : x = nI x.toNatClampNeg ∧ 1 ≤ x.toNatClampNeg ∧ x.toNatClampNeg ≤ m := by
  obtain ⟨v, h1, h2, rfl⟩ := h
  rw [nI_clamp (by omega)]
  exact ⟨rfl, h1, h2⟩
section
variable {n : Nat} {pe dl tx rs cs pr pd : Nat → Int32} {R : Nat → Nat}
theorem an_cf (h : an_H n pe dl tx cs pd) : fx_Cf n pd (an_T dl tx) := by
  obtain ⟨h0, h1, _, _, _, h5⟩ := h
  refine ⟨fun j hj => ?_, fun s hs => (h5 s hs).2.2⟩
  rcases h1 j hj with e | ⟨q, hq, e⟩
  · exact Or.inl e
  · exact Or.inr (by rw [e, nI_clamp (by omega)]; exact hq)
theorem an_en {r : Nat} (h : r ≤ 200 ∨ r = 1000000) : rl_en r = -1 ↔ r = 1000000 := by
  rcases rl_en_1 h with ⟨e, e'⟩ | ⟨e, e'⟩
  · exact ⟨fun _ => e, fun _ => e'⟩
  · rw [e']
    exact ⟨fun z => absurd z (bs_ne (by omega)), fun z => by omega⟩
theorem an_en_inj {r q : Nat} (h : r ≤ 200 ∨ r = 1000000) (k : q ≤ 200 ∨ q = 1000000) : rl_en r = rl_en q ↔ r = q := by
  refine ⟨fun z => ?_, fun z => by rw [z]⟩
  rcases rl_en_1 h with ⟨e, e'⟩ | ⟨e, e'⟩
  · rw [e'] at z
    have := (an_en k).mp z.symm
    omega
  · rcases rl_en_1 k with ⟨g, g'⟩ | ⟨g, g'⟩
    · rw [g'] at z
      have := (an_en h).mp z
      omega
    · rw [e', g'] at z
      exact (nI_eq (by omega) (by omega)).mp z
theorem an_fin {r : Nat} (h : r ≤ 200) : rl_en r = nI r := if_neg (by omega)
theorem an_J (h : an_H n pe dl tx cs pd) (hR : fx_VL n R) {j : Nat} (hj : j < n) : fx_J pd R j ≤ 200 ∨ fx_J pd R j = 1000000 := by
  unfold fx_J
  by_cases e : pd j = -1
  · rw [if_pos e]; exact Or.inl (by omega)
  · rw [if_neg e]
    rcases h.2.1 j hj with z | ⟨q, hq, z⟩
    · exact absurd z e
    · rw [z, nI_clamp (by have := h.1; omega)]
      exact hR q hq
theorem an_nb (h : an_H n pe dl tx cs pd) (hR : fx_VL n R) {s : Nat} (hb : ¬ fx_bad n rs pr pd R s) : ∀ j, j < n → (j = s ∨ (rs j = rs s ∧ pr s < pr j)) → fx_J pd R j ≤ 200 := by
  intro j hj hc
  rcases an_J h hR hj with z | z
  · exact z
  · exact absurd ⟨j, hj, hc, z⟩ hb
theorem an_bl (h : an_H n pe dl tx cs pd) {s : Nat} (hs : s < n) : ∀ k, k ≤ n → fx_bl rs pr (an_C cs) s k ≤ 20 := by
  intro k
  induction k with
  | zero => intro _; exact (h.2.2.2.1 s hs).2.2
  | succ k ih =>
    intro hk
    have a := ih (by omega)
    have b := (h.2.2.2.1 k (by omega)).2.2
    simp only [fx_bl]
    split
    · split
      · exact b
      · exact a
    · exact a
theorem an_sm (h : an_H n pe dl tx cs pd) {s sp : Nat} (hsp : sp ≤ 300) (hfin : ∀ j, j < n → rs j = rs s ∧ pr s < pr j → fx_J pd R j ≤ 200) : ∀ k, k ≤ n → fx_sm rs pr (an_C cs) (an_T pe tx) (fx_J pd R) s sp k ≤ k * 14000 := by
  intro k
  induction k with
  | zero => intro _; exact Nat.zero_le _
  | succ k ih =>
    intro hk
    have a := ih (by omega)
    have b := h.2.2.2.1 k (by omega)
    have t := h.2.2.2.2.1 k (by omega)
    simp only [fx_sm]
    by_cases e : rs k = rs s ∧ pr s < pr k
    · rw [if_pos e]
      have j := hfin k (by omega) e
      have d : (sp + fx_J pd R k + an_T pe tx k - 1) / an_T pe tx k ≤ 700 := Nat.le_trans (Nat.div_le_self _ _) (by omega)
      have m : (sp + fx_J pd R k + an_T pe tx k - 1) / an_T pe tx k * an_C cs k ≤ 700 * 20 := Nat.mul_le_mul d b.2.2
      omega
    · rw [if_neg e]; omega
end
def ti_gr (a b : Int32) : Int32 := if a ≤ b then b else a
theorem ti_gr1 {a b : Int32} (h : b ≤ a) : ti_gr a b = a := by
  unfold ti_gr
  by_cases e : a ≤ b
  · rw [if_pos e]; exact Int32.le_antisymm h e
  · rw [if_neg e]
theorem ti_gr2 {a b : Int32} (h : ¬ b ≤ a) : ti_gr a b = b := by
  unfold ti_gr
  rw [if_pos (Int32.le_of_lt (Int32.not_le.mp h))]
section
variable {pN pK sT tM fR tC sC : Int32} {c n p kk : Nat} {pe dl hd tl os ga tx rs cs pr pd nx bX na fl aa co ov mx rm sX lX : Nat → Int32} {R : Nat → Nat}
theorem ti_gx {post : Int32 → Prop} {a b : Int32} (hp : post (ti_gr a b)) : wpX_greater post () a b := by
  unfold ti_gr at hp
  by_cases e : a ≤ b
  · rw [if_pos e] at hp; exact br_t e hp
  · rw [if_neg e] at hp; exact br_f e hp
theorem an_xu {post : Int32 → Prop} {j s : Nat} (hj : j < 16) (hs : s < 16) (h1 : rs j = rs s ∧ pr s < pr j → post 1) (h0 : ¬ (rs j = rs s ∧ pr s < pr j) → post 0) : wpX_isMoreUrgent post (pN, pK, tC, sC, sT, tM, fR, pe, dl, hd, tl, os, ga, tx, rs, cs, pr, pd, nx, bX, na, fl, aa, co, ov, mx, rm, sX, lX) (nI j) (nI s) := by
  have kj : vp_in (nI j) 16 := vp_in_nI hj (by omega)
  have ks : vp_in (nI s) 16 := vp_in_nI hs (by omega)
  refine ⟨kj, ks, ?_⟩
  rw [nI_clamp (by omega), nI_clamp (by omega)]
  by_cases e : rs j = rs s
  · refine br_t e ⟨kj, ks, ?_⟩
    by_cases g : pr j ≤ pr s
    · exact br_t g (h0 (fun z => Int32.not_lt.mpr g z.2))
    · exact br_f g (h1 ⟨e, Int32.not_le.mp g⟩)
  · exact br_f e (h0 (fun z => e z.1))
theorem an_xj {post : Int32 → Prop} {j : Nat} (h : an_H n pe dl tx cs pd) (hb : ∀ i, i < n → bX i = rl_en (R i)) (hj : j < n) (hp : post (rl_en (fx_J pd R j))) : wpX_jitter post (pN, pK, tC, sC, sT, tM, fR, pe, dl, hd, tl, os, ga, tx, rs, cs, pr, pd, nx, bX, na, fl, aa, co, ov, mx, rm, sX, lX) (nI j) := by
  have hn := h.1
  have k : vp_in (nI j) 16 := vp_in_nI (by omega) (by omega)
  refine ⟨k, ?_⟩
  rw [nI_clamp (by omega)]
  unfold fx_J at hp
  by_cases e : pd j = -1
  · rw [if_pos e] at hp
    exact br_t e hp
  · rw [if_neg e] at hp
    rcases h.2.1 j hj with z | ⟨q, hq, z⟩
    · exact absurd z e
    · refine br_f e ⟨k, ?_⟩
      rw [z, nI_clamp (by omega)] at hp ⊢
      rw [hb q hq]
      exact ⟨vp_in_nI (by omega) (by omega), hp⟩
theorem an_xb2 {post : Int32 → Prop} {s : Nat} (h : an_H n pe dl tx cs pd) (hR : fx_VL n R) (hb : ∀ i, i < n → bX i = rl_en (R i)) (hs : s < n) (h1 : fx_bad n rs pr pd R s → post 1) (h0 : ¬ fx_bad n rs pr pd R s → post 0) : ∀ d i, i + d = n → (∀ j, j < i → (j = s ∨ (rs j = rs s ∧ pr s < pr j)) → ¬ fx_J pd R j = 1000000) → wX_hasUnboundedJitter_2 post (nI s) pN pK tC (nI n) sT tM fR pe dl hd tl os ga tx rs cs pr pd nx bX na fl aa co ov mx rm sX lX (d + 1) (nI i) := by
  have hn := h.1
  intro d
  induction d with
  | zero =>
    intro i hi ha
    have e : i = n := by omega
    subst e
    exact br_t (nI_le (by omega) (by omega)) (h0 (fun ⟨j, hj, hc, z⟩ => ha j hj hc z))
  | succ d ih =>
    intro i hi ha
    have next : ((i = s ∨ (rs i = rs s ∧ pr s < pr i)) → ¬ fx_J pd R i = 1000000) → wX_hasUnboundedJitter_2 post (nI s) pN pK tC (nI n) sT tM fR pe dl hd tl os ga tx rs cs pr pd nx bX na fl aa co ov mx rm sX lX (d + 1) (nI (i + 1)) := by
      intro z
      refine ih (i + 1) (by omega) (fun j hj => ?_)
      by_cases e : j = i
      · rw [e]; exact z
      · exact ha j (by omega)
    have t24 : (i = s ∨ (rs i = rs s ∧ pr s < pr i)) → wX_hasUnboundedJitter_24 post (wX_hasUnboundedJitter_2 post (nI s) pN pK tC (nI n) sT tM fR pe dl hd tl os ga tx rs cs pr pd nx bX na fl aa co ov mx rm sX lX (d + 1)) (nI s) (nI i) pN pK tC (nI n) sT tM fR pe dl hd tl os ga tx rs cs pr pd nx bX na fl aa co ov mx rm sX lX := by
      intro hc
      unfold wX_hasUnboundedJitter_24
      refine an_xj h hb (by omega : i < n) ?_
      by_cases z : fx_J pd R i = 1000000
      · exact br_t ((an_en (an_J h hR (by omega))).mpr z) (h1 ⟨i, by omega, hc, z⟩)
      · exact br_f (fun w => z ((an_en (an_J h hR (by omega))).mp w)) (nm_r (nI_1 i) (next (fun _ => z)))
    refine br_f (nI_ge (by omega) (by omega)) ?_
    by_cases e : i = s
    · exact br_t (by rw [e]) (t24 (Or.inl e))
    · refine br_f (fun z => e ((nI_eq (by omega) (by omega)).mp z)) (an_xu (by omega) (by omega) (fun u => br_f sm_1 (t24 (Or.inr u))) (fun u => br_t rfl (nm_r (nI_1 i) (next (fun z => ?_)))))
      rcases z with z | z
      · exact absurd z e
      · exact absurd z u
theorem an_xb {post : Int32 → Prop} {s : Nat} (h : an_H n pe dl tx cs pd) (hR : fx_VL n R) (hb : ∀ i, i < n → bX i = rl_en (R i)) (hs : s < n) (h1 : fx_bad n rs pr pd R s → post 1) (h0 : ¬ fx_bad n rs pr pd R s → post 0) : wpX_hasUnboundedJitter post (pN, pK, tC, nI n, sT, tM, fR, pe, dl, hd, tl, os, ga, tx, rs, cs, pr, pd, nx, bX, na, fl, aa, co, ov, mx, rm, sX, lX) (nI s) :=
  ⟨n + 1, an_xb2 h hR hb hs h1 h0 n 0 (by omega) (fun j hj => by omega)⟩
theorem an_xl9 {post : Int32 → Prop} {s : Nat} (h : an_H n pe dl tx cs pd) (hs : s < n) : ∀ d i, i + d = n → post (nI (fx_bl rs pr (an_C cs) s n)) → wX_longestBlocking_9 post (nI s) pN pK tC (nI n) sT tM fR pe dl hd tl os ga tx rs cs pr pd nx bX na fl aa co ov mx rm sX lX (d + 1) (nI (fx_bl rs pr (an_C cs) s i)) (nI i) := by
  have hn := h.1
  intro d
  induction d with
  | zero =>
    intro i hi hp
    have e : i = n := by omega
    subst e
    exact br_t (nI_le (by omega) (by omega)) hp
  | succ d ih =>
    intro i hi hp
    have z := ih (i + 1) (by omega) hp
    simp only [fx_bl] at z
    have hci := h.2.2.2.1 i (by omega)
    have hbl := an_bl (rs := rs) (pr := pr) h hs i (by omega)
    refine br_f (nI_ge (by omega) (by omega)) (an_xu (by omega) (by omega) (fun u => ?_) (fun u => ?_))
    · rw [if_pos ⟨u.1.symm, u.2⟩] at z
      refine br_f sm_1 ⟨vp_in_nI (by omega) (by omega), ?_⟩
      rw [nI_clamp (by omega), hci.1]
      refine ti_gx ?_
      unfold ti_gr
      by_cases q : fx_bl rs pr (an_C cs) s i < an_C cs i
      · rw [if_pos q] at z
        rw [if_pos (nI_le (by omega) (by omega))]
        exact nm_r (nI_1 i) z
      · rw [if_neg q] at z
        by_cases e : fx_bl rs pr (an_C cs) s i = an_C cs i
        · rw [if_pos (nI_le (by omega) (by omega)), ← e]
          exact nm_r (nI_1 i) z
        · rw [if_neg (nI_ge (by omega) (by omega))]
          exact nm_r (nI_1 i) z
    · rw [if_neg (fun w => u ⟨w.1.symm, w.2⟩)] at z
      exact br_t rfl (nm_r (nI_1 i) z)
theorem an_xl {post : Int32 → Prop} {s : Nat} (h : an_H n pe dl tx cs pd) (hs : s < n) (hp : post (nI (fx_bl rs pr (an_C cs) s n))) : wpX_longestBlocking post (pN, pK, tC, nI n, sT, tM, fR, pe, dl, hd, tl, os, ga, tx, rs, cs, pr, pd, nx, bX, na, fl, aa, co, ov, mx, rm, sX, lX) (nI s) := by
  have hn := h.1
  exact ⟨vp_in_nI (by omega) (by omega), nm_r (by rw [nI_clamp (by omega)]; exact (h.2.2.2.1 s hs).1) ⟨n + 1, an_xl9 h hs n 0 (by omega) hp⟩⟩
theorem an_div {a t : Nat} (ha : a ≤ 1000) (h1 : 1 ≤ t) (ht : t ≤ 200) : (nI a + nI t - 1) / nI t = nI ((a + t - 1) / t) := by
  rw [nI_add, show (1 : Int32) = nI 1 from rfl, pk_sub (by omega), pk_div (by omega) (by omega) (by omega)]
theorem an_xi5 {post : Int32 → Prop} {s sp : Nat} (h : an_H n pe dl tx cs pd) (hb : ∀ i, i < n → bX i = rl_en (R i)) (hs : s < n) (hsp : sp ≤ 300) (hfin : ∀ j, j < n → rs j = rs s ∧ pr s < pr j → fx_J pd R j ≤ 200) :
    ∀ d i, i + d = n → post (nI (fx_sm rs pr (an_C cs) (an_T pe tx) (fx_J pd R) s sp n)) → wX_interference_5 post (nI s) (nI sp) pN pK tC (nI n) sT tM fR pe dl hd tl os ga tx rs cs pr pd nx bX na fl aa co ov mx rm sX lX (d + 1) (nI (fx_sm rs pr (an_C cs) (an_T pe tx) (fx_J pd R) s sp i)) (nI i) := by
  have hn := h.1
  intro d
  induction d with
  | zero =>
    intro i hi hp
    have e : i = n := by omega
    subst e
    exact br_t (nI_le (by omega) (by omega)) hp
  | succ d ih =>
    intro i hi hp
    have z := ih (i + 1) (by omega) hp
    simp only [fx_sm] at z
    have hci := h.2.2.2.1 i (by omega)
    have hti := h.2.2.2.2.1 i (by omega)
    obtain ⟨y, hy, ey⟩ := h.2.2.1 i (by omega)
    have ki : vp_in (nI i) 16 := vp_in_nI (by omega) (by omega)
    have cl : (nI i).toNatClampNeg = i := nI_clamp (by omega)
    refine br_f (nI_ge (by omega) (by omega)) (an_xu (by omega) (by omega) (fun u => br_f sm_1 (an_xj h hb (by omega : i < n) ?_)) (fun u => ?_))
    · have hJ := hfin i (by omega) u
      rw [if_pos u] at z
      rw [an_fin hJ]
      refine nm_r (nI_add _ _) ⟨ki, ?_⟩
      rw [cl]
      refine ⟨by rw [ey]; exact vp_in_nI hy (by omega), ?_⟩
      rw [hti.1]
      refine br_t (nI_le (a := 1) (by omega) (by omega)) ⟨nI_ne0 (by omega) (by omega), ki, ?_⟩
      rw [an_div (by omega) hti.2.1 hti.2.2, hci.1, pk_mul, nI_add]
      exact nm_e (nm_r (nI_1 i) z)
    · rw [if_neg u] at z
      exact br_t rfl (nm_r (nI_1 i) z)
theorem an_xi {post : Int32 → Prop} {s sp : Nat} (h : an_H n pe dl tx cs pd) (hb : ∀ i, i < n → bX i = rl_en (R i)) (hs : s < n) (hsp : sp ≤ 300) (hfin : ∀ j, j < n → rs j = rs s ∧ pr s < pr j → fx_J pd R j ≤ 200) (hp : post (nI (fx_sm rs pr (an_C cs) (an_T pe tx) (fx_J pd R) s sp n))) : wpX_interference post (pN, pK, tC, nI n, sT, tM, fR, pe, dl, hd, tl, os, ga, tx, rs, cs, pr, pd, nx, bX, na, fl, aa, co, ov, mx, rm, sX, lX) (nI s) (nI sp) :=
  ⟨n + 1, an_xi5 h hb hs hsp hfin n 0 (by omega) hp⟩
theorem an_xw3 {post : Int32 → Prop} {s B ld M : Nat} (h : an_H n pe dl tx cs pd) (hb : ∀ i, i < n → bX i = rl_en (R i)) (hs : s < n) (hB : B ≤ 20) (hld : ld ≤ 1) (hM : M ≤ 200) (hfin : ∀ j, j < n → rs j = rs s ∧ pr s < pr j → fx_J pd R j ≤ 200)
    (hp1 : ∀ w, w ≤ M → B + fx_sm rs pr (an_C cs) (an_T pe tx) (fx_J pd R) s (w + ld) n = w → (∀ u, u < w → B + fx_sm rs pr (an_C cs) (an_T pe tx) (fx_J pd R) s (u + ld) n ≠ u) → post (nI w))
    (hp0 : (∀ w, w ≤ M → B + fx_sm rs pr (an_C cs) (an_T pe tx) (fx_J pd R) s (w + ld) n ≠ w) → post (-1)) :
    ∀ d i, i + d = M + 1 → (∀ u, u < i → B + fx_sm rs pr (an_C cs) (an_T pe tx) (fx_J pd R) s (u + ld) n ≠ u) → wX_leastWindow_3 post (nI s) (nI B) (nI ld) (nI M) pN pK tC (nI n) sT tM fR pe dl hd tl os ga tx rs cs pr pd nx bX na fl aa co ov mx rm sX lX (d + 1) (nI i) := by
  have hn := h.1
  intro d
  induction d with
  | zero =>
    intro i hi ha
    exact br_t (nI_lt (by omega) (by omega)) (hp0 (fun w hw => ha w (by omega)))
  | succ d ih =>
    intro i hi ha
    refine br_f (nI_nlt (by omega) (by omega)) ?_
    rw [nI_add]
    refine an_xi h hb hs (by omega) hfin ?_
    have b := an_sm (s := s) (sp := i + ld) h (by omega) hfin n (Nat.le_refl n)
    rw [nI_add]
    refine nm_e ?_
    by_cases e : B + fx_sm rs pr (an_C cs) (an_T pe tx) (fx_J pd R) s (i + ld) n = i
    · exact br_t (by rw [e]) (hp1 i (by omega) e ha)
    · refine br_f (fun z => e ((nI_eq (by omega) (by omega)).mp z)) (nm_r (nI_1 i) (ih (i + 1) (by omega) (fun u hu => ?_)))
      by_cases g : u = i
      · rw [g]; exact e
      · exact ha u (by omega)
theorem an_x67 {post : Int32 → Prop} {s B ld ou : Nat} (h : an_H n pe dl tx cs pd) (hb : ∀ i, i < n → bX i = rl_en (R i)) (hs : s < n) (hB : B ≤ 20) (hld : ld ≤ 1) (hou : ou ≤ 300) (hfin : ∀ j, j < n → rs j = rs s ∧ pr s < pr j → fx_J pd R j ≤ 200)
    (hp1 : ∀ w, ou + w ≤ an_T dl tx s → B + fx_sm rs pr (an_C cs) (an_T pe tx) (fx_J pd R) s (w + ld) n = w → (∀ u, u < w → B + fx_sm rs pr (an_C cs) (an_T pe tx) (fx_J pd R) s (u + ld) n ≠ u) → post (nI (ou + w)))
    (hp0 : (∀ w, B + fx_sm rs pr (an_C cs) (an_T pe tx) (fx_J pd R) s (w + ld) n = w → an_T dl tx s < ou + w) → post (-1)) :
    wX_askedBound_67 post (nI s) (nI ou) (nI B) (nI ld) pN pK tC (nI n) sT tM fR pe dl hd tl os ga tx rs cs pr pd nx bX na fl aa co ov mx rm sX lX := by
  have hn := h.1
  have hd := h.2.2.2.2.2 s hs
  obtain ⟨y, hy, ey⟩ := h.2.2.1 s hs
  refine ⟨vp_in_nI (by omega) (by omega), ?_⟩
  rw [nI_clamp (by omega), hd.1]
  refine ⟨by rw [ey]; exact vp_in_nI hy (by omega), ?_⟩
  by_cases g : ou ≤ an_T dl tx s
  · rw [pk_sub g]
    refine ⟨an_T dl tx s - ou + 2, an_xw3 h hb hs hB hld (by omega) hfin (fun w hw e1 e2 => ?_) (fun e => ?_) (an_T dl tx s - ou + 1) 0 (by omega) (fun u hu => by omega)⟩
    · refine br_f (bs_ne (by omega)) ?_
      rw [nI_add]
      exact hp1 w (by omega) e1 e2
    · refine br_t rfl (hp0 (fun w ew => ?_))
      by_cases q : an_T dl tx s < ou + w
      · exact q
      · exact absurd ew (e w (by omega))
  · refine ⟨1, br_t (pk_sneg (by omega) (by omega)) (br_t rfl (hp0 (fun w _ => by omega)))⟩
theorem an_xask {post : Int32 → Prop} {s : Nat} (h : an_H n pe dl tx cs pd) (hR : fx_VL n R) (hb : ∀ i, i < n → bX i = rl_en (R i)) (hs : s < n) (hp : ∀ r, fx_Fr n rs pr pd (an_C cs) (an_T pe tx) (an_T dl tx) R s r → post (rl_en r)) : wpX_askedBound post (pN, pK, tC, nI n, sT, tM, fR, pe, dl, hd, tl, os, ga, tx, rs, cs, pr, pd, nx, bX, na, fl, aa, co, ov, mx, rm, sX, lX) (nI s) := by
  have hn := h.1
  have ks : vp_in (nI s) 16 := vp_in_nI (by omega) (by omega)
  have cl : (nI s).toNatClampNeg = s := nI_clamp (by omega)
  have hcs := h.2.2.2.1 s hs
  unfold wpX_askedBound
  refine an_xb h hR hb hs (fun bad => br_f sm_1 (hp 1000000 (Or.inl ⟨bad, rfl⟩))) (fun nb => br_t rfl ⟨ks, ?_⟩)
  have fin := an_nb h hR nb
  have hJs := fin s hs (Or.inl rfl)
  have hfin : ∀ j, j < n → rs j = rs s ∧ pr s < pr j → fx_J pd R j ≤ 200 := fun j hj u => fin j hj (Or.inr u)
  rw [cl]
  by_cases e8 : rs s = 8
  · refine br_t e8 ?_
    unfold wX_askedBound_26
    refine an_xj h hb hs ⟨ks, ?_⟩
    rw [cl, an_fin hJs, hcs.1]
    refine nm_e (br_f sm_1 ⟨ks, ?_⟩)
    rw [nI_add]
    refine nm_e (an_xl h hs ?_)
    have eo : fx_out rs pd (an_C cs) R s = fx_J pd R s + an_C cs s := by unfold fx_out; rw [if_pos e8]
    have ef : ∀ w, fx_f n rs pr pd (an_C cs) (an_T pe tx) R s w = fx_bl rs pr (an_C cs) s n + fx_sm rs pr (an_C cs) (an_T pe tx) (fx_J pd R) s (w + 1) n := by
      intro w
      unfold fx_f fx_base fx_lead
      rw [if_pos e8, if_pos e8]
    refine an_x67 (ld := 1) h hb hs (an_bl h hs n (Nat.le_refl n)) (by omega) (by omega) hfin (fun w h1 h2 h3 => ?_) (fun h1 => ?_)
    · have := hp (fx_J pd R s + an_C cs s + w) (Or.inr ⟨nb, Or.inl ⟨w, by rw [ef]; exact h2, fun u hu => by rw [ef]; exact h3 u hu, by rw [eo]; exact h1, by rw [eo]⟩⟩)
      rw [an_fin (by have := (h.2.2.2.2.2 s hs).2.2; omega)] at this
      exact this
    · exact hp 1000000 (Or.inr ⟨nb, Or.inr ⟨fun w ew => by rw [ef] at ew; rw [eo]; exact h1 w ew, rfl⟩⟩)
  · refine br_f e8 ?_
    unfold wX_askedBound_26
    refine an_xj h hb hs ⟨ks, ?_⟩
    rw [cl, an_fin hJs, hcs.1]
    refine nm_e (br_t rfl ?_)
    have eo : fx_out rs pd (an_C cs) R s = fx_J pd R s := by unfold fx_out; rw [if_neg e8]; rfl
    have ef : ∀ w, fx_f n rs pr pd (an_C cs) (an_T pe tx) R s w = an_C cs s + fx_sm rs pr (an_C cs) (an_T pe tx) (fx_J pd R) s (w + 0) n := by
      intro w
      unfold fx_f fx_base fx_lead
      rw [if_neg e8, if_neg e8]
    refine an_x67 (ld := 0) h hb hs hcs.2.2 (by omega) (by omega) hfin (fun w h1 h2 h3 => ?_) (fun h1 => ?_)
    · have := hp (fx_J pd R s + w) (Or.inr ⟨nb, Or.inl ⟨w, by rw [ef]; exact h2, fun u hu => by rw [ef]; exact h3 u hu, by rw [eo]; exact h1, by rw [eo]⟩⟩)
      rw [an_fin (by have := (h.2.2.2.2.2 s hs).2.2; omega)] at this
      exact this
    · exact hp 1000000 (Or.inr ⟨nb, Or.inr ⟨fun w ew => by rw [ef] at ew; rw [eo]; exact h1 w ew, rfl⟩⟩)
end
section
variable {n : Nat} {pe dl tx rs cs pr pd : Nat → Int32} {R Q : Nat → Nat}
abbrev an_I (n : Nat) (pe dl tx rs cs pr pd : Nat → Int32) (R : Nat → Nat) : Prop := fx_Inv n rs pr pd (an_C cs) (an_T pe tx) (an_T dl tx) R
abbrev an_F (n : Nat) (pe dl tx rs cs pr pd : Nat → Int32) (R : Nat → Nat) (s r : Nat) : Prop := fx_Fr n rs pr pd (an_C cs) (an_T pe tx) (an_T dl tx) R s r
theorem an_mu (hn : n ≤ 16) : fx_mu R n ≤ 3216 := Nat.le_trans (fx_mu_max R n) (by omega)
end
section
variable {pN pK sT tM fR tC sC : Int32} {c n p kk : Nat} {pe dl hd tl os ga tx rs cs pr pd nx bX na fl aa co ov mx rm sX lX : Nat → Int32} {R : Nat → Nat}
theorem an_xr4 {post : Int32 → St2 → Prop} {R0 : Nat → Nat} (h : an_H n pe dl tx cs pd)
    (hp : ∀ (R : Nat → Nat) (b : Nat → Int32) (r : Int32), an_I n pe dl tx rs cs pr pd R → (∀ j, j < n → b j = rl_en (R j)) → (∀ j, j < n → R0 j ≤ R j) → ((r = 0 ∧ ∀ j, j < n → an_F n pe dl tx rs cs pr pd R j (R j)) ∨ (r = 1 ∧ ∃ j, j < n ∧ R0 j ≠ R j)) → post r (pN, pK, tC, nI n, sT, tM, fR, pe, dl, hd, tl, os, ga, tx, rs, cs, pr, pd, nx, b, na, fl, aa, co, ov, mx, rm, sX, lX)) :
    ∀ (d i : Nat) (R : Nat → Nat) (bX : Nat → Int32) (r : Int32), i + d = n → an_I n pe dl tx rs cs pr pd R → (∀ j, j < n → bX j = rl_en (R j)) → (∀ j, j < n → R0 j ≤ R j) → ((r = 0 ∧ ∀ j, j < i → an_F n pe dl tx rs cs pr pd R j (R j)) ∨ (r = 1 ∧ ∃ j, j < n ∧ R0 j ≠ R j)) →
      wX_raiseBounds_4 post pN pK tC (nI n) sT tM fR (d + 1) r (nI i) pe dl hd tl os ga tx rs cs pr pd nx bX na fl aa co ov mx rm sX lX := by
  have hn := h.1
  have hcf := an_cf h
  intro d
  induction d with
  | zero =>
    intro i R bX r hi hI hb hle hst
    have e : i = n := by omega
    subst e
    refine br_t (nI_le (by omega) (by omega)) ⟨?_, hp R bX r hI hb hle hst⟩
    rcases hst with ⟨rfl, _⟩ | ⟨rfl, _⟩ <;> rfl
  | succ d ih =>
    intro i R bX r hi hI hb hle hst
    have k : vp_in (nI i) 16 := vp_in_nI (by omega) (by omega)
    refine br_f (nI_ge (by omega) (by omega)) (an_xask h hI.1 hb (by omega : i < n) (fun a ha => ⟨k, ?_⟩))
    rw [nI_clamp (by omega), hb i (by omega)]
    have va := fx_val hcf (by omega : i < n) ha
    have vR := hI.1 i (by omega)
    by_cases e : a = R i
    · refine br_t (by rw [e]) (nm_r (nI_1 i) (ih (i + 1) R bX r (by omega) hI hb hle ?_))
      rcases hst with ⟨e0, hF⟩ | z
      · refine Or.inl ⟨e0, fun j hj => ?_⟩
        by_cases q : j = i
        · rw [q, ← e]; exact ha
        · exact hF j (by omega)
      · exact Or.inr z
    · have ⟨hra, hI'⟩ := fx_step hcf hI (by omega : i < n) ha
      refine br_f (fun z => e ((an_en_inj va vR).mp z)) ⟨k, nm_e (nm_r (nI_1 i) (ih (i + 1) (fun t => if t = i then a else R t) (upd bX i (rl_en a)) 1 (by omega) hI' (fun j hj => ?_) (fun j hj => ?_) (Or.inr ⟨rfl, i, by omega, ?_⟩)))⟩
      · show upd bX i (rl_en a) j = rl_en (if j = i then a else R j)
        by_cases q : j = i
        · rw [if_pos q, q, pk_us]
        · rw [if_neg q, pk_un q]; exact hb j hj
      · show R0 j ≤ if j = i then a else R j
        by_cases q : j = i
        · rw [if_pos q, q]; exact Nat.le_trans (hle i (by omega)) hra
        · rw [if_neg q]; exact hle j hj
      · show R0 i ≠ if i = i then a else R i
        rw [if_pos rfl]
        have := hle i (by omega)
        omega
theorem an_xab2 {post : Int32 → Prop} (hn : n ≤ 16) (hR : fx_VL n R) (hb : ∀ i, i < n → bX i = rl_en (R i)) (h1 : (∀ j, j < n → ¬ R j = 1000000) → post 1) (h0 : (¬ ∀ j, j < n → ¬ R j = 1000000) → post 0) : ∀ d i, i + d = n → (∀ j, j < i → ¬ R j = 1000000) → wX_areAllBounded_2 post pN pK tC (nI n) sT tM fR pe dl hd tl os ga tx rs cs pr pd nx bX na fl aa co ov mx rm sX lX (d + 1) (nI i) := by
  intro d
  induction d with
  | zero =>
    intro i hi ha
    have e : i = n := by omega
    subst e
    exact br_t (nI_le (by omega) (by omega)) (h1 ha)
  | succ d ih =>
    intro i hi ha
    refine br_f (nI_ge (by omega) (by omega)) ⟨vp_in_nI (by omega) (by omega), ?_⟩
    rw [nI_clamp (by omega), hb i (by omega)]
    have v := hR i (by omega)
    by_cases e : R i = 1000000
    · exact br_t ((an_en v).mpr e) (h0 (fun z => z i (by omega) e))
    · refine br_f (fun z => e ((an_en v).mp z)) (nm_r (nI_1 i) (ih (i + 1) (by omega) (fun j hj => ?_)))
      by_cases q : j = i
      · rw [q]; exact e
      · exact ha j (by omega)
theorem an_x58 {post : Int32 → St2 → Prop} (hn : n ≤ 16) (hR : fx_VL n R) (hb : ∀ i, i < n → bX i = rl_en (R i)) (h1 : (∀ j, j < n → ¬ R j = 1000000) → post 1 (pN, pK, tC, nI n, 1, tM, fR, pe, dl, hd, tl, os, ga, tx, rs, cs, pr, pd, nx, bX, na, fl, aa, co, ov, mx, rm, sX, lX)) (h2 : (¬ ∀ j, j < n → ¬ R j = 1000000) → post 2 (pN, pK, tC, nI n, 2, tM, fR, pe, dl, hd, tl, os, ga, tx, rs, cs, pr, pd, nx, bX, na, fl, aa, co, ov, mx, rm, sX, lX)) : wX_analyse_58 post pN pK tC (nI n) sT tM fR pe dl hd tl os ga tx rs cs pr pd nx bX na fl aa co ov mx rm sX lX := by
  unfold wX_analyse_58
  exact ⟨n + 1, an_xab2 hn hR hb (fun z => br_f sm_1 (h1 z)) (fun z => br_t rfl (h2 z)) n 0 (by omega) (fun j hj => by omega)⟩
theorem an_x37 {post : Int32 → St2 → Prop} (h : an_H n pe dl tx cs pd)
    (hp : ∀ (R : Nat → Nat) (b : Nat → Int32), an_I n pe dl tx rs cs pr pd R → (∀ j, j < n → an_F n pe dl tx rs cs pr pd R j (R j)) → (∀ j, j < n → b j = rl_en (R j)) → ((∀ j, j < n → ¬ R j = 1000000) → post 1 (pN, pK, tC, nI n, 1, tM, fR, pe, dl, hd, tl, os, ga, tx, rs, cs, pr, pd, nx, b, na, fl, aa, co, ov, mx, rm, sX, lX)) ∧ ((¬ ∀ j, j < n → ¬ R j = 1000000) → post 2 (pN, pK, tC, nI n, 2, tM, fR, pe, dl, hd, tl, os, ga, tx, rs, cs, pr, pd, nx, b, na, fl, aa, co, ov, mx, rm, sX, lX))) :
    ∀ (m i : Nat) (R : Nat → Nat) (bX : Nat → Int32), 3217 ≤ fx_mu R n + m → i ≤ fx_mu R n → an_I n pe dl tx rs cs pr pd R → (∀ j, j < n → bX j = rl_en (R j)) → wX_analyse_37 post (m + 1) 1 (nI i) pN pK tC (nI n) sT tM fR pe dl hd tl os ga tx rs cs pr pd nx bX na fl aa co ov mx rm sX lX := by
  have hn := h.1
  intro m
  induction m with
  | zero =>
    intro i R bX hm hi hI hb
    have := an_mu (R := R) hn
    omega
  | succ m ih =>
    intro i R bX hm hi hI hb
    have mb := an_mu (R := R) hn
    refine br_f sm_1 (br_f (nI_ge (a := i) (b := 1000000) (by omega) (by omega)) ?_)
    refine ⟨n + 1, an_xr4 (R0 := R) h (fun R' b' r' hI' hb' hle' hst' => ?_) n 0 R bX 0 (by omega) hI hb (fun j _ => Nat.le_refl _) (Or.inl ⟨rfl, fun j hj => by omega⟩)⟩
    refine nm_r (nI_1 i) ?_
    rcases hst' with ⟨rfl, hF⟩ | ⟨rfl, j, hj, hne⟩
    · obtain ⟨p1, p2⟩ := hp R' b' hI' hF hb'
      exact br_t rfl (an_x58 hn hI'.1 hb' p1 p2)
    · have lt := fx_mu_lt hI.1 hI'.1 n (Nat.le_refl n) hle' j hj hne
      exact ih (i + 1) R' b' (by omega) (by omega) hI' hb'
theorem an_x12 {post : Int32 → St2 → Prop} (hn : n ≤ 16) : ∀ d i, i + d = n → (∃ m, wX_analyse_37 post m 1 0 pN pK tC (nI n) sT tM fR pe dl hd tl os ga tx rs cs pr pd nx (bs_mz bX (fun _ => 0) n) na fl aa co ov mx rm sX lX) → wX_analyse_12 post pN pK tC (nI n) sT tM fR (d + 1) (nI i) pe dl hd tl os ga tx rs cs pr pd nx (bs_mz bX (fun _ => 0) i) na fl aa co ov mx rm sX lX := by
  intro d
  induction d with
  | zero =>
    intro i hi hp
    have e : i = n := by omega
    subst e
    exact br_t (nI_le (by omega) (by omega)) hp
  | succ d ih =>
    intro i hi hp
    exact br_f (nI_ge (by omega) (by omega)) ⟨vp_in_nI (by omega) (by omega), nm_r (rs_sv (by omega)) (nm_r (nI_1 i) (ih (i + 1) (by omega) hp))⟩
theorem an_xana {post : Int32 → St2 → Prop} (h : an_H n pe dl tx cs pd)
    (hp : ∀ (R : Nat → Nat) (b : Nat → Int32), an_I n pe dl tx rs cs pr pd R → (∀ j, j < n → an_F n pe dl tx rs cs pr pd R j (R j)) → (∀ j, j < n → b j = rl_en (R j)) → ((∀ j, j < n → ¬ R j = 1000000) → post 1 (pN, pK, tC, nI n, 1, tM, fR, pe, dl, hd, tl, os, ga, tx, rs, cs, pr, pd, nx, b, na, fl, aa, co, ov, mx, rm, sX, lX)) ∧ ((¬ ∀ j, j < n → ¬ R j = 1000000) → post 2 (pN, pK, tC, nI n, 2, tM, fR, pe, dl, hd, tl, os, ga, tx, rs, cs, pr, pd, nx, b, na, fl, aa, co, ov, mx, rm, sX, lX))) :
    ∃ m, wX_analyse_12 post pN pK tC (nI n) sT tM fR m 0 pe dl hd tl os ga tx rs cs pr pd nx bX na fl aa co ov mx rm sX lX := by
  have hn := h.1
  have z := an_x37 (post := post) (pN := pN) (pK := pK) (tC := tC) (sT := sT) (tM := tM) (fR := fR) (hd := hd) (tl := tl) (os := os) (ga := ga) (nx := nx) (na := na) (fl := fl) (aa := aa) (co := co) (ov := ov) (mx := mx) (rm := rm) (sX := sX) (lX := lX) h hp 3217 0 (fun _ => 0) (bs_mz bX (fun _ => 0) n) (by omega) (by omega) (fx_inv0 (fun _ _ => rfl)) (fun j hj => by rw [bs_mz_lt hj]; rfl)
  have y := an_x12 (post := post) (pN := pN) (pK := pK) (tC := tC) (sT := sT) (tM := tM) (fR := fR) (pe := pe) (dl := dl) (hd := hd) (tl := tl) (os := os) (ga := ga) (tx := tx) (rs := rs) (cs := cs) (pr := pr) (pd := pd) (nx := nx) (bX := bX) (na := na) (fl := fl) (aa := aa) (co := co) (ov := ov) (mx := mx) (rm := rm) (sX := sX) (lX := lX) hn n 0 (by omega) ⟨_, z⟩
  rw [bs_mz0] at y
  exact ⟨_, y⟩
end
