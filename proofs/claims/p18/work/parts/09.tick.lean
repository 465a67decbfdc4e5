/-! one tick of the component: what each phase leaves, place by place -/
noncomputable def tu_mk (P : Nat → Prop) (g f : Nat → Int32) (i : Nat) : Nat → Int32 := fun x => @ite _ (x < i ∧ P x) (Classical.propDecidable _) (g x) (f x)
theorem tu_p {P : Nat → Prop} {g f : Nat → Int32} {i x : Nat} (h : x < i) (hp : P x) : tu_mk P g f i x = g x := if_pos ⟨h, hp⟩
theorem tu_q {P : Nat → Prop} {g f : Nat → Int32} {i x : Nat} (hp : ¬ P x) : tu_mk P g f i x = f x := if_neg (fun z => hp z.2)
theorem tu_ge {P : Nat → Prop} {g f : Nat → Int32} {i x : Nat} (h : i ≤ x) : tu_mk P g f i x = f x := if_neg (fun z => by have := z.1; omega)
theorem tu_0 {P : Nat → Prop} {g f : Nat → Int32} : tu_mk P g f 0 = f := by
  funext x
  exact tu_ge (Nat.zero_le x)
theorem tu_t {P : Nat → Prop} {g f : Nat → Int32} {i : Nat} (hp : P i) : upd (tu_mk P g f i) i (g i) = tu_mk P g f (i + 1) := by
  funext x
  by_cases e : x = i
  · subst e
    rw [pk_us, tu_p (by omega) hp]
  · rw [pk_un e]
    by_cases h : x < i ∧ P x
    · rw [tu_p h.1 h.2, tu_p (by omega) h.2]
    · unfold tu_mk
      rw [if_neg h, if_neg (fun z => h ⟨by have := z.1; omega, z.2⟩)]
theorem tu_n {P : Nat → Prop} {g f : Nat → Int32} {i : Nat} (hp : ¬ P i) : tu_mk P g f (i + 1) = tu_mk P g f i := by
  funext x
  by_cases h : x < i ∧ P x
  · rw [tu_p h.1 h.2, tu_p (by omega) h.2]
  · unfold tu_mk
    rw [if_neg h, if_neg (fun z => h ⟨by
      by_cases e : x = i
      · subst e; exact absurd z.2 hp
      · have := z.1; omega, z.2⟩)]
/-! the most urgent pending step -/
theorem sn_mu_eq {rs pr rm rm' : Nat → Int32} {r : Int32} : ∀ k, (∀ s, s < k → rs s = r → rm' s = rm s) → sn_mu rs pr rm' r k = sn_mu rs pr rm r k := by
  intro k
  induction k with
  | zero => intro _; rfl
  | succ k ih =>
    intro h
    have a := ih (fun s hs => h s (by omega))
    by_cases z : (rs k = r ∧ 0 < rm k) ∧ (sn_mu rs pr rm r k = -1 ∨ pr (sn_mu rs pr rm r k).toNatClampNeg < pr k)
    · rw [sn_mu_t z, sn_mu_t (by rw [a, h k (by omega) z.1.1]; exact z)]
    · rw [sn_mu_n z, sn_mu_n (by
        rw [a]
        intro w
        refine z ⟨⟨w.1.1, ?_⟩, w.2⟩
        rw [← h k (by omega) w.1.1]; exact w.1.2), a]
theorem sn_mu_sp (rs pr rm : Nat → Int32) (r : Int32) : ∀ k, k < 2 ^ 31 → (sn_mu rs pr rm r k = -1 ∧ ∀ s, s < k → rs s = r → ¬ 0 < rm s) ∨ ∃ j, j < k ∧ sn_mu rs pr rm r k = nI j ∧ rs j = r ∧ 0 < rm j ∧ ∀ s, s < k → rs s = r → 0 < rm s → pr s ≤ pr j := by
  intro k
  induction k with
  | zero => intro _; exact Or.inl ⟨rfl, fun s hs => by omega⟩
  | succ k ih =>
    intro hk
    by_cases z : (rs k = r ∧ 0 < rm k) ∧ (sn_mu rs pr rm r k = -1 ∨ pr (sn_mu rs pr rm r k).toNatClampNeg < pr k)
    · rw [sn_mu_t z]
      refine Or.inr ⟨k, by omega, rfl, z.1.1, z.1.2, fun s hs e hp => ?_⟩
      by_cases q : s = k
      · rw [q]; exact Int32.le_refl _
      · rcases ih (by omega) with ⟨_, b⟩ | ⟨j, hj, b, _, _, f⟩
        · exact absurd hp (b s (by omega) e)
        · rcases z.2 with w | w
          · rw [b] at w; exact absurd w (bs_ne (by omega))
          · rw [b, nI_clamp (by omega)] at w
            exact Int32.le_trans (f s (by omega) e hp) (Int32.le_of_lt w)
    · rw [sn_mu_n z]
      rcases ih (by omega) with ⟨a, b⟩ | ⟨j, hj, b, c, d, f⟩
      · refine Or.inl ⟨a, fun s hs e hp => ?_⟩
        by_cases q : s = k
        · subst q; exact z ⟨⟨e, hp⟩, Or.inl a⟩
        · exact b s (by omega) e hp
      · refine Or.inr ⟨j, by omega, b, c, d, fun s hs e hp => ?_⟩
        by_cases q : s = k
        · subst q
          by_cases w : pr s ≤ pr j
          · exact w
          · exact absurd ⟨⟨e, hp⟩, Or.inr (by rw [b, nI_clamp (by omega)]; exact Int32.not_le.mp w)⟩ z
        · exact f s (by omega) e hp
section
variable {pN pK sT tM fR tC sC : Int32} {c n p kk : Nat} {pe dl hd tl os ga tx rs cs pr pd nx bX na fl aa co ov mx rm sX lX : Nat → Int32}
theorem ti_xm4 {post : Int32 → Prop} {r : Int32} (hn : n ≤ 16) : ∀ d i, i + d = n → post (sn_mu rs pr rm r n) → wX_mostUrgentPending_4 post r pN pK tC (nI n) sT tM fR pe dl hd tl os ga tx rs cs pr pd nx bX na fl aa co ov mx rm sX lX (d + 1) (sn_mu rs pr rm r i) (nI i) := by
  intro d
  induction d with
  | zero =>
    intro i hi hp
    have e : i = n := by omega
    subst e
    exact br_t (nI_le (by omega) (by omega)) hp
  | succ d ih =>
    intro i hi hp
    have z := ih (i + 1) (by omega) hp
    have hin : vp_in (nI i) 16 := vp_in_nI (by omega) (by omega)
    refine br_f (nI_ge (by omega) (by omega)) ⟨hin, ?_⟩
    rw [nI_clamp (by omega)]
    by_cases e1 : rs i = r
    · refine br_t e1 ⟨hin, ?_⟩
      by_cases e2 : rm i ≤ 0
      · rw [sn_mu_n (fun w => Int32.not_lt.mpr e2 w.1.2)] at z
        exact br_t e2 (br_t rfl (nm_r (nI_1 i) z))
      · have e2' : 0 < rm i := Int32.not_le.mp e2
        refine br_f e2 (br_f sm_1 ?_)
        rcases sn_mu_some rs pr rm r i with b | ⟨j, hj, b, _⟩
        · rw [sn_mu_t ⟨⟨e1, e2'⟩, Or.inl b⟩] at z
          exact br_t b (nm_r (nI_1 i) z)
        · have nb : ¬ sn_mu rs pr rm r i = -1 := by rw [b]; exact bs_ne (by omega)
          refine br_f nb ⟨hin, by rw [b]; exact vp_in_nI (by omega) (by omega), ?_⟩
          rw [nI_clamp (by omega)]
          by_cases e3 : pr i ≤ pr (sn_mu rs pr rm r i).toNatClampNeg
          · rw [sn_mu_n (fun w => by
              rcases w.2 with w | w
              · exact nb w
              · exact Int32.not_lt.mpr e3 w)] at z
            exact br_t e3 (nm_r (nI_1 i) z)
          · rw [sn_mu_t ⟨⟨e1, e2'⟩, Or.inr (Int32.not_le.mp e3)⟩] at z
            exact br_f e3 (nm_r (nI_1 i) z)
    · rw [sn_mu_n (fun w => e1 w.1.1)] at z
      exact br_f e1 (br_t rfl (nm_r (nI_1 i) z))
theorem ti_xm {post : Int32 → Prop} {r : Int32} (hn : n ≤ 16) (hp : post (sn_mu rs pr rm r n)) : wpX_mostUrgentPending post (pN, pK, tC, nI n, sT, tM, fR, pe, dl, hd, tl, os, ga, tx, rs, cs, pr, pd, nx, bX, na, fl, aa, co, ov, mx, rm, sX, lX) r := ⟨n + 1, ti_xm4 hn n 0 (by omega) hp⟩
theorem ti_xa1 {post : St2 → Prop} {i m : Nat} (hi : i < 8) (hm : m < 16) (f : fl i = 0) (em : hd i = nI m) (hp : post (pN, pK, tC, sC, sT, tM, fR, pe, dl, hd, tl, os, ga, tx, rs, cs, pr, pd, nx, bX, upd na i (tM + pe i + ga i), upd fl i 1, upd aa i tM, co, ov, mx, upd rm m (cs m), sX, lX)) : wpX_arrive post (pN, pK, tC, sC, sT, tM, fR, pe, dl, hd, tl, os, ga, tx, rs, cs, pr, pd, nx, bX, na, fl, aa, co, ov, mx, rm, sX, lX) (nI i) := by
  have k : vp_in (nI i) 8 := vp_in_nI (by omega) (by omega)
  have km : vp_in (nI m) 16 := vp_in_nI (by omega) (by omega)
  refine ⟨k, br_t (by rw [nI_clamp (by omega)]; exact f) ⟨k, nm_r (cf_up (by omega)) ⟨k, nm_r (cf_up (by omega)) ⟨k, ?_⟩⟩⟩⟩
  rw [nI_clamp (by omega), em]
  exact ⟨km, km, nm_r (by rw [nI_clamp (by omega)]) ⟨k, k, k, nm_r (by rw [nI_clamp (by omega)]) hp⟩⟩
theorem ti_xa2 {post : St2 → Prop} {i : Nat} (hi : i < 8) (f : ¬ fl i = 0) (hp : post (pN, pK, tC, sC, sT, tM, fR, pe, dl, hd, tl, os, ga, tx, rs, cs, pr, pd, nx, bX, upd na i (tM + pe i + ga i), fl, aa, co, upd ov i (ov i + 1), mx, rm, sX, lX)) : wpX_arrive post (pN, pK, tC, sC, sT, tM, fR, pe, dl, hd, tl, os, ga, tx, rs, cs, pr, pd, nx, bX, na, fl, aa, co, ov, mx, rm, sX, lX) (nI i) := by
  have k : vp_in (nI i) 8 := vp_in_nI (by omega) (by omega)
  exact ⟨k, br_f (by rw [nI_clamp (by omega)]; exact f) ⟨k, k, nm_r (by rw [nI_clamp (by omega)]) ⟨k, k, k, nm_r (by rw [nI_clamp (by omega)]) hp⟩⟩⟩
theorem ti_xw0 {post : St2 → Prop} {r : Nat} (hr : r < 9) (hp : post (pN, pK, tC, sC, sT, tM, fR, pe, dl, hd, tl, os, ga, tx, rs, cs, pr, pd, nx, bX, na, fl, aa, co, ov, mx, rm, sX, upd lX r (-1))) : wpX_work post (pN, pK, tC, sC, sT, tM, fR, pe, dl, hd, tl, os, ga, tx, rs, cs, pr, pd, nx, bX, na, fl, aa, co, ov, mx, rm, sX, lX) (nI r) (-1) := ⟨vp_in_nI hr (by omega), nm_r (cf_up (by omega)) (br_t rfl hp)⟩
theorem ti_xw1 {post : St2 → Prop} {r j : Nat} (hr : r < 9) (hj : j < 16) (hp : post (pN, pK, tC, sC, sT, tM, fR, pe, dl, hd, tl, os, ga, tx, rs, cs, pr, pd, nx, bX, na, fl, aa, co, ov, mx, upd rm j (rm j - 1), sX, upd lX r (nI j))) : wpX_work post (pN, pK, tC, sC, sT, tM, fR, pe, dl, hd, tl, os, ga, tx, rs, cs, pr, pd, nx, bX, na, fl, aa, co, ov, mx, rm, sX, lX) (nI r) (nI j) := by
  have k : vp_in (nI j) 16 := vp_in_nI (by omega) (by omega)
  exact ⟨vp_in_nI hr (by omega), nm_r (cf_up (by omega)) (br_f (bs_ne (by omega)) ⟨k, k, nm_r (by rw [nI_clamp (by omega)]) hp⟩)⟩
theorem ti_busx {post : St2 → Prop} {f : Int32} (hf : (f = -1 ∧ post (pN, pK, tC, sC, sT, tM, f, pe, dl, hd, tl, os, ga, tx, rs, cs, pr, pd, nx, bX, na, fl, aa, co, ov, mx, rm, sX, upd lX 8 f)) ∨ ∃ j, j < 16 ∧ f = nI j ∧ post (pN, pK, tC, sC, sT, tM, f, pe, dl, hd, tl, os, ga, tx, rs, cs, pr, pd, nx, bX, na, fl, aa, co, ov, mx, upd rm j (rm j - 1), sX, upd lX 8 f)) : wX_execute_46 post pN pK tC sC sT tM f pe dl hd tl os ga tx rs cs pr pd nx bX na fl aa co ov mx rm sX lX := by
  unfold wX_execute_46
  rcases hf with ⟨rfl, h⟩ | ⟨j, hj, rfl, h⟩
  · exact ti_xw0 (r := 8) (by omega) h
  · exact ti_xw1 (r := 8) (by omega) hj h
/-! arrivals -/
/-- remaining work behind the arrivals of the first i transactions -/
def tu_RA (n i : Nat) (tM : Int32) (tx pd cs na fl rm0 rm : Nat → Int32) : Prop := ∀ s, s < n →
  ((((tx s).toNatClampNeg < i ∧ na (tx s).toNatClampNeg = tM ∧ fl (tx s).toNatClampNeg = 0) ∧ pd s = -1) → rm s = cs s) ∧
  (¬ (((tx s).toNatClampNeg < i ∧ na (tx s).toNatClampNeg = tM ∧ fl (tx s).toNatClampNeg = 0) ∧ pd s = -1) → rm s = rm0 s)
theorem tu_arr {post : St2 → Prop} (hc : c ≤ 8) (hn : n ≤ 16) (hh : ∀ x, x < c → ∃ m, m < n ∧ hd x = nI m ∧ tx m = nI x ∧ pd m = -1 ∧ ∀ s, s < n → tx s = nI x → pd s = -1 → s = m) (htx : ∀ s, s < n → ∃ y, y < c ∧ tx s = nI y) {rm0 : Nat → Int32}
    (hp : ∀ rm' : Nat → Int32, tu_RA n c tM tx pd cs na fl rm0 rm' → post (pN, pK, nI c, nI n, sT, tM, fR, pe, dl, hd, tl, os, ga, tx, rs, cs, pr, pd, nx, bX, tu_mk (fun x => na x = tM) (fun x => tM + pe x + ga x) na c, tu_mk (fun x => na x = tM ∧ fl x = 0) (fun _ => 1) fl c, tu_mk (fun x => na x = tM ∧ fl x = 0) (fun _ => tM) aa c, co, tu_mk (fun x => na x = tM ∧ ¬ fl x = 0) (fun x => ov x + 1) ov c, mx, rm', sX, lX)) :
    ∀ (d i : Nat) (rm : Nat → Int32), i + d = c → tu_RA n i tM tx pd cs na fl rm0 rm → wX_takeArrivals_2 post (d + 1) (nI i) pN pK (nI c) (nI n) sT tM fR pe dl hd tl os ga tx rs cs pr pd nx bX (tu_mk (fun x => na x = tM) (fun x => tM + pe x + ga x) na i) (tu_mk (fun x => na x = tM ∧ fl x = 0) (fun _ => 1) fl i) (tu_mk (fun x => na x = tM ∧ fl x = 0) (fun _ => tM) aa i) co (tu_mk (fun x => na x = tM ∧ ¬ fl x = 0) (fun x => ov x + 1) ov i) mx rm sX lX := by
  intro d
  induction d with
  | zero =>
    intro i rm hi hra
    have e : i = c := by omega
    subst e
    exact br_t (nI_le (by omega) (by omega)) (hp rm hra)
  | succ d ih =>
    intro i rm hi hra
    have k : vp_in (nI i) 8 := vp_in_nI (by omega) (by omega)
    have cl : (nI i).toNatClampNeg = i := nI_clamp (by omega)
    have ei : ∀ s, s < n → ((tx s).toNatClampNeg = i ↔ tx s = nI i) := by
      intro s hs
      obtain ⟨y, hy, e⟩ := htx s hs
      rw [e, nI_clamp (by omega), nI_eq (by omega) (by omega)]
    have keep : ¬ (na i = tM ∧ fl i = 0) → tu_RA n (i + 1) tM tx pd cs na fl rm0 rm := by
      intro hno s hs
      obtain ⟨a, b⟩ := hra s hs
      refine ⟨fun z => a ⟨⟨?_, z.1.2⟩, z.2⟩, fun z => b (fun w => z ⟨⟨by have := w.1.1; omega, w.1.2⟩, w.2⟩)⟩
      by_cases q : (tx s).toNatClampNeg = i
      · rw [q] at z; exact absurd z.1.2 hno
      · have := z.1.1; omega
    refine br_f (nI_ge (by omega) (by omega)) ⟨k, ?_⟩
    rw [cl, tu_ge (Nat.le_refl i)]
    by_cases e : na i = tM
    · refine br_t e ?_
      by_cases f : fl i = 0
      · obtain ⟨m, hm, em, etx, epd, eun⟩ := hh i (by omega)
        refine ti_xa1 (by omega) (by omega) (by rw [tu_ge (Nat.le_refl i)]; exact f) em (nm_r (nI_1 i) ?_)
        have z := ih (i + 1) (upd rm m (cs m)) (by omega) (fun s hs => ?_)
        · rw [← tu_t (P := fun x => na x = tM) (i := i) e, ← tu_t (P := fun x => na x = tM ∧ fl x = 0) (g := fun _ => 1) (i := i) ⟨e, f⟩, ← tu_t (P := fun x => na x = tM ∧ fl x = 0) (g := fun _ => tM) (i := i) ⟨e, f⟩, tu_n (P := fun x => na x = tM ∧ ¬ fl x = 0) (i := i) (fun w => w.2 f)] at z
          exact z
        · obtain ⟨a, b⟩ := hra s hs
          by_cases q : s = m
          · subst q
            rw [pk_us]
            refine ⟨fun _ => rfl, fun w => absurd ⟨⟨?_, ?_, ?_⟩, epd⟩ w⟩
            · rw [(ei s hs).mpr etx]; omega
            · rw [(ei s hs).mpr etx]; exact e
            · rw [(ei s hs).mpr etx]; exact f
          · rw [pk_un q]
            refine ⟨fun z => a ⟨⟨?_, z.1.2⟩, z.2⟩, fun z => b (fun w => z ⟨⟨by have := w.1.1; omega, w.1.2⟩, w.2⟩)⟩
            by_cases y : (tx s).toNatClampNeg = i
            · exact absurd (eun s hs ((ei s hs).mp y) z.2) q
            · have := z.1.1; omega
      · refine ti_xa2 (by omega) (by rw [tu_ge (Nat.le_refl i)]; exact f) (nm_r (nI_1 i) ?_)
        have z := ih (i + 1) rm (by omega) (keep (fun w => f w.2))
        rw [← tu_t (P := fun x => na x = tM) (i := i) e, tu_n (P := fun x => na x = tM ∧ fl x = 0) (g := fun _ => 1) (i := i) (fun w => f w.2), tu_n (P := fun x => na x = tM ∧ fl x = 0) (g := fun _ => tM) (i := i) (fun w => f w.2), ← tu_t (P := fun x => na x = tM ∧ ¬ fl x = 0) (i := i) ⟨e, f⟩] at z
        rw [tu_ge (f := ov) (Nat.le_refl i)]
        exact z
    · refine br_f e (nm_r (nI_1 i) ?_)
      have z := ih (i + 1) rm (by omega) (keep (fun w => e w.1))
      rw [tu_n (P := fun x => na x = tM) (i := i) e, tu_n (P := fun x => na x = tM ∧ fl x = 0) (g := fun _ => 1) (i := i) (fun w => e w.1), tu_n (P := fun x => na x = tM ∧ fl x = 0) (g := fun _ => tM) (i := i) (fun w => e w.1), tu_n (P := fun x => na x = tM ∧ ¬ fl x = 0) (i := i) (fun w => e w.1)] at z
      exact z
theorem tu_arr0 {post : St2 → Prop} (hc : c ≤ 8) (hn : n ≤ 16) (hh : ∀ x, x < c → ∃ m, m < n ∧ hd x = nI m ∧ tx m = nI x ∧ pd m = -1 ∧ ∀ s, s < n → tx s = nI x → pd s = -1 → s = m) (htx : ∀ s, s < n → ∃ y, y < c ∧ tx s = nI y)
    (hp : ∀ rm' : Nat → Int32, tu_RA n c tM tx pd cs na fl rm rm' → post (pN, pK, nI c, nI n, sT, tM, fR, pe, dl, hd, tl, os, ga, tx, rs, cs, pr, pd, nx, bX, tu_mk (fun x => na x = tM) (fun x => tM + pe x + ga x) na c, tu_mk (fun x => na x = tM ∧ fl x = 0) (fun _ => 1) fl c, tu_mk (fun x => na x = tM ∧ fl x = 0) (fun _ => tM) aa c, co, tu_mk (fun x => na x = tM ∧ ¬ fl x = 0) (fun x => ov x + 1) ov c, mx, rm', sX, lX)) :
    wX_takeArrivals_2 post (c + 1) (nI 0) pN pK (nI c) (nI n) sT tM fR pe dl hd tl os ga tx rs cs pr pd nx bX na fl aa co ov mx rm sX lX := by
  have z := tu_arr hc hn hh htx hp c 0 rm (by omega) (fun s hs => ⟨fun w => by have := w.1.1; omega, fun _ => rfl⟩)
  simp only [tu_0] at z
  exact z
/-! execution -/
def tu_EX (n i : Nat) (rs pr rm1 rm lX : Nat → Int32) : Prop := (∀ q, q < i → lX q = sn_mu rs pr rm1 (nI q) n) ∧ ∀ s, s < n → ((∃ q, q < i ∧ rs s = nI q ∧ lX q = nI s) → rm s = rm1 s - 1) ∧ ((¬ ∃ q, q < i ∧ rs s = nI q ∧ lX q = nI s) → rm s = rm1 s)
theorem tu_exe {post : St2 → Prop} (hp4 : p ≤ 4) (hn : n ≤ 16) {rm1 : Nat → Int32} (hp : ∀ rm' lX' : Nat → Int32, tu_EX n p rs pr rm1 rm' lX' → wX_execute_2 post 1 (nI p) (nI p) pK tC (nI n) sT tM fR pe dl hd tl os ga tx rs cs pr pd nx bX na fl aa co ov mx rm' sX lX') :
    ∀ (d i : Nat) (rm lX : Nat → Int32), i + d = p → tu_EX n i rs pr rm1 rm lX → wX_execute_2 post (d + 1) (nI i) (nI p) pK tC (nI n) sT tM fR pe dl hd tl os ga tx rs cs pr pd nx bX na fl aa co ov mx rm sX lX := by
  intro d
  induction d with
  | zero =>
    intro i rm lX hi hx
    have e : i = p := by omega
    subst e
    exact hp rm lX hx
  | succ d ih =>
    intro i rm lX hi hx
    obtain ⟨x1, x2⟩ := hx
    have non : ∀ s, s < n → rs s = nI i → ¬ ∃ q, q < i ∧ rs s = nI q ∧ lX q = nI s := by
      rintro s hs e ⟨q, hq, e1, _⟩
      rw [e] at e1
      have := (nI_eq (a := i) (b := q) (by omega) (by omega)).mp e1
      omega
    have eb : sn_mu rs pr rm (nI i) n = sn_mu rs pr rm1 (nI i) n := sn_mu_eq n (fun s hs e => (x2 s hs).2 (non s hs e))
    refine br_f (nI_ge (by omega) (by omega)) (ti_xm hn ?_)
    rcases sn_mu_some rs pr rm (nI i) n with b | ⟨j, hj, b, hr⟩
    · rw [b]
      refine ti_xw0 (by omega) (nm_r (nI_1 i) (ih (i + 1) rm (upd lX i (-1)) (by omega) ⟨fun q hq => ?_, fun s hs => ?_⟩))
      · by_cases e : q = i
        · rw [e, pk_us, ← eb, b]
        · rw [pk_un e]; exact x1 q (by omega)
      · have eq : (∃ q, q < i + 1 ∧ rs s = nI q ∧ upd lX i (-1) q = nI s) ↔ ∃ q, q < i ∧ rs s = nI q ∧ lX q = nI s := by
          constructor
          · rintro ⟨q, hq, e1, e2⟩
            by_cases z : q = i
            · rw [z, pk_us] at e2
              exact absurd e2.symm (bs_ne (by omega))
            · rw [pk_un z] at e2
              exact ⟨q, by omega, e1, e2⟩
          · rintro ⟨q, hq, e1, e2⟩
            exact ⟨q, by omega, e1, by rw [pk_un (by omega)]; exact e2⟩
        rw [eq]
        exact x2 s hs
    · rw [b]
      refine ti_xw1 (by omega) (by omega) (nm_r (nI_1 i) (ih (i + 1) (upd rm j (rm j - 1)) (upd lX i (nI j)) (by omega) ⟨fun q hq => ?_, fun s hs => ?_⟩))
      · by_cases e : q = i
        · rw [e, pk_us, ← eb, b]
        · rw [pk_un e]; exact x1 q (by omega)
      · by_cases z : s = j
        · subst z
          rw [pk_us]
          refine ⟨fun _ => by rw [(x2 s hs).2 (non s hs hr)], fun w => absurd ⟨i, by omega, hr, pk_us⟩ w⟩
        · have eq : (∃ q, q < i + 1 ∧ rs s = nI q ∧ upd lX i (nI j) q = nI s) ↔ ∃ q, q < i ∧ rs s = nI q ∧ lX q = nI s := by
            constructor
            · rintro ⟨q, hq, e1, e2⟩
              by_cases w : q = i
              · rw [w, pk_us] at e2
                exact absurd ((nI_eq (by omega) (by omega)).mp e2).symm z
              · rw [pk_un w] at e2
                exact ⟨q, by omega, e1, e2⟩
            · rintro ⟨q, hq, e1, e2⟩
              exact ⟨q, by omega, e1, by rw [pk_un (by omega)]; exact e2⟩
          rw [pk_un z, eq]
          exact x2 s hs
/-- behind the execution -/
def tu_EF (n p : Nat) (fR f1 : Int32) (rs pr rm1 rm lX : Nat → Int32) : Prop :=
  (∀ q, q < p → lX q = sn_mu rs pr rm1 (nI q) n) ∧ lX 8 = f1 ∧ (fR = -1 → f1 = sn_mu rs pr rm1 8 n) ∧ (¬ fR = -1 → f1 = fR) ∧
  ∀ s, s < n → (lX (rs s).toNatClampNeg = nI s → rm s = rm1 s - 1) ∧ (¬ lX (rs s).toNatClampNeg = nI s → rm s = rm1 s)
theorem tu_8 : (8 : Int32).toNatClampNeg = 8 := by decide
theorem tu_bus {post : St2 → Prop} (hp4 : p ≤ 4) (hn : n ≤ 16) (hr : ∀ s, s < n → rs s = 8 ∨ ∃ q, q < p ∧ rs s = nI q) (hfr : fR = -1 ∨ ∃ f, f < n ∧ fR = nI f ∧ rs f = 8) {rm1 : Nat → Int32} (hx : tu_EX n p rs pr rm1 rm lX)
    (hp : ∀ (f1 : Int32) (rm' lX' : Nat → Int32), tu_EF n p fR f1 rs pr rm1 rm' lX' → post (nI p, pK, tC, nI n, sT, tM, f1, pe, dl, hd, tl, os, ga, tx, rs, cs, pr, pd, nx, bX, na, fl, aa, co, ov, mx, rm', sX, lX')) : wX_execute_2 post 1 (nI p) (nI p) pK tC (nI n) sT tM fR pe dl hd tl os ga tx rs cs pr pd nx bX na fl aa co ov mx rm sX lX := by
  obtain ⟨x1, x2⟩ := hx
  have n8 : ∀ q, q < p → ¬ (8 : Int32) = nI q := fun q hq z => by
    have := (nI_eq (a := 8) (b := q) (by omega) (by omega)).mp z
    omega
  have non : ∀ s, s < n → rs s = 8 → ¬ ∃ q, q < p ∧ rs s = nI q ∧ lX q = nI s := by
    rintro s hs e ⟨q, hq, e1, _⟩
    exact n8 q hq (by rw [← e]; exact e1)
  have eb : sn_mu rs pr rm 8 n = sn_mu rs pr rm1 8 n := sn_mu_eq n (fun s hs e => (x2 s hs).2 (non s hs e))
  have onp : ∀ (v : Int32) s q, s < n → q < p → rs s = nI q → ((upd lX 8 v (rs s).toNatClampNeg = nI s) ↔ ∃ q, q < p ∧ rs s = nI q ∧ lX q = nI s) := by
    intro v s q hs hq e
    rw [e, nI_clamp (by omega), pk_un (by omega)]
    constructor
    · intro z; exact ⟨q, hq, rfl, z⟩
    · rintro ⟨q', hq', e1, e2⟩
      have := (nI_eq (a := q) (b := q') (by omega) (by omega)).mp e1
      rw [this]; exact e2
  have idle : ∀ f1, f1 = -1 → (fR = -1 → f1 = sn_mu rs pr rm1 8 n) → (¬ fR = -1 → f1 = fR) → tu_EF n p fR f1 rs pr rm1 rm (upd lX 8 f1) := by
    intro f1 e1 h1 h2
    refine ⟨fun q hq => by rw [pk_un (by omega)]; exact x1 q hq, pk_us, h1, h2, fun s hs => ?_⟩
    rcases hr s hs with e | ⟨q, hq, e⟩
    · rw [e, tu_8, pk_us, e1]
      exact ⟨fun z => absurd z.symm (bs_ne (by omega)), fun _ => (x2 s hs).2 (non s hs e)⟩
    · rw [onp f1 s q hs hq e]
      exact x2 s hs
  have busy : ∀ f1 j, j < n → f1 = nI j → rs j = 8 → (fR = -1 → f1 = sn_mu rs pr rm1 8 n) → (¬ fR = -1 → f1 = fR) → tu_EF n p fR f1 rs pr rm1 (upd rm j (rm j - 1)) (upd lX 8 f1) := by
    intro f1 j hj e1 hj8 h1 h2
    refine ⟨fun q hq => by rw [pk_un (by omega)]; exact x1 q hq, pk_us, h1, h2, fun s hs => ?_⟩
    by_cases z : s = j
    · subst z
      rw [hj8, tu_8, pk_us, pk_us, e1]
      exact ⟨fun _ => by rw [(x2 s hs).2 (non s hs hj8)], fun w => absurd rfl w⟩
    · rw [pk_un z]
      rcases hr s hs with e | ⟨q, hq, e⟩
      · rw [e, tu_8, pk_us, e1]
        exact ⟨fun w => absurd ((nI_eq (by omega) (by omega)).mp w).symm z, fun _ => (x2 s hs).2 (non s hs e)⟩
      · rw [onp f1 s q hs hq e]
        exact x2 s hs
  refine br_t (nI_le (by omega) (by omega)) ?_
  rcases hfr with rfl | ⟨f, hf, rfl, hf8⟩
  · refine br_t rfl (ti_xm hn ?_)
    rcases sn_mu_some rs pr rm 8 n with b | ⟨j, hj, b, hj8⟩
    · rw [b]
      exact ti_busx (Or.inl ⟨rfl, hp _ _ _ (idle _ rfl (fun _ => by rw [← eb, b]) (fun w => absurd rfl w))⟩)
    · rw [b]
      exact ti_busx (Or.inr ⟨j, by omega, rfl, hp _ _ _ (busy _ j hj rfl hj8 (fun _ => by rw [← eb, b]) (fun w => absurd rfl w))⟩)
  · exact br_f (bs_ne (by omega)) (ti_busx (Or.inr ⟨f, by omega, rfl, hp _ _ _ (busy _ f hf rfl hf8 (fun w => absurd w (bs_ne (by omega))) (fun _ => rfl))⟩))
end
