/-! the law reckons a bound anew -/
/-- the component's arrays hold what the script says -/
def sl_Z (L : Nat) (xs : Nat → Int32) (c n : Nat) (pe dl tx rs cs pr : Nat → Int32) : Prop :=
  (∀ x, x < c → pe x = nI (sl_pe L xs x) ∧ dl x = nI (sl_dl L xs x)) ∧ ∀ s, s < n → tx s = nI (sl_tx L xs s) ∧ rs s = sl_rs L xs s ∧ cs s = nI (sl_cs L xs s) ∧ pr s = nI (sl_pr L xs s)
theorem sl_l0 : (0 : Int32).toInt64 = lN 0 := by decide
theorem sl_l1 : (1 : Int32).toInt64 = lN 1 := by decide
theorem sl_ldiv {a t : Nat} (ha : a ≤ 5000) (h1 : 1 ≤ t) (ht : t ≤ 200) : (lN a + lN t - 1) / lN t = lN ((a + t - 1) / t) := by
  rw [lN_add, show (1 : Int64) = lN 1 from rfl, lN_sub (by omega), pk_lDiv (by omega) (by omega) (by omega)]
section
variable {pN pK sT tM fR tC sC : Int32} {c n p kk : Nat} {pe dl hd tl os ga tx rs cs pr pd nx bX na fl aa co ov mx rm sX lX : Nat → Int32} {L : Nat} {xs : Nat → Int32} {R : Nat → Nat}
theorem sl_sb {post : Int32 → Prop} {q : Nat} (hn : n ≤ 16) (hb : ∀ s, s < n → bX s = nI (R s)) (hq : q < n) (hp : post (nI (R q))) : wpX_stepBound post (pN, pK, tC, nI n, 1, tM, fR, pe, dl, hd, tl, os, ga, tx, rs, cs, pr, pd, nx, bX, na, fl, aa, co, ov, mx, rm, sX, lX) (nI q) := by
  unfold wpX_stepBound
  refine sm_s1 hq (by omega) (br_f sm_1 (br_f sm_1 ⟨vp_in_nI (by omega) (by omega), ?_⟩))
  rw [nI_clamp (by omega), hb q hq]
  exact hp
theorem sl_jw {post : Int64 → Prop} {i : Nat} (hL : L ≤ 260) (h : pv_C c n p pe dl hd tl tx rs cs pr pd nx) (hz : sl_Z L xs c n pe dl tx rs cs pr) (hb : ∀ s, s < n → bX s = nI (R s)) (hR : ∀ s, s < n → R s ≤ 200) (hi : i < n) (hp : post (lN (fx_J pd R i))) : wpL_jit post L xs (pN, pK, tC, nI n, 1, tM, fR, pe, dl, hd, tl, os, ga, tx, rs, cs, pr, pd, nx, bX, na, fl, aa, co, ov, mx, rm, sX, lX) (nI i) := by
  have hn := h.1.2.2.1
  unfold wpL_jit
  refine sl_prd hL (by omega) ?_
  have e : sn_L (fun s => nI (sl_tx L xs s)) (nI (sl_tx L xs i)) i = pd i := by
    rw [h.2.2.2.2.2.1.2.2.1 i hi, (hz.2 i hi).1]
    exact sn_L_eq _ i (fun j hj => ((hz.2 j (by omega)).1).symm)
  rw [e]
  unfold fx_J at hp
  by_cases z : pd i = -1
  · rw [if_pos z] at hp
    exact br_f (by rw [z]; decide) hp
  · rw [if_neg z] at hp
    rcases pv_pd h hi with a | ⟨q, hq, a, _⟩
    · exact absurd a.1 z
    · rw [a] at hp ⊢
      rw [nI_clamp (by omega)] at hp
      refine br_t (nI_pos' (by omega)) (sl_sb hn hb (by omega) ?_)
      have := hR q (by omega)
      rw [nI_l (by omega)]
      exact hp
theorem sl_57 {post : Int64 → Prop} {i : Nat} {x4 : Int64} {x7 : Int32} (hL : L ≤ 260) (h : pv_C c n p pe dl hd tl tx rs cs pr pd nx) (hz : sl_Z L xs c n pe dl tx rs cs pr) (hi : i < n) : ∀ d k, k + d = n → (∃ m, wL_raw_128 post L xs (nI i) (nI n) x4 (rs i) x7 (pr i) (lN (fx_bl rs pr (an_C cs) i n)) 0 pN pK tC (nI n) 1 tM fR pe dl hd tl os ga tx rs cs pr pd nx bX na fl aa co ov mx rm sX lX m 0 0) → wL_raw_57 post L xs (nI i) (nI n) x4 (rs i) x7 (pr i) pN pK tC (nI n) 1 tM fR pe dl hd tl os ga tx rs cs pr pd nx bX na fl aa co ov mx rm sX lX (d + 1) (lN (fx_bl rs pr (an_C cs) i k)) (nI k) := by
  have hn := h.1.2.2.1
  have hH := pv_H h
  intro d
  induction d with
  | zero =>
    intro k hk hp
    have e : k = n := by omega
    subst e
    exact br_t (nI_le (by omega) (by omega)) hp
  | succ d ih =>
    intro k hk hp
    have z := ih (k + 1) (by omega) hp
    simp only [fx_bl] at z
    obtain ⟨_, z2, z3, z4⟩ := hz.2 k (by omega)
    have hck := pv_cs h (by omega : k < n)
    have ec : sl_cs L xs k = an_C cs k := by
      have b := sl_cs_b (L := L) (xs := xs) (i := k)
      unfold an_C
      rw [z3, nI_clamp (by omega)]
    have hbl := an_bl (rs := rs) (pr := pr) hH hi k (by omega)
    refine br_f (nI_ge (by omega) (by omega)) ?_
    by_cases q : k = i
    · rw [if_neg (fun w => Int32.lt_irrefl (by have := w.2; rw [q] at this; exact this))] at z
      exact br_t (by rw [q]) (nm_r (nI_1 k) z)
    · refine br_f (fun w => q ((nI_eq (by omega) (by omega)).mp w)) (sl_rsw hL (by omega) ?_)
      rw [← z2]
      by_cases e : rs k = rs i
      · refine br_t e (sl_prw hL (by omega) ?_)
        rw [← z4]
        by_cases g : pr i ≤ pr k
        · rw [if_neg (fun w => Int32.not_lt.mpr g w.2)] at z
          exact br_t g (nm_r (nI_1 k) z)
        · rw [if_pos ⟨e, Int32.not_le.mp g⟩] at z
          refine br_f g (sl_csw hL (by omega) ?_)
          rw [ec, nI_l (by omega)]
          by_cases w : fx_bl rs pr (an_C cs) i k < an_C cs k
          · rw [if_pos w] at z
            refine br_f (fun y => ?_) (sl_csw hL (by omega) ?_)
            · have := (lN_le (by omega) (by omega)).mp y
              omega
            · rw [ec, nI_l (by omega)]
              exact nm_r (nI_1 k) z
          · rw [if_neg w] at z
            exact br_t ((lN_le (by omega) (by omega)).mpr (by omega)) (nm_r (nI_1 k) z)
      · rw [if_neg (fun w => e w.1)] at z
        exact br_f e (nm_r (nI_1 k) z)
theorem sl_152 {post : Int64 → Prop} {J : Int64 → Int32 → Prop} {i w it B ld : Nat} {x4 : Int64} {x7 : Int32} (hL : L ≤ 260) (h : pv_C c n p pe dl hd tl tx rs cs pr pd nx) (hz : sl_Z L xs c n pe dl tx rs cs pr) (hb : ∀ s, s < n → bX s = nI (R s)) (hR : ∀ s, s < n → R s ≤ 200) (hi : i < n) (hw : w ≤ 200) (hB : B ≤ 20) (hld : (x7 = 0 ∧ ld = 0) ∨ (¬ x7 = 0 ∧ ld = 1)) (hit : it ≤ 1000)
    (hp1 : B + fx_sm rs pr (an_C cs) (an_T pe tx) (fx_J pd R) i (w + ld) n = w → wL_raw_265 post L xs (nI i) x4 x7 (lN w) 1 pN pK tC (nI n) 1 tM fR pe dl hd tl os ga tx rs cs pr pd nx bX na fl aa co ov mx rm sX lX)
    (hp0 : ¬ B + fx_sm rs pr (an_C cs) (an_T pe tx) (fx_J pd R) i (w + ld) n = w → J (lN (B + fx_sm rs pr (an_C cs) (an_T pe tx) (fx_J pd R) i (w + ld) n)) (nI (it + 1))) :
    ∀ d j, j + d = n → wL_raw_152 post L xs J (nI i) (nI n) x4 (rs i) x7 (pr i) (lN B) (lN w) 0 (nI it) pN pK tC (nI n) 1 tM fR pe dl hd tl os ga tx rs cs pr pd nx bX na fl aa co ov mx rm sX lX (d + 1) (lN (B + fx_sm rs pr (an_C cs) (an_T pe tx) (fx_J pd R) i (w + ld) j)) (nI j) := by
  have hn := h.1.2.2.1
  have hH := pv_H h
  have hJ : ∀ j, j < n → fx_J pd R j ≤ 200 := by
    intro j hj
    rcases an_J hH (fun s hs => Or.inl (hR s hs)) hj with z | z
    · exact z
    · unfold fx_J at z
      by_cases e : pd j = -1
      · rw [if_pos e] at z; omega
      · rw [if_neg e] at z
        rcases hH.2.1 j hj with y | ⟨q, hq, y⟩
        · exact absurd y e
        · rw [y, nI_clamp (by omega)] at z
          have := hR q hq
          omega
  intro d
  induction d with
  | zero =>
    intro j hj
    have e : j = n := by omega
    subst e
    have b := an_sm (rs := rs) (pr := pr) (s := i) (sp := w + ld) hH (by omega) (fun k hk _ => hJ k hk) j (Nat.le_refl j)
    refine br_t (nI_le (by omega) (by omega)) ?_
    by_cases q : B + fx_sm rs pr (an_C cs) (an_T pe tx) (fx_J pd R) i (w + ld) j = w
    · exact br_t (by rw [q]) (hp1 q)
    · exact br_f (fun z => q ((lN_eq (by omega) (by omega)).mp z)) (nm_r (nI_1 it) (hp0 q))
  | succ d ih =>
    intro j hj
    have z := ih (j + 1) (by omega)
    simp only [fx_sm] at z
    obtain ⟨z1, z2, z3, z4⟩ := hz.2 j (by omega)
    have hcj := pv_cs h (by omega : j < n)
    have ec : sl_cs L xs j = an_C cs j := by
      have b := sl_cs_b (L := L) (xs := xs) (i := j)
      unfold an_C
      rw [z3, nI_clamp (by omega)]
    have et : sl_pe L xs (sl_tx L xs j) = an_T pe tx j := by
      have b := sl_pe_b (L := L) (xs := xs) (x := sl_tx L xs j)
      have b2 := sl_tx_b (L := L) (xs := xs) (i := j)
      have b3 := sl_nt_b (L := L) (xs := xs)
      have hx := (pv_x h (by omega : j < n)).2
      have ex : an_C tx j = sl_tx L xs j := by unfold an_C; rw [z1, nI_clamp (by omega)]
      unfold an_T
      have e2 : (tx j).toNatClampNeg = sl_tx L xs j := ex
      rw [e2, (hz.1 _ (by rw [← ex]; exact hx)).1, nI_clamp (by omega)]
    have htj := hH.2.2.2.2.1 j (by omega)
    refine br_f (nI_ge (by omega) (by omega)) ?_
    by_cases q : j = i
    · rw [if_neg (fun w => Int32.lt_irrefl (by have := w.2; rw [q] at this; exact this))] at z
      exact br_t (by rw [q]) (nm_r (nI_1 j) z)
    · refine br_f (fun w => q ((nI_eq (by omega) (by omega)).mp w)) (sl_rsw hL (by omega) ?_)
      rw [← z2]
      by_cases e : rs j = rs i
      · refine br_t e (sl_prw hL (by omega) ?_)
        rw [← z4]
        by_cases g : pr j ≤ pr i
        · rw [if_neg (fun w => Int32.not_lt.mpr g w.2)] at z
          exact br_t g (nm_r (nI_1 j) z)
        · rw [if_pos ⟨e, Int32.not_le.mp g⟩, ← Nat.add_assoc] at z
          refine br_f g (sl_jw hL h hz hb hR (by omega : j < n) ?_)
          have hJj := hJ j (by omega)
          have b2 := sl_tx_b (L := L) (xs := xs) (i := j)
          have b3 := sl_nt_b (L := L) (xs := xs)
          have fin : ∀ (z0 : Int32), z0.toInt64 = lN ld → wL_raw_208 post L xs J (wL_raw_152 post L xs J (nI i) (nI n) x4 (rs i) x7 (pr i) (lN B) (lN w) 0 (nI it) pN pK tC (nI n) 1 tM fR pe dl hd tl os ga tx rs cs pr pd nx bX na fl aa co ov mx rm sX lX (d + 1)) (nI i) (nI n) x4 (rs i) x7 (pr i) (lN B) (lN w) 0 (nI it) (nI j) z0 (lN w + lN (fx_J pd R j)) (lN (B + fx_sm rs pr (an_C cs) (an_T pe tx) (fx_J pd R) i (w + ld) j)) pN pK tC (nI n) 1 tM fR pe dl hd tl os ga tx rs cs pr pd nx bX na fl aa co ov mx rm sX lX := by
            intro z0 e0
            unfold wL_raw_208
            refine sl_txw hL (by omega) (sl_pew hL (by omega) ?_)
            rw [et, nI_l (by omega), e0, lN_add, lN_add]
            refine ⟨fun y => ?_, ?_⟩
            · have := (lN_eq (a := an_T pe tx j) (b := 0) (by omega) (by omega)).mp y
              omega
            · rw [sl_ldiv (by omega) htj.2.1 htj.2.2]
              refine sl_csw hL (by omega) ?_
              rw [ec, nI_l (by omega), lN_mul, lN_add, show w + fx_J pd R j + ld = w + ld + fx_J pd R j from by omega]
              exact nm_e (nm_r (nI_1 j) z)
          rcases hld with ⟨h3, hl⟩ | ⟨h3, hl⟩
          · exact br_t h3 (fin 0 (by rw [hl]; exact sl_l0))
          · exact br_f h3 (fin 1 (by rw [hl]; exact sl_l1))
      · rw [if_neg (fun w => e w.1)] at z
        exact br_f e (nm_r (nI_1 j) z)
theorem sl_128 {post : Int64 → Prop} {i W B ld : Nat} {x4 : Int64} {x7 : Int32} (hL : L ≤ 260) (h : pv_C c n p pe dl hd tl tx rs cs pr pd nx) (hz : sl_Z L xs c n pe dl tx rs cs pr) (hb : ∀ s, s < n → bX s = nI (R s)) (hR : ∀ s, s < n → R s ≤ 200) (hi : i < n) (hB : B ≤ 20) (hld : (x7 = 0 ∧ ld = 0) ∨ (¬ x7 = 0 ∧ ld = 1)) (hW : W ≤ 200)
    (hm : ∀ a b, a ≤ b → B + fx_sm rs pr (an_C cs) (an_T pe tx) (fx_J pd R) i (a + ld) n ≤ B + fx_sm rs pr (an_C cs) (an_T pe tx) (fx_J pd R) i (b + ld) n)
    (hWf : B + fx_sm rs pr (an_C cs) (an_T pe tx) (fx_J pd R) i (W + ld) n = W) (hWl : ∀ u, u < W → B + fx_sm rs pr (an_C cs) (an_T pe tx) (fx_J pd R) i (u + ld) n ≠ u)
    (hp : wL_raw_265 post L xs (nI i) x4 x7 (lN W) 1 pN pK tC (nI n) 1 tM fR pe dl hd tl os ga tx rs cs pr pd nx bX na fl aa co ov mx rm sX lX) :
    ∀ f w it, W < w + f → w ≤ W → it ≤ w → w ≤ B + fx_sm rs pr (an_C cs) (an_T pe tx) (fx_J pd R) i (w + ld) n → wL_raw_128 post L xs (nI i) (nI n) x4 (rs i) x7 (pr i) (lN B) 0 pN pK tC (nI n) 1 tM fR pe dl hd tl os ga tx rs cs pr pd nx bX na fl aa co ov mx rm sX lX f (lN w) (nI it) := by
  intro f
  induction f with
  | zero => intro w it h1 h2; omega
  | succ f ih =>
    intro w it h1 h2 hit hle
    refine br_f (nI_ge (a := it) (b := 2000) (by omega) (by omega)) (br_f (fun y => ?_) ⟨n + 1, sl_152 hL h hz hb hR hi (by omega) hB hld (by omega) (fun e => ?_) (fun e => ?_) n 0 (by omega)⟩)
    · have := (lN_lt (a := 1000) (b := w) (by omega) (by omega)).mp y
      omega
    · have : w = W := by
        by_cases q : w < W
        · exact absurd e (hWl w q)
        · omega
      rw [this]; exact hp
    · have le := hm w W (by omega)
      rw [hWf] at le
      have up := hm w (B + fx_sm rs pr (an_C cs) (an_T pe tx) (fx_J pd R) i (w + ld) n) (by omega)
      exact ih _ _ (by omega) le (by omega) up
theorem sl_raw {post : Int64 → Prop} {i : Nat} (hL : L ≤ 260) (h : pv_C c n p pe dl hd tl tx rs cs pr pd nx) (hz : sl_Z L xs c n pe dl tx rs cs pr) (hns : sl_ns L xs = n) (hb : ∀ s, s < n → bX s = nI (R s)) (hG : pv_G n pe dl tx rs cs pr pd R) (hi : i < n) (hp : post (lN (R i))) : wpL_raw post L xs (pN, pK, tC, nI n, 1, tM, fR, pe, dl, hd, tl, os, ga, tx, rs, cs, pr, pd, nx, bX, na, fl, aa, co, ov, mx, rm, sX, lX) (nI i) := by
  have hn := h.1.2.2.1
  have hH := pv_H h
  have hci := pv_cs h hi
  have hRi := hG.1 i hi
  obtain ⟨_, z2, z3, z4⟩ := hz.2 i hi
  have ec : sl_cs L xs i = an_C cs i := by
    have b := sl_cs_b (L := L) (xs := xs) (i := i)
    unfold an_C
    rw [z3, nI_clamp (by omega)]
  have mono : ∀ B ld a b, a ≤ b → B + fx_sm rs pr (an_C cs) (an_T pe tx) (fx_J pd R) i (a + ld) n ≤ B + fx_sm rs pr (an_C cs) (an_T pe tx) (fx_J pd R) i (b + ld) n := fun B ld a b hab => Nat.add_le_add_left (fx_sm_le (by omega) n (fun j _ => Nat.le_refl _)) B
  obtain ⟨W, eW, lW, hW, er⟩ : ∃ w, fx_f n rs pr pd (an_C cs) (an_T pe tx) R i w = w ∧ (∀ u, u < w → fx_f n rs pr pd (an_C cs) (an_T pe tx) R i u ≠ u) ∧ fx_out rs pd (an_C cs) R i + w ≤ an_T dl tx i ∧ R i = fx_out rs pd (an_C cs) R i + w := by
    rcases hG.2 i hi with ⟨_, q⟩ | ⟨_, q | ⟨_, q⟩⟩
    · omega
    · exact q
    · omega
  unfold wpL_raw
  refine sl_nsw hL ?_
  rw [hns]
  refine sl_jw hL h hz hb hG.1 hi (sl_rsw hL (by omega) ?_)
  rw [← z2]
  by_cases e8 : rs i = 8
  · refine br_t e8 ?_
    unfold wL_raw_32
    refine sl_prw hL (by omega) (sl_csw hL (by omega) ?_)
    rw [← z4, ec, nI_l (by omega)]
    have ef : ∀ w, fx_f n rs pr pd (an_C cs) (an_T pe tx) R i w = fx_bl rs pr (an_C cs) i n + fx_sm rs pr (an_C cs) (an_T pe tx) (fx_J pd R) i (w + 1) n := by
      intro w
      unfold fx_f fx_base fx_lead
      rw [if_pos e8, if_pos e8]
    have eo : fx_out rs pd (an_C cs) R i = fx_J pd R i + an_C cs i := by unfold fx_out; rw [if_pos e8]
    refine br_f sm_1 ⟨n + 1, sl_57 hL h hz hi n 0 (by omega) ⟨W + 1, sl_128 (W := W) (ld := 1) hL h hz hb hG.1 hi (an_bl hH hi n (Nat.le_refl n)) (Or.inr ⟨sm_1, rfl⟩) (by omega) (mono _ 1) (by rw [← ef]; exact eW) (fun u hu => by rw [← ef]; exact lW u hu) ?_ (W + 1) 0 0 (by omega) (by omega) (by omega) (by omega)⟩⟩
    refine br_f sm_1 (br_f sm_1 (sl_csw hL (by omega) ?_))
    rw [ec, nI_l (by omega), lN_add, lN_add, show fx_J pd R i + W + an_C cs i = R i from by omega]
    exact hp
  · refine br_f e8 ?_
    unfold wL_raw_32
    refine sl_prw hL (by omega) (sl_csw hL (by omega) ?_)
    rw [← z4, ec, nI_l (by omega)]
    have ef : ∀ w, fx_f n rs pr pd (an_C cs) (an_T pe tx) R i w = an_C cs i + fx_sm rs pr (an_C cs) (an_T pe tx) (fx_J pd R) i (w + 0) n := by
      intro w
      unfold fx_f fx_base fx_lead
      rw [if_neg e8, if_neg e8]
    have eo : fx_out rs pd (an_C cs) R i = fx_J pd R i := by unfold fx_out; rw [if_neg e8]; rfl
    refine br_t rfl ⟨W + 1, sl_128 (W := W) (ld := 0) hL h hz hb hG.1 hi hci.2.2 (Or.inl ⟨rfl, rfl⟩) (by omega) (mono _ 0) (by rw [← ef]; exact eW) (fun u hu => by rw [← ef]; exact lW u hu) ?_ (W + 1) 0 0 (by omega) (by omega) (by omega) (by omega)⟩
    refine br_f sm_1 (br_t rfl ?_)
    rw [sl_l0, lN_add, lN_add, show fx_J pd R i + W + 0 = R i from by omega]
    exact hp
end
