/-! the law's loops -/
section
variable {pN pK sT tM fR tC sC : Int32} {c n p kk : Nat} {pe dl hd tl os ga tx rs cs pr pd nx bX na fl aa co ov mx rm sX lX : Nat → Int32} {L kc ks : Nat} {xs : Nat → Int32}
theorem la_169 (hL : L ≤ 260) (h : pv_C c n p pe dl hd tl tx rs cs pr pd nx) (hz : sl_Z L xs c n pe dl tx rs cs pr) (hnt : sl_nt L xs = c) (hns : sl_ns L xs = n) :
    ∀ (f k : Nat) (sT tM fR : Int32) (os ga bX na fl aa co ov mx rm sX lX : Nat → Int32), L ≤ k + f → k ≤ 264 → pv_I c n tM fR pe dl tl os ga tx rs cs pr pd nx na fl aa ov mx rm → pv_A n sT pe dl tx rs cs pr pd bX →
      wL_law_169 (fun r => r = 1) L xs (nI c) kc ks (f + 1) (nI k) (nI p) pK (nI c) (nI n) sT tM fR pe dl hd tl os ga tx rs cs pr pd nx bX na fl aa co ov mx rm sX lX := by
  have hcc := h.1
  intro f
  induction f with
  | zero =>
    intro k sT tM fR os ga bX na fl aa co ov mx rm sX lX h1 h2 hI hA
    exact br_t (nI_le (a := L) (b := k) (by omega) (by omega)) rfl
  | succ f ih =>
    intro k sT tM fR os ga bX na fl aa co ov mx rm sX lX h1 h2 hI hA
    by_cases e : L ≤ k
    · exact br_t (nI_le (a := L) (b := k) e (by omega)) rfl
    · have step : ∀ (sT tM fR : Int32) (os ga bX na fl aa co ov mx rm sX lX : Nat → Int32), pv_I c n tM fR pe dl tl os ga tx rs cs pr pd nx na fl aa ov mx rm → pv_A n sT pe dl tx rs cs pr pd bX → wL_law_302 (fun r => r = 1) L xs (wL_law_169 (fun r => r = 1) L xs (nI c) kc ks (f + 1)) (nI c) (nI k) kc ks (nI p) pK (nI c) (nI n) sT tM fR pe dl hd tl os ga tx rs cs pr pd nx bX na fl aa co ov mx rm sX lX := by
        intro sT tM fR os ga bX na fl aa co ov mx rm sX lX hI hA
        unfold wL_law_302
        exact ck_all hL h hz hnt hns hA hI.2.2.2.2 (br_f sm_1 (nm_r (nI_add k 4) (ih (k + 4) _ _ _ _ _ _ _ _ _ _ _ _ _ _ _ (by omega) (by omega) hI hA)))
      refine br_f (nI_ge (a := k) (b := L) (by omega) (by omega)) (sl_cell hL k (by omega) rfl (sl_m (k := 4) (by omega) (by omega) (sl_cell hL (k + 1) (by omega) (nI_1 k) (sl_cell hL (k + 2) (by omega) (nI_add k 2) (sl_cell hL (k + 3) (by omega) (nI_add k 3) ?_)))))
      refine br_c (fun _ => ?_) (fun _ => br_c (fun _ => ?_) (fun _ => br_c (fun _ => ?_) (fun _ => ?_)))
      · exact pv_ana h (fun r sT' bX' hA' => step _ _ _ _ _ _ _ _ _ _ _ _ _ _ _ hI hA')
      · exact sl_m (by omega) (by omega) (sl_m (k := 60) (by omega) (by omega) (sl_m (k := 60) (by omega) (by omega) (pv_set hcc.2.1 hcc.2.2.1 hI _ _ _ (fun r tM' fR' os' ga' na' fl' co' ov' mx' rm' sX' lX' hI' => step _ _ _ _ _ _ _ _ _ _ _ _ _ _ _ hI' hA))))
      · exact sl_m (k := 400) (by omega) (by omega) (pv_runc h hI _ (fun r tM' fR' na' fl' aa' co' ov' mx' rm' sX' lX' hI' => step _ _ _ _ _ _ _ _ _ _ _ _ _ _ _ hI' hA))
      · exact pv_set hcc.2.1 hcc.2.2.1 hI _ _ _ (fun r tM' fR' os' ga' na' fl' co' ov' mx' rm' sX' lX' hI' => step _ _ _ _ _ _ _ _ _ _ _ _ _ _ _ hI' hA)
/-- the configuration that the law has built -/
theorem la_C (hnt : sl_nt L xs = c) (hns : sl_ns L xs = n) (hp : sl_p L xs = p) (hz : sl_Z L xs c n pe dl tx rs cs pr) (hch : sn_Ch tx hd tl pd nx c n) : pv_C c n p pe dl hd tl tx rs cs pr pd nx := by
  have b1 := sl_nt_b (L := L) (xs := xs)
  have b2 := sl_ns_b (L := L) (xs := xs)
  have b3 := sl_p_b (L := L) (xs := xs)
  refine ⟨⟨by omega, by omega, by omega, by omega, by omega⟩, fun s hs => ⟨sl_tx L xs s, by rw [← hnt]; exact sl_tx_b, (hz.2 s hs).1⟩, fun s hs => ?_, fun s hs => ?_, fun x hx => ?_, hch, fun x hx => ?_, fun i j hi hj e1 e2 => ?_⟩
  · rw [(hz.2 s hs).2.1, ← hp]; exact sl_rs_b
  · have b := sl_cs_b (L := L) (xs := xs) (i := s)
    exact ⟨_, b.1, by omega, (hz.2 s hs).2.2.1⟩
  · have b := sl_pe_b (L := L) (xs := xs) (x := x)
    have b' := sl_dl_b (L := L) (xs := xs) (x := x)
    exact ⟨_, _, b'.1, b'.2, b.2, (hz.1 x hx).1, (hz.1 x hx).2⟩
  · rw [hch.1 x hx]
    rcases sn_F_some tx (nI x) n 0 with ⟨_, q⟩ | ⟨m, _, hm, q, _, _⟩
    · exfalso
      refine q x (by omega) (by omega) ?_
      rw [(hz.2 x (by omega)).1]
      unfold sl_tx
      rw [if_pos (by omega)]
    · rw [q]; exact bs_ne (by omega)
  · rw [(hz.2 i hi).2.2.2, (hz.2 j hj).2.2.2] at e2
    have bi := sl_pr_b (L := L) (xs := xs) (i := i)
    have bj := sl_pr_b (L := L) (xs := xs) (i := j)
    exact sl_pr_inj (by omega) (by omega) ((nI_eq (by omega) (by omega)).mp e2)
theorem la_69 (hL : L ≤ 260) (hnt : sl_nt L xs = c) (hns : sl_ns L xs = n) (hpp : sl_p L xs = p) :
    ∀ (d i : Nat) (tM fR : Int32) (hd tl os ga tx rs cs pr pd nx bX na fl aa co ov mx rm sX lX : Nat → Int32), i + d = n → sl_Z L xs c i pe dl tx rs cs pr → sn_Ch tx hd tl pd nx c i → pv_I c i tM fR pe dl tl os ga tx rs cs pr pd nx na fl aa ov mx rm → (∀ x, x < 8 → aa x = 0) →
      wL_law_69 (fun r => r = 1) L xs (nI c) (nI n) kc ks (d + 1) (nI i) (nI p) (nI 16) (nI c) (nI i) 0 tM fR pe dl hd tl os ga tx rs cs pr pd nx bX na fl aa co ov mx rm sX lX := by
  have b1 := sl_nt_b (L := L) (xs := xs)
  have b2 := sl_ns_b (L := L) (xs := xs)
  have b3 := sl_p_b (L := L) (xs := xs)
  intro d
  induction d with
  | zero =>
    intro i tM fR hd tl os ga tx rs cs pr pd nx bX na fl aa co ov mx rm sX lX hi hz hch hI haa
    have e : i = n := by omega
    subst e
    have h := la_C hnt hns hpp hz hch
    refine br_t (nI_le (by omega) (by omega)) (ck_all hL h hz hnt hns (fun z => absurd z (by decide)) hI.2.2.2.2 (br_f sm_1 (pv_ana h (fun r sT' bX' hA => ?_))))
    refine ck_all hL h hz hnt hns hA hI.2.2.2.2 (br_f sm_1 (pv_runc h hI _ (fun r' tM' fR' na' fl' aa' co' ov' mx' rm' sX' lX' hI' => ?_)))
    exact ck_all hL h hz hnt hns hA hI'.2.2.2.2 (br_f sm_1 ⟨L + 1, la_169 hL h hz hnt hns L 34 _ _ _ _ _ _ _ _ _ _ _ _ _ _ _ (by omega) (by omega) hI' hA⟩)
  | succ d ih =>
    intro i tM fR hd tl os ga tx rs cs pr pd nx bX na fl aa co ov mx rm sX lX hi hz hch hI haa
    have bc := sl_cs_b (L := L) (xs := xs) (i := i)
    have bp := sl_pr_b (L := L) (xs := xs) (i := i)
    have bt := sl_tx_b (L := L) (xs := xs) (i := i)
    refine br_f (nI_ge (by omega) (by omega)) (sl_txw hL (by omega) (sl_rsw hL (by omega) (sl_csw hL (by omega) (sl_prw hL (by omega) (pv_adds (by omega) (by omega) (by omega) (by omega) (by rw [← hpp]; exact sl_rs_b) bc.1 (by omega) bp.1 (by omega) (fun z => ?_) hch (fun hd' tl' pd' nx' hch' => br_t rfl (nm_r (nI_1 i) (ih (i + 1) _ _ _ _ _ _ _ _ _ _ _ _ _ _ _ _ _ _ _ _ _ _ (by omega) ⟨hz.1, fun s hs => ?_⟩ hch' (pv_rst (aaN := fun _ => 0) hI.1 hI.2.1 (fun x hx => haa x (by omega))) haa))))))))
    · obtain ⟨j, hj, _, e⟩ := z
      rw [(hz.2 j hj).2.2.2] at e
      have bj := sl_pr_b (L := L) (xs := xs) (i := j)
      have := sl_pr_inj (L := L) (xs := xs) (i := j) (j := i) (by omega) (by omega) ((nI_eq (by omega) (by omega)).mp e)
      omega
    · by_cases q : s = i
      · subst q
        rw [pk_us, pk_us, pk_us, pk_us]
        exact ⟨rfl, rfl, rfl, rfl⟩
      · rw [pk_un q, pk_un q, pk_un q, pk_un q]
        exact hz.2 s (by omega)
theorem la_30 (hL : L ≤ 260) (hnt : sl_nt L xs = c) (hns : sl_ns L xs = n) (hpp : sl_p L xs = p) :
    ∀ (d i : Nat) (tM fR : Int32) (pe dl hd tl os ga tx rs cs pr pd nx bX na fl aa co ov mx rm sX lX : Nat → Int32), i + d = c → (∀ x, x < i → pe x = nI (sl_pe L xs x) ∧ dl x = nI (sl_dl L xs x)) → sn_Ch tx hd tl pd nx i 0 → pv_I i 0 tM fR pe dl tl os ga tx rs cs pr pd nx na fl aa ov mx rm → (∀ x, x < 8 → aa x = 0) →
      wL_law_30 (fun r => r = 1) L xs (nI c) (nI n) kc ks (d + 1) (nI i) (nI p) (nI 16) (nI i) (nI 0) 0 tM fR pe dl hd tl os ga tx rs cs pr pd nx bX na fl aa co ov mx rm sX lX := by
  have b1 := sl_nt_b (L := L) (xs := xs)
  intro d
  induction d with
  | zero =>
    intro i tM fR pe dl hd tl os ga tx rs cs pr pd nx bX na fl aa co ov mx rm sX lX hi hz hch hI haa
    have e : i = c := by omega
    subst e
    exact br_t (nI_le (by omega) (by omega)) ⟨n + 1, la_69 hL hnt hns hpp n 0 _ _ _ _ _ _ _ _ _ _ _ _ _ _ _ _ _ _ _ _ _ _ (by omega) ⟨hz, fun s hs => by omega⟩ hch hI haa⟩
  | succ d ih =>
    intro i tM fR pe dl hd tl os ga tx rs cs pr pd nx bX na fl aa co ov mx rm sX lX hi hz hch hI haa
    have bp := sl_pe_b (L := L) (xs := xs) (x := i)
    have bd := sl_dl_b (L := L) (xs := xs) (x := i)
    have zero : ∀ f : Nat → Int32, (∀ x, x < i → f x = nI (an_C f x) ∧ an_C f x ≤ 200) → ∀ x, x < i + 1 → upd f i 0 x = nI (an_C (upd f i 0) x) ∧ an_C (upd f i 0) x ≤ 200 := by
      intro f hf x hx
      unfold an_C
      by_cases q : x = i
      · rw [q, pk_us]
        exact ⟨by decide, by decide⟩
      · rw [pk_un q]
        exact hf x (by omega)
    refine br_f (nI_ge (by omega) (by omega)) (sl_pew hL (by omega) (sl_dlw hL (by omega) (pv_addt (n := 0) (by omega) (by omega) bd.1 bd.2 bp.2 (br_t rfl (nm_r (nI_1 i) (ih (i + 1) _ _ _ _ _ _ _ _ _ _ _ _ _ _ _ _ _ _ _ _ _ _ _ _ (by omega) (fun x hx => ?_) (sn_Ch_tx hch (fun s hs => by omega) (by omega)) (pv_rst (aaN := fun _ => 0) (zero os hI.1) (zero ga hI.2.1) (fun x hx => haa x (by omega))) haa))))))
    by_cases q : x = i
    · subst q
      rw [pk_us, pk_us]
      exact ⟨rfl, rfl⟩
    · rw [pk_un q, pk_un q]
      exact hz x (by omega)
end
