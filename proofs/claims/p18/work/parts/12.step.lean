/-! the component's tick: a step of the trace over naturals -/
section
variable {c n p H : Nat} {fR f1 fR' : Int32} {pe dl hd tl os ga tx rs cs pr pd nx na fl aa ov mx rm rm1 rm2 lX rm' fl' mx' : Nat → Int32} {naN flN aaN rmN : Nat → Nat}
noncomputable def pv_na (pe ga : Nat → Int32) (H : Nat) (naN : Nat → Nat) (x : Nat) : Nat := if naN x = H then H + an_C pe x + an_C ga x else naN x
noncomputable def pv_aa (H : Nat) (naN flN aaN : Nat → Nat) (x : Nat) : Nat := if naN x = H ∧ flN x = 0 then H else aaN x
noncomputable def pv_fl (fl' : Nat → Int32) (x : Nat) : Nat := (fl' x).toNatClampNeg
noncomputable def pv_rm (rm' : Nat → Int32) (s : Nat) : Nat := (rm' s).toNatClampNeg
/-- what the phases leave is a step of the trace -/
theorem pv_step (h : pv_C c n p pe dl hd tl tx rs cs pr pd nx) (hH : H ≤ 100000) (hga : ∀ x, x < c → ga x = nI (an_C ga x) ∧ an_C ga x ≤ 200) (hl : pv_L c n H na fl aa rm naN flN aaN rmN) (K : ∀ x, x < c → flN x ≤ 1) (hrm : ∀ s, s < n → tk_ro (an_C tx) pd (an_C cs) H naN flN rmN s ≤ an_C cs s)
    (hfr : fR = -1 ∨ ∃ f, f < n ∧ fR = nI f ∧ rs f = 8 ∧ 0 < tk_ro (an_C tx) pd (an_C cs) H naN flN rmN f)
    (hra : tu_RA n c (nI H) tx pd cs na fl rm rm1) (hef : tu_EF n p fR f1 rs pr rm1 rm2 lX)
    (hcm : tu_CM c n n (nI H) f1 tx rs cs pd nx lX (tu_mk (fun x => na x = nI H ∧ fl x = 0) (fun _ => nI H) aa c) rm2 (tu_mk (fun x => na x = nI H ∧ fl x = 0) (fun _ => 1) fl c) mx fR' rm' fl' mx') :
    tk_St n c (an_C tx) rs pr pd nx (an_C cs) (an_C pe) (an_C ga) H naN flN aaN rmN (pv_d rs lX) fR (pv_na pe ga H naN) (pv_fl fl') (pv_aa H naN flN aaN) (pv_rm rm') fR' ∧
    pv_L c n (H + 1) (tu_mk (fun x => na x = nI H) (fun x => nI H + pe x + ga x) na c) fl' (tu_mk (fun x => na x = nI H ∧ fl x = 0) (fun _ => nI H) aa c) rm' (pv_na pe ga H naN) (pv_fl fl') (pv_aa H naN flN aaN) (pv_rm rm') ∧
    (∀ x, x < c → mx' x = mx x ∨ ∃ s, s < n ∧ an_C tx s = x ∧ nx s = -1 ∧ pv_d rs lX s = 1 ∧ tk_ro (an_C tx) pd (an_C cs) H naN flN rmN s = 1 ∧ mx' x = ti_gr (mx x) (nI H + 1 - nI (pv_aa H naN flN aaN x))) := by
  have hcc := h.1
  have tkf := pv_tk h
  have hro := pv_mid h hH hl K hra
  have hro2 : ∀ s, s < n → tk_ro (an_C tx) pd (an_C cs) H naN flN rmN s < 2 ^ 31 := fun s hs => by
    have a := hrm s hs
    have b := (pv_cs h hs).2.2
    omega
  obtain ⟨w1, w2, w3, w4, w5⟩ := pv_who h hro hro2 hef hfr
  obtain ⟨l1, l2, l3, l4⟩ := hl
  obtain ⟨x1, x2, x3, x4, x5⟩ := hef
  obtain ⟨m1, m2, m3, m4⟩ := hcm
  have ena : ∀ x, x < c → (na x = nI H ↔ naN x = H) := fun x hx => by
    have a := l1 x hx
    rw [a.1, nI_eq (by omega) (by omega)]
  have efl : ∀ x, x < c → (fl x = 0 ↔ flN x = 0) := fun x hx => by
    have b := K x hx
    rw [l2 x hx, ← nI_0, nI_eq (by omega) (by omega)]
  have ear : ∀ x, x < c → ((na x = nI H ∧ fl x = 0) ↔ (naN x = H ∧ flN x = 0)) := fun x hx => by rw [ena x hx, efl x hx]
  -- behind the execution
  have erm2 : ∀ s, s < n → rm2 s = nI (tk_ro (an_C tx) pd (an_C cs) H naN flN rmN s - pv_d rs lX s) := by
    intro s hs
    by_cases q : lX (rs s).toNatClampNeg = nI s
    · have p0 := w1 s hs q
      rw [(x5 s hs).1 q, hro s hs, pv_d1.mpr q, show (1 : Int32) = nI 1 from rfl, pk_sub (by omega)]
    · rw [(x5 s hs).2 q, hro s hs]
      rcases pv_d01 (rs := rs) (lX := lX) (s := s) with z | z
      · rw [z]; rfl
      · exact absurd (pv_d1.mp z) q
  have ecp : ∀ s, s < n → (tu_cp rs lX rm2 s ↔ (pv_d rs lX s = 1 ∧ tk_ro (an_C tx) pd (an_C cs) H naN flN rmN s = 1)) := by
    intro s hs
    unfold tu_cp
    rw [← pv_d1]
    constructor
    · rintro ⟨a, b⟩
      refine ⟨a, ?_⟩
      have p0 := w1 s hs (pv_d1.mp a)
      have bb := hro2 s hs
      rw [erm2 s hs, a, ← nI_0, nI_eq (by omega) (by omega)] at b
      omega
    · rintro ⟨a, b⟩
      refine ⟨a, ?_⟩
      rw [erm2 s hs, a, b]; rfl
  have epd : ∀ s, s < n → ¬ pd s = -1 → (pd s).toNatClampNeg < n := fun s hs e => by
    have := (tkf.2.2.2.2.2.1 s hs e).1
    omega
  have erm' : ∀ s, s < n → ((¬ pd s = -1 ∧ pv_d rs lX (pd s).toNatClampNeg = 1 ∧ tk_ro (an_C tx) pd (an_C cs) H naN flN rmN (pd s).toNatClampNeg = 1) → rm' s = nI (an_C cs s)) ∧ (¬ (¬ pd s = -1 ∧ pv_d rs lX (pd s).toNatClampNeg = 1 ∧ tk_ro (an_C tx) pd (an_C cs) H naN flN rmN (pd s).toNatClampNeg = 1) → rm' s = nI (tk_ro (an_C tx) pd (an_C cs) H naN flN rmN s - pv_d rs lX s)) := by
    intro s hs
    obtain ⟨a, b⟩ := m1 s hs
    refine ⟨fun z => ?_, fun z => ?_⟩
    · rw [a ⟨z.1, epd s hs z.1, (ecp _ (epd s hs z.1)).mpr z.2⟩]
      exact (pv_cs h hs).1
    · rw [b (fun w => z ⟨w.1, (ecp _ (epd s hs w.1)).mp w.2.2⟩)]
      exact erm2 s hs
  have exs : ∀ x, x < c → ((∃ s, s < n ∧ tx s = nI x ∧ nx s = -1 ∧ tu_cp rs lX rm2 s) ↔ ∃ s, s < n ∧ an_C tx s = x ∧ nx s = -1 ∧ pv_d rs lX s = 1 ∧ tk_ro (an_C tx) pd (an_C cs) H naN flN rmN s = 1) := by
    intro x hx
    constructor
    · rintro ⟨s, hs, a, b, d⟩
      exact ⟨s, hs, (pv_xx h hs hx).mp a, b, (ecp s hs).mp d⟩
    · rintro ⟨s, hs, a, b, d⟩
      exact ⟨s, hs, (pv_xx h hs hx).mpr a, b, (ecp s hs).mpr d⟩
  have efl' : ∀ x, x < c → ((∃ s, s < n ∧ an_C tx s = x ∧ nx s = -1 ∧ pv_d rs lX s = 1 ∧ tk_ro (an_C tx) pd (an_C cs) H naN flN rmN s = 1) → fl' x = 0) ∧ ((¬ ∃ s, s < n ∧ an_C tx s = x ∧ nx s = -1 ∧ pv_d rs lX s = 1 ∧ tk_ro (an_C tx) pd (an_C cs) H naN flN rmN s = 1) → fl' x = nI (if naN x = H ∧ flN x = 0 then 1 else flN x)) := by
    intro x hx
    have a := m2 x hx
    rw [exs x hx] at a
    refine ⟨a.1, fun z => ?_⟩
    rw [a.2 z]
    by_cases q : naN x = H ∧ flN x = 0
    · rw [if_pos q, tu_p (P := fun x => na x = nI H ∧ fl x = 0) hx ((ear x hx).mpr q)]; rfl
    · rw [if_neg q, tu_q (P := fun x => na x = nI H ∧ fl x = 0) (fun w => q ((ear x hx).mp w))]
      exact l2 x hx
  have efv : ∀ x, x < c → fl' x = nI (pv_fl fl' x) := by
    intro x hx
    unfold pv_fl
    by_cases z : ∃ s, s < n ∧ an_C tx s = x ∧ nx s = -1 ∧ pv_d rs lX s = 1 ∧ tk_ro (an_C tx) pd (an_C cs) H naN flN rmN s = 1
    · rw [(efl' x hx).1 z]; rfl
    · have k := K x hx
      rw [(efl' x hx).2 z, nI_clamp (by split <;> omega)]
  have erv : ∀ s, s < n → rm' s = nI (pv_rm rm' s) := by
    intro s hs
    unfold pv_rm
    have a := (pv_cs h hs).2.2
    have b := hro2 s hs
    by_cases z : ¬ pd s = -1 ∧ pv_d rs lX (pd s).toNatClampNeg = 1 ∧ tk_ro (an_C tx) pd (an_C cs) H naN flN rmN (pd s).toNatClampNeg = 1
    · rw [(erm' s hs).1 z, nI_clamp (by omega)]
    · rw [(erm' s hs).2 z, nI_clamp (by omega)]
  have ea : ∀ x, x < c → tu_mk (fun x => na x = nI H ∧ fl x = 0) (fun _ => nI H) aa c x = nI (pv_aa H naN flN aaN x) := by
    intro x hx
    unfold pv_aa
    by_cases q : naN x = H ∧ flN x = 0
    · rw [if_pos q, tu_p (P := fun x => na x = nI H ∧ fl x = 0) hx ((ear x hx).mpr q)]
    · rw [if_neg q, tu_q (P := fun x => na x = nI H ∧ fl x = 0) (fun w => q ((ear x hx).mp w))]
      exact l3 x hx
  refine ⟨⟨fun x hx => rfl, fun x hx => rfl, fun s hs => ⟨fun z => ?_, fun z => ?_⟩, fun x hx => ⟨fun z => ?_, fun z => ?_⟩, fun s hs => ?_, fun s hs n8 hp => ?_, fun s hs e8 hp => ?_, fun j hj e8 hd => ?_, fun j hj e => ?_, fun j hj e8 hd h1 => ?_, fun j hj e => ?_⟩, ⟨fun x hx => ?_, efv, ea, erv⟩, fun x hx => ?_⟩
  · unfold pv_rm
    have a := (pv_cs h hs).2.2
    rw [(erm' s hs).1 z, nI_clamp (by omega)]
  · unfold pv_rm
    have b := hro2 s hs
    rw [(erm' s hs).2 z, nI_clamp (by omega)]
  · unfold pv_fl
    rw [(efl' x hx).1 z]; rfl
  · unfold pv_fl
    have k := K x hx
    rw [(efl' x hx).2 z, nI_clamp (by split <;> omega)]
  · rcases pv_d01 (rs := rs) (lX := lX) (s := s) with z | z
    · rw [z]; exact ⟨by omega, by omega⟩
    · have := w1 s hs (pv_d1.mp z)
      rw [z]; exact ⟨by omega, by omega⟩
  · obtain ⟨j, hj, a, b, d⟩ := w2 s hs n8 hp
    exact ⟨j, hj, a, pv_d1.mpr b, d⟩
  · obtain ⟨j, hj, a, b⟩ := w3 s hs e8 hp
    exact ⟨j, hj, a, pv_d1.mpr b⟩
  · exact w4 j hj e8 (pv_d1.mp hd)
  · -- the frame works on
    have ne : ¬ fR = -1 := by rw [e]; exact bs_ne (by omega)
    have e1 := x4 ne
    rw [e] at e1
    rw [pv_d1, w5 j hj e1, tu_8, x2, e1]
  · have e1 : f1 = nI j := by
      have := pv_d1.mp hd
      rw [e8, tu_8, x2] at this
      exact this
    rw [m4.2 (fun z => ?_)]
    · exact e1
    · obtain ⟨s, hs, a, b⟩ := z
      rw [e1] at a
      have es := (nI_eq (by omega) (by omega)).mp a
      subst es
      have := ((ecp s hs).mp b).2
      omega
  · have nz : ¬ ∃ s, s < n ∧ nI s = f1 ∧ tu_cp rs lX rm2 s := fun z => by
      rw [m4.1 z] at e
      exact bs_ne (by omega) e.symm
    have e1 := m4.2 nz
    rw [e] at e1
    have r8 := w5 j hj e1.symm
    have dj : lX (rs j).toNatClampNeg = nI j := by rw [r8, tu_8, x2]; exact e1.symm
    refine ⟨pv_d1.mpr dj, ?_⟩
    have p0 := w1 j hj dj
    by_cases q : tk_ro (an_C tx) pd (an_C cs) H naN flN rmN j = 1
    · exact absurd ⟨j, hj, e1, (ecp j hj).mpr ⟨pv_d1.mpr dj, q⟩⟩ nz
    · omega
  · have a := l1 x hx
    have b := (pv_pe h hx).1
    have g := hga x hx
    unfold pv_na
    by_cases q : naN x = H
    · rw [if_pos q, tu_p (P := fun x => na x = nI H) hx ((ena x hx).mpr q)]
      refine ⟨?_, by omega⟩
      show nI H + pe x + ga x = _
      rw [b.1, g.1, nI_add, nI_add]
    · rw [if_neg q, tu_q (P := fun x => na x = nI H) (fun w => q ((ena x hx).mp w))]
      exact ⟨a.1, by omega⟩
  · rcases m3 x hx with z | ⟨s, hs, z1, z2, z3, z4⟩
    · exact Or.inl z
    · refine Or.inr ⟨s, hs, (pv_xx h hs hx).mp z1, z2, ((ecp s hs).mp z3).1, ((ecp s hs).mp z3).2, ?_⟩
      rw [z4, ea x hx]
end
