/-! the component's tick as a step of the trace -/
def pv_C (c n p : Nat) (pe dl hd tl tx rs cs pr pd nx : Nat → Int32) : Prop :=
  (1 ≤ c ∧ c ≤ 8 ∧ n ≤ 16 ∧ 1 ≤ p ∧ p ≤ 4) ∧ (∀ s, s < n → ∃ y, y < c ∧ tx s = nI y) ∧ (∀ s, s < n → rs s = 8 ∨ ∃ q, q < p ∧ rs s = nI q) ∧ (∀ s, s < n → ∃ v, 1 ≤ v ∧ v ≤ 20 ∧ cs s = nI v) ∧
  (∀ x, x < c → ∃ a b, 1 ≤ b ∧ b ≤ a ∧ a ≤ 200 ∧ pe x = nI a ∧ dl x = nI b) ∧ sn_Ch tx hd tl pd nx c n ∧ (∀ x, x < c → ¬ hd x = -1) ∧ (∀ i j, i < n → j < n → rs i = rs j → pr i = pr j → i = j)
section
variable {c n p : Nat} {pe dl hd tl tx rs cs pr pd nx : Nat → Int32}
theorem pv_x (h : pv_C c n p pe dl hd tl tx rs cs pr pd nx) {s : Nat} (hs : s < n) : tx s = nI (an_C tx s) ∧ an_C tx s < c := by
  obtain ⟨y, hy, e⟩ := h.2.1 s hs
  have := h.1
  unfold an_C
  rw [e, nI_clamp (by omega)]
  exact ⟨rfl, hy⟩
theorem pv_xe (h : pv_C c n p pe dl hd tl tx rs cs pr pd nx) {s q : Nat} (hs : s < n) (hq : q < n) : an_C tx s = an_C tx q ↔ tx s = tx q := by
  have a := (pv_x h hs).1
  have b := (pv_x h hq).1
  exact ⟨fun e => by rw [a, b, e], fun e => by unfold an_C; rw [e]⟩
theorem pv_xx (h : pv_C c n p pe dl hd tl tx rs cs pr pd nx) {s x : Nat} (hs : s < n) (hx : x < c) : tx s = nI x ↔ an_C tx s = x := by
  obtain ⟨a, b⟩ := pv_x h hs
  have := h.1
  rw [a]
  exact nI_eq (by omega) (by omega)
theorem pv_cs (h : pv_C c n p pe dl hd tl tx rs cs pr pd nx) {s : Nat} (hs : s < n) : cs s = nI (an_C cs s) ∧ 1 ≤ an_C cs s ∧ an_C cs s ≤ 20 := an_v (by omega) (h.2.2.2.1 s hs)
theorem pv_pe (h : pv_C c n p pe dl hd tl tx rs cs pr pd nx) {x : Nat} (hx : x < c) : (pe x = nI (an_C pe x) ∧ 1 ≤ an_C pe x ∧ an_C pe x ≤ 200) ∧ (dl x = nI (an_C dl x) ∧ 1 ≤ an_C dl x ∧ an_C dl x ≤ an_C pe x) := by
  obtain ⟨a, b, h1, h2, h3, e1, e2⟩ := h.2.2.2.2.1 x hx
  unfold an_C
  rw [e1, e2, nI_clamp (by omega), nI_clamp (by omega)]
  exact ⟨⟨rfl, by omega, h3⟩, rfl, h1, h2⟩
theorem pv_pd (h : pv_C c n p pe dl hd tl tx rs cs pr pd nx) {s : Nat} (hs : s < n) : (pd s = -1 ∧ ∀ j, j < s → tx j ≠ tx s) ∨ ∃ q, q < s ∧ pd s = nI q ∧ tx q = tx s ∧ nx q = nI s := by
  obtain ⟨⟨_, _, hn, _⟩, _, _, _, _, ⟨_, _, h3, h4⟩, _⟩ := h
  rw [h3 s hs]
  rcases sn_L_some tx (tx s) s with ⟨a, b⟩ | ⟨q, hq, a, b, d⟩
  · exact Or.inl ⟨a, b⟩
  · refine Or.inr ⟨q, hq, a, b, ?_⟩
    rw [h4 q (by omega)]
    rcases sn_F_some tx (tx q) (n - (q + 1)) (q + 1) with ⟨_, e⟩ | ⟨j, j1, j2, j3, j4, j5⟩
    · exact absurd b.symm (e s (by omega) (by omega))
    · by_cases z : j = s
      · rw [j3, z]
      · by_cases w : j < s
        · exact absurd (j4.trans b) (d j (by omega) w)
        · exact absurd b.symm (j5 s (by omega) (by omega))
theorem pv_nx (h : pv_C c n p pe dl hd tl tx rs cs pr pd nx) {s : Nat} (hs : s < n) : nx s = -1 ∨ ∃ m, m < n ∧ nx s = nI m ∧ pd m = nI s ∧ tx m = tx s := by
  obtain ⟨⟨_, _, hn, _⟩, _, _, _, _, ⟨_, _, h3, h4⟩, _⟩ := h
  rw [h4 s hs]
  rcases sn_F_some tx (tx s) (n - (s + 1)) (s + 1) with ⟨a, _⟩ | ⟨m, m1, m2, m3, m4, m5⟩
  · exact Or.inl a
  · refine Or.inr ⟨m, by omega, m3, ?_, m4⟩
    rw [h3 m (by omega)]
    rcases sn_L_some tx (tx m) m with ⟨_, b⟩ | ⟨q, hq, a, b, d⟩
    · exact absurd m4.symm (b s (by omega))
    · by_cases z : q = s
      · rw [a, z]
      · by_cases w : q < s
        · exact absurd m4.symm (d s w (by omega))
        · exact absurd (b.trans m4) (m5 q (by omega) (by omega))
theorem pv_hd (h : pv_C c n p pe dl hd tl tx rs cs pr pd nx) : ∀ x, x < c → ∃ m, m < n ∧ hd x = nI m ∧ tx m = nI x ∧ pd m = -1 ∧ ∀ s, s < n → tx s = nI x → pd s = -1 → s = m := by
  intro x hx
  have hh := h.2.2.2.2.2.2.1 x hx
  have hc1 := h.2.2.2.2.2.1.1 x hx
  have hn := h.1.2.2.1
  rcases sn_F_some tx (nI x) n 0 with ⟨a, _⟩ | ⟨m, _, m2, m3, m4, m5⟩
  · exact absurd (by rw [hc1, a]) hh
  · refine ⟨m, by omega, by rw [hc1, m3], m4, ?_, fun s hs e1 e2 => ?_⟩
    · rcases pv_pd h (by omega : m < n) with z | ⟨q, hq, _, z, _⟩
      · exact z.1
      · exact absurd (z.trans m4) (m5 q (by omega) hq)
    · rcases pv_pd h hs with z | ⟨q, hq, z, _⟩
      · by_cases w : s < m
        · exact absurd e1 (m5 s (by omega) w)
        · by_cases y : s = m
          · exact y
          · exact absurd (m4.trans e1.symm) (z.2 m (by omega))
      · rw [e2] at z
        exact absurd z.symm (bs_ne (by omega))
theorem pv_tk (h : pv_C c n p pe dl hd tl tx rs cs pr pd nx) : tk_Cf n c (an_C tx) pd nx (an_C cs) := by
  have hn := h.1.2.2.1
  refine ⟨hn, fun s hs => (pv_x h hs).2, fun s hs => (pv_cs h hs).2.1, fun s q hs hq e e1 e2 => ?_, fun x hx => ?_, fun s hs e => ?_, fun s hs e => ?_⟩
  · have et := (pv_xe h hs hq).mp e
    rcases pv_pd h hs with a | ⟨j, hj, a, _⟩
    · rcases pv_pd h hq with b | ⟨j, hj, b, _⟩
      · by_cases w : s < q
        · exact absurd et (b.2 s w)
        · by_cases y : s = q
          · exact y
          · exact absurd et.symm (a.2 q (by omega))
      · rw [e2] at b
        exact absurd b.symm (bs_ne (by omega))
    · rw [e1] at a
      exact absurd a.symm (bs_ne (by omega))
  · obtain ⟨m, hm, _, et, ep, _⟩ := pv_hd h x hx
    exact ⟨m, hm, (pv_xx h hm hx).mp et, ep⟩
  · rcases pv_pd h hs with a | ⟨q, hq, a, b, d⟩
    · exact absurd a.1 e
    · rw [a, nI_clamp (by omega)]
      exact ⟨hq, (pv_xe h (by omega) hs).mpr b, d⟩
  · rcases pv_nx h hs with a | ⟨m, hm, a, b, d⟩
    · exact absurd a e
    · rw [a, nI_clamp (by omega)]
      exact ⟨hm, (pv_xe h hm hs).mpr d, b⟩
theorem pv_H (h : pv_C c n p pe dl hd tl tx rs cs pr pd nx) : an_H n pe dl tx cs pd := by
  have hn := h.1.2.2.1
  refine ⟨hn, fun j hj => ?_, fun s hs => ?_, fun s hs => pv_cs h hs, fun s hs => ?_, fun s hs => ?_⟩
  · rcases pv_pd h hj with a | ⟨q, hq, a, _⟩
    · exact Or.inl a.1
    · exact Or.inr ⟨q, by omega, a⟩
  · obtain ⟨y, hy, e⟩ := h.2.1 s hs
    have := h.1
    exact ⟨y, by omega, e⟩
  · exact (pv_pe h (pv_x h hs).2).1
  · have := pv_pe h (pv_x h hs).2
    exact ⟨this.2.1, this.2.2.1, Nat.le_trans this.2.2.2 this.1.2.2⟩
end
/-- the state at the end of a trace -/
def pv_L (c n H : Nat) (na fl aa rm : Nat → Int32) (naN flN aaN rmN : Nat → Nat) : Prop :=
  (∀ x, x < c → na x = nI (naN x) ∧ naN x ≤ H + 400) ∧ (∀ x, x < c → fl x = nI (flN x)) ∧ (∀ x, x < c → aa x = nI (aaN x)) ∧ (∀ s, s < n → rm s = nI (rmN s))
theorem pv_1 : nI 1 = 1 := by decide
section
variable {c n p H : Nat} {fR f1 fR' : Int32} {pe dl hd tl os ga tx rs cs pr pd nx na fl aa ov mx rm rm1 rm2 lX rm' fl' mx' : Nat → Int32} {naN flN aaN rmN : Nat → Nat}
theorem pv_mid (h : pv_C c n p pe dl hd tl tx rs cs pr pd nx) (hH : H ≤ 100000) (hl : pv_L c n H na fl aa rm naN flN aaN rmN) (hfl : ∀ x, x < c → flN x ≤ 1) (hra : tu_RA n c (nI H) tx pd cs na fl rm rm1) : ∀ s, s < n → rm1 s = nI (tk_ro (an_C tx) pd (an_C cs) H naN flN rmN s) := by
  intro s hs
  obtain ⟨l1, l2, l3, l4⟩ := hl
  obtain ⟨et, hx⟩ := pv_x h hs
  have hxc : (tx s).toNatClampNeg = an_C tx s := rfl
  have a := l1 _ hx
  have b := l2 _ hx
  have f := hfl _ hx
  have e1 : na (an_C tx s) = nI H ↔ naN (an_C tx s) = H := by rw [a.1, nI_eq (by omega) (by omega)]
  have e2 : fl (an_C tx s) = 0 ↔ flN (an_C tx s) = 0 := by rw [b, ← nI_0, nI_eq (by omega) (by omega)]
  obtain ⟨r1, r2⟩ := hra s hs
  rw [hxc, e1, e2] at r1 r2
  unfold tk_ro
  by_cases z : (naN (an_C tx s) = H ∧ flN (an_C tx s) = 0) ∧ pd s = -1
  · rw [if_pos z, r1 ⟨⟨hx, z.1⟩, z.2⟩]
    exact (pv_cs h hs).1
  · rw [if_neg z, r2 (fun w => z ⟨w.1.2, w.2⟩)]
    exact l4 s hs
noncomputable def pv_d (rs lX : Nat → Int32) (s : Nat) : Nat := @ite _ (lX (rs s).toNatClampNeg = nI s) (Classical.propDecidable _) 1 0
theorem pv_d1 {s : Nat} : pv_d rs lX s = 1 ↔ lX (rs s).toNatClampNeg = nI s := by
  unfold pv_d
  by_cases q : lX (rs s).toNatClampNeg = nI s
  · rw [if_pos q]; exact ⟨fun _ => q, fun _ => rfl⟩
  · rw [if_neg q]; exact ⟨fun z => absurd z (by decide), fun z => absurd z q⟩
theorem pv_d01 {s : Nat} : pv_d rs lX s = 0 ∨ pv_d rs lX s = 1 := by
  by_cases q : lX (rs s).toNatClampNeg = nI s
  · exact Or.inr (pv_d1.mpr q)
  · refine Or.inl ?_
    unfold pv_d
    rw [if_neg q]
/-- who worked had work -/
theorem pv_who (h : pv_C c n p pe dl hd tl tx rs cs pr pd nx) {ro : Nat → Nat} (hro : ∀ s, s < n → rm1 s = nI (ro s)) (hro2 : ∀ s, s < n → ro s < 2 ^ 31) (hef : tu_EF n p fR f1 rs pr rm1 rm2 lX) (hfr : fR = -1 ∨ ∃ f, f < n ∧ fR = nI f ∧ rs f = 8 ∧ 0 < ro f) :
    (∀ s, s < n → lX (rs s).toNatClampNeg = nI s → 0 < ro s) ∧
    (∀ s, s < n → ¬ rs s = 8 → 0 < ro s → ∃ j, j < n ∧ rs j = rs s ∧ lX (rs j).toNatClampNeg = nI j ∧ (j = s ∨ pr s < pr j)) ∧
    (∀ s, s < n → rs s = 8 → 0 < ro s → ∃ j, j < n ∧ rs j = 8 ∧ lX (rs j).toNatClampNeg = nI j) ∧
    (∀ j, j < n → rs j = 8 → lX (rs j).toNatClampNeg = nI j → (fR = -1 ∧ ∀ s, s < n → rs s = 8 → 0 < ro s → s = j ∨ pr s < pr j) ∨ fR = nI j) ∧
    (∀ j, j < n → f1 = nI j → rs j = 8) := by
  obtain ⟨⟨_, _, hn, _, hp4⟩, f1', f2, f3, f4, f5, f6, hu⟩ := h
  obtain ⟨x1, x2, x3, x4, _⟩ := hef
  have pos : ∀ s, s < n → (0 < rm1 s ↔ 0 < ro s) := by
    intro s hs
    rw [hro s hs, ← nI_0, nI_ltI (by omega) (hro2 s hs)]
  have best : ∀ s j, s < n → j < n → rs s = rs j → pr s ≤ pr j → s = j ∨ pr s < pr j := by
    intro s j hs hj e1 e2
    by_cases z : pr s = pr j
    · exact Or.inl (hu s j hs hj e1 z)
    · exact Or.inr (Int32.lt_of_le_of_ne e2 z)
  have bus : ∀ j, j < n → f1 = nI j → rs j = 8 ∧ 0 < ro j ∧ ((fR = -1 ∧ ∀ s, s < n → rs s = 8 → 0 < ro s → s = j ∨ pr s < pr j) ∨ fR = nI j) := by
    intro j hj e
    rcases hfr with z | ⟨f, hf, z, z8, zp⟩
    · rcases sn_mu_sp rs pr rm1 8 n (by omega) with ⟨a, _⟩ | ⟨m, hm, a, b, d, g⟩
      · rw [x3 z, a] at e
        exact absurd e.symm (bs_ne (by omega))
      · rw [x3 z, a] at e
        have em := (nI_eq (by omega) (by omega)).mp e
        subst em
        refine ⟨b, (pos m hm).mp d, Or.inl ⟨z, fun s hs e8 hp => best s m hs hm (by rw [e8, b]) (g s hs e8 ((pos s hs).mpr hp))⟩⟩
    · have ne : ¬ fR = -1 := by rw [z]; exact bs_ne (by omega)
      rw [x4 ne, z] at e
      have em := (nI_eq (by omega) (by omega)).mp e
      subst em
      exact ⟨z8, zp, Or.inr z⟩
  refine ⟨fun s hs e => ?_, fun s hs n8 hp => ?_, fun s hs e8 hp => ?_, fun j hj e8 e => ?_, fun j hj e => (bus j hj e).1⟩
  · rcases f2 s hs with e8 | ⟨q, hq, eq⟩
    · rw [e8, tu_8, x2] at e
      exact (bus s hs e).2.1
    · rw [eq, nI_clamp (by omega), x1 q hq] at e
      rcases sn_mu_sp rs pr rm1 (nI q) n (by omega) with ⟨a, _⟩ | ⟨m, hm, a, b, d, _⟩
      · rw [a] at e
        exact absurd e.symm (bs_ne (by omega))
      · rw [a] at e
        have em := (nI_eq (by omega) (by omega)).mp e
        subst em
        exact (pos m hm).mp d
  · rcases f2 s hs with e8 | ⟨q, hq, eq⟩
    · exact absurd e8 n8
    · rcases sn_mu_sp rs pr rm1 (nI q) n (by omega) with ⟨_, a⟩ | ⟨m, hm, a, b, d, g⟩
      · exact absurd ((pos s hs).mpr hp) (a s hs eq)
      · refine ⟨m, hm, by rw [b, eq], by rw [b, nI_clamp (by omega), x1 q hq, a], ?_⟩
        rcases best s m hs hm (by rw [b, eq]) (g s hs eq ((pos s hs).mpr hp)) with z | z
        · exact Or.inl z.symm
        · exact Or.inr z
  · rcases hfr with z | ⟨f, hf, z, z8, zp⟩
    · rcases sn_mu_sp rs pr rm1 8 n (by omega) with ⟨_, a⟩ | ⟨m, hm, a, b, d, g⟩
      · exact absurd ((pos s hs).mpr hp) (a s hs e8)
      · exact ⟨m, hm, b, by rw [b, tu_8, x2, x3 z, a]⟩
    · have ne : ¬ fR = -1 := by rw [z]; exact bs_ne (by omega)
      exact ⟨f, hf, z8, by rw [z8, tu_8, x2, x4 ne, z]⟩
  · rw [e8, tu_8, x2] at e
    exact (bus j hj e).2.2
end
