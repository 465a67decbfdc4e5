/-! a trace of ticks: the simulation's rules, element by element, and what they give
    na, fl, aa, rm, fr: next arrival, in flight, arrived at, remaining, frame AHEAD of tick t; d t s: 1 if s works in tick t -/
section
variable (n c H : Nat) (tx : Nat → Nat) (rs pr pd nx : Nat → Int32) (C T G : Nat → Nat) (na fl aa rm d : Nat → Nat → Nat) (fr : Nat → Int32)
def tk_rho (t s : Nat) : Nat := if (na t (tx s) = t ∧ fl t (tx s) = 0) ∧ pd s = -1 then C s else rm t s
def tk_al (t s : Nat) : Nat := if na t (tx s) = t ∧ fl t (tx s) = 0 then t else aa t (tx s)
def tk_cp (t s : Nat) : Prop := d t s = 1 ∧ tk_rho tx pd C na fl rm t s = 1
def tk_rl (t s : Nat) : Prop := ¬ pd s = -1 ∧ tk_cp tx pd C na fl rm d t (pd s).toNatClampNeg
/-- the chains -/
def tk_Cf : Prop :=
  n ≤ 16 ∧
  (∀ s, s < n → tx s < c) ∧
  (∀ s, s < n → 1 ≤ C s) ∧
  (∀ s q, s < n → q < n → tx s = tx q → pd s = -1 → pd q = -1 → s = q) ∧
  (∀ x, x < c → ∃ s, s < n ∧ tx s = x ∧ pd s = -1) ∧
  (∀ s, s < n → ¬ pd s = -1 → (pd s).toNatClampNeg < s ∧ tx (pd s).toNatClampNeg = tx s ∧ nx (pd s).toNatClampNeg = nI s) ∧
  (∀ s, s < n → ¬ nx s = -1 → (nx s).toNatClampNeg < n ∧ tx (nx s).toNatClampNeg = tx s ∧ pd (nx s).toNatClampNeg = nI s)
def tk_Run : Prop :=
  ((∀ x, x < c → fl 0 x = 0) ∧ (∀ s, s < n → rm 0 s = 0) ∧ fr 0 = -1) ∧
  (∀ t x, t < H → x < c → na (t + 1) x = if na t x = t then t + T x + G x else na t x) ∧
  (∀ t x, t < H → x < c → aa (t + 1) x = if na t x = t ∧ fl t x = 0 then t else aa t x) ∧
  (∀ t s, t < H → s < n → (tk_rl tx pd C na fl rm d t s → rm (t + 1) s = C s) ∧ (¬ tk_rl tx pd C na fl rm d t s → rm (t + 1) s = tk_rho tx pd C na fl rm t s - d t s)) ∧
  (∀ t x, t < H → x < c → ((∃ s, s < n ∧ tx s = x ∧ nx s = -1 ∧ tk_cp tx pd C na fl rm d t s) → fl (t + 1) x = 0) ∧ ((¬ ∃ s, s < n ∧ tx s = x ∧ nx s = -1 ∧ tk_cp tx pd C na fl rm d t s) → fl (t + 1) x = if na t x = t ∧ fl t x = 0 then 1 else fl t x)) ∧
  (∀ t s, t < H → s < n → d t s ≤ 1 ∧ d t s ≤ tk_rho tx pd C na fl rm t s) ∧
  (∀ t s, t < H → s < n → ¬ rs s = 8 → 0 < tk_rho tx pd C na fl rm t s → ∃ j, j < n ∧ rs j = rs s ∧ d t j = 1 ∧ (j = s ∨ pr s < pr j)) ∧
  (∀ t s, t < H → s < n → rs s = 8 → 0 < tk_rho tx pd C na fl rm t s → ∃ j, j < n ∧ rs j = 8 ∧ d t j = 1) ∧
  (∀ t j, t < H → j < n → rs j = 8 → d t j = 1 → (fr t = -1 ∧ ∀ s, s < n → rs s = 8 → 0 < tk_rho tx pd C na fl rm t s → s = j ∨ pr s < pr j) ∨ fr t = nI j) ∧
  (∀ t j, t < H → j < n → fr t = nI j → d t j = 1) ∧
  (∀ t j, t < H → j < n → rs j = 8 → d t j = 1 → 1 < tk_rho tx pd C na fl rm t j → fr (t + 1) = nI j) ∧
  (∀ t j, t < H → j < n → fr (t + 1) = nI j → d t j = 1 ∧ 1 < tk_rho tx pd C na fl rm t j)
/-- the same of one tick alone: what stands ahead of it, who works, what stands behind it -/
def tk_ro (t : Nat) (na fl rm : Nat → Nat) (s : Nat) : Nat := if (na (tx s) = t ∧ fl (tx s) = 0) ∧ pd s = -1 then C s else rm s
def tk_St (t : Nat) (na fl aa rm d : Nat → Nat) (fr : Int32) (na' fl' aa' rm' : Nat → Nat) (fr' : Int32) : Prop :=
  (∀ x, x < c → na' x = if na x = t then t + T x + G x else na x) ∧
  (∀ x, x < c → aa' x = if na x = t ∧ fl x = 0 then t else aa x) ∧
  (∀ s, s < n → ((¬ pd s = -1 ∧ d (pd s).toNatClampNeg = 1 ∧ tk_ro tx pd C t na fl rm (pd s).toNatClampNeg = 1) → rm' s = C s) ∧ (¬ (¬ pd s = -1 ∧ d (pd s).toNatClampNeg = 1 ∧ tk_ro tx pd C t na fl rm (pd s).toNatClampNeg = 1) → rm' s = tk_ro tx pd C t na fl rm s - d s)) ∧
  (∀ x, x < c → ((∃ s, s < n ∧ tx s = x ∧ nx s = -1 ∧ d s = 1 ∧ tk_ro tx pd C t na fl rm s = 1) → fl' x = 0) ∧ ((¬ ∃ s, s < n ∧ tx s = x ∧ nx s = -1 ∧ d s = 1 ∧ tk_ro tx pd C t na fl rm s = 1) → fl' x = if na x = t ∧ fl x = 0 then 1 else fl x)) ∧
  (∀ s, s < n → d s ≤ 1 ∧ d s ≤ tk_ro tx pd C t na fl rm s) ∧
  (∀ s, s < n → ¬ rs s = 8 → 0 < tk_ro tx pd C t na fl rm s → ∃ j, j < n ∧ rs j = rs s ∧ d j = 1 ∧ (j = s ∨ pr s < pr j)) ∧
  (∀ s, s < n → rs s = 8 → 0 < tk_ro tx pd C t na fl rm s → ∃ j, j < n ∧ rs j = 8 ∧ d j = 1) ∧
  (∀ j, j < n → rs j = 8 → d j = 1 → (fr = -1 ∧ ∀ s, s < n → rs s = 8 → 0 < tk_ro tx pd C t na fl rm s → s = j ∨ pr s < pr j) ∨ fr = nI j) ∧
  (∀ j, j < n → fr = nI j → d j = 1) ∧
  (∀ j, j < n → rs j = 8 → d j = 1 → 1 < tk_ro tx pd C t na fl rm j → fr' = nI j) ∧
  (∀ j, j < n → fr' = nI j → d j = 1 ∧ 1 < tk_ro tx pd C t na fl rm j)
def tk_Rn : Prop :=
  ((∀ x, x < c → fl 0 x = 0) ∧ (∀ s, s < n → rm 0 s = 0) ∧ fr 0 = -1) ∧ ∀ t, t < H → tk_St n c tx rs pr pd nx C T G t (na t) (fl t) (aa t) (rm t) (d t) (fr t) (na (t + 1)) (fl (t + 1)) (aa (t + 1)) (rm (t + 1)) (fr (t + 1))
def tk_K (t : Nat) : Prop :=
  (∀ x, x < c → fl t x ≤ 1) ∧
  (∀ s, s < n → 0 < rm t s → fl t (tx s) = 1) ∧
  (∀ s q, s < n → q < n → tx s = tx q → 0 < rm t s → 0 < rm t q → s = q) ∧
  (∀ s, s < n → rm t s ≤ C s) ∧
  (∀ x, x < c → fl t x = 1 → ∃ s, s < n ∧ tx s = x ∧ 0 < rm t s) ∧
  (∀ x, x < c → fl t x = 1 → aa t x < t ∧ aa t x + T x ≤ na t x)
/-- the same within a tick, behind the arrivals -/
def tk_M (t : Nat) : Prop :=
  (∀ s, s < n → 0 < tk_rho tx pd C na fl rm t s → (na t (tx s) = t ∧ fl t (tx s) = 0) ∨ fl t (tx s) = 1) ∧
  (∀ s q, s < n → q < n → tx s = tx q → 0 < tk_rho tx pd C na fl rm t s → 0 < tk_rho tx pd C na fl rm t q → s = q) ∧
  (∀ s, s < n → tk_rho tx pd C na fl rm t s ≤ C s) ∧
  (∀ x, x < c → ((na t x = t ∧ fl t x = 0) ∨ fl t x = 1) → ∃ s, s < n ∧ tx s = x ∧ 0 < tk_rho tx pd C na fl rm t s)
/-- what is left of s from before tick t -/
def tk_cv (t s : Nat) : Nat := match t with
  | 0 => 0
  | u + 1 => tk_rho tx pd C na fl rm u s - d u s
/-- s is released for tick t -/
def tk_rel (t s : Nat) : Prop := ((na t (tx s) = t ∧ fl t (tx s) = 0) ∧ pd s = -1) ∨ match t with
  | 0 => False
  | u + 1 => tk_rl tx pd C na fl rm d u s
noncomputable def tk_e (t s : Nat) : Nat := @ite _ (tk_rel tx pd C na fl rm d t s) (Classical.propDecidable _) 1 0
end
section
variable {n c H : Nat} {tx : Nat → Nat} {rs pr pd nx : Nat → Int32} {C T G : Nat → Nat} {na fl aa rm d : Nat → Nat → Nat} {fr : Nat → Int32}
theorem tk_of (h : tk_Rn n c H tx rs pr pd nx C T G na fl aa rm d fr) : tk_Run n c H tx rs pr pd nx C T G na fl aa rm d fr :=
  ⟨h.1, fun t x ht hx => (h.2 t ht).1 x hx, fun t x ht hx => (h.2 t ht).2.1 x hx, fun t s ht hs => (h.2 t ht).2.2.1 s hs, fun t x ht hx => (h.2 t ht).2.2.2.1 x hx, fun t s ht hs => (h.2 t ht).2.2.2.2.1 s hs, fun t s ht hs => (h.2 t ht).2.2.2.2.2.1 s hs, fun t s ht hs => (h.2 t ht).2.2.2.2.2.2.1 s hs, fun t j ht hj => (h.2 t ht).2.2.2.2.2.2.2.1 j hj, fun t j ht hj => (h.2 t ht).2.2.2.2.2.2.2.2.1 j hj, fun t j ht hj => (h.2 t ht).2.2.2.2.2.2.2.2.2.1 j hj, fun t j ht hj => (h.2 t ht).2.2.2.2.2.2.2.2.2.2 j hj⟩
/-- one tick more -/
def tk_ad {α : Type} (k : Nat) (f : Nat → α) (v : α) : Nat → α := fun t => if t = k then v else f t
theorem tk_ad_s {α : Type} {k : Nat} {f : Nat → α} {v : α} : tk_ad k f v k = v := if_pos rfl
theorem tk_ad_n {α : Type} {k t : Nat} {f : Nat → α} {v : α} (h : t ≠ k) : tk_ad k f v t = f t := if_neg h
theorem tk_ext (h : tk_Rn n c H tx rs pr pd nx C T G na fl aa rm d fr) {dd na' fl' aa' rm' : Nat → Nat} {fr' : Int32} (hs : tk_St n c tx rs pr pd nx C T G H (na H) (fl H) (aa H) (rm H) dd (fr H) na' fl' aa' rm' fr') :
    tk_Rn n c (H + 1) tx rs pr pd nx C T G (tk_ad (H + 1) na na') (tk_ad (H + 1) fl fl') (tk_ad (H + 1) aa aa') (tk_ad (H + 1) rm rm') (tk_ad H d dd) (tk_ad (H + 1) fr fr') := by
  refine ⟨?_, fun t ht => ?_⟩
  · rw [tk_ad_n (by omega), tk_ad_n (by omega), tk_ad_n (by omega)]
    exact h.1
  · by_cases e : t = H
    · subst e
      rw [tk_ad_n (by omega), tk_ad_n (by omega), tk_ad_n (by omega), tk_ad_n (by omega), tk_ad_s, tk_ad_n (by omega), tk_ad_s, tk_ad_s, tk_ad_s, tk_ad_s, tk_ad_s]
      exact hs
    · rw [tk_ad_n (by omega), tk_ad_n (by omega), tk_ad_n (by omega), tk_ad_n (by omega), tk_ad_n (by omega), tk_ad_n (by omega), tk_ad_n (by omega), tk_ad_n (by omega), tk_ad_n (by omega), tk_ad_n (by omega), tk_ad_n (by omega)]
      exact h.2 t (by omega)
theorem tk_KM (hf : tk_Cf n c tx pd nx C) {t : Nat} (K : tk_K n c tx C T na fl aa rm t) : tk_M n c tx pd C na fl rm t := by
  obtain ⟨_, f1, f2, f3, f4, _, _⟩ := hf
  obtain ⟨k0, k1, k2, k3, k4, _⟩ := K
  have cs : ∀ s, s < n → 0 < tk_rho tx pd C na fl rm t s → ((na t (tx s) = t ∧ fl t (tx s) = 0) ∧ pd s = -1) ∨ (0 < rm t s ∧ fl t (tx s) = 1) := by
    intro s hs h
    unfold tk_rho at h
    by_cases q : (na t (tx s) = t ∧ fl t (tx s) = 0) ∧ pd s = -1
    · exact Or.inl q
    · rw [if_neg q] at h
      exact Or.inr ⟨h, k1 s hs h⟩
  refine ⟨fun s hs h => ?_, fun s q hs hq e h1 h2 => ?_, fun s hs => ?_, fun x hx h => ?_⟩
  · rcases cs s hs h with z | z
    · exact Or.inl z.1
    · exact Or.inr z.2
  · rcases cs s hs h1 with z | z
    · rcases cs q hq h2 with w | w
      · exact f3 s q hs hq e z.2 w.2
      · rw [← e] at w
        have := z.1.2
        omega
    · rcases cs q hq h2 with w | w
      · rw [← e] at w
        have := w.1.2
        omega
      · exact k2 s q hs hq e z.1 w.1
  · unfold tk_rho
    by_cases q : (na t (tx s) = t ∧ fl t (tx s) = 0) ∧ pd s = -1
    · rw [if_pos q]; exact Nat.le_refl _
    · rw [if_neg q]; exact k3 s hs
  · rcases h with h | h
    · obtain ⟨s, hs, e, hp⟩ := f4 x hx
      refine ⟨s, hs, e, ?_⟩
      unfold tk_rho
      rw [if_pos ⟨by rw [e]; exact h, hp⟩]
      exact f2 s hs
    · obtain ⟨s, hs, e, hp⟩ := k4 x hx h
      refine ⟨s, hs, e, ?_⟩
      unfold tk_rho
      rw [if_neg (fun z => by rw [e] at z; have := z.1.2; omega)]
      exact hp
theorem tk_K0 (hr : tk_Run n c H tx rs pr pd nx C T G na fl aa rm d fr) : tk_K n c tx C T na fl aa rm 0 := by
  obtain ⟨⟨r1, r2, _⟩, _⟩ := hr
  refine ⟨fun x hx => by rw [r1 x hx]; omega, fun s hs h => by rw [r2 s hs] at h; omega, fun s q hs hq e h => by rw [r2 s hs] at h; omega, fun s hs => by rw [r2 s hs]; omega, fun x hx h => by rw [r1 x hx] at h; omega, fun x hx h => by rw [r1 x hx] at h; omega⟩
theorem tk_Ks (hf : tk_Cf n c tx pd nx C) (hr : tk_Run n c H tx rs pr pd nx C T G na fl aa rm d fr) {t : Nat} (ht : t < H) (K : tk_K n c tx C T na fl aa rm t) : tk_K n c tx C T na fl aa rm (t + 1) := by
  have M := tk_KM hf K
  obtain ⟨m1, m2, m3, m4⟩ := M
  obtain ⟨hn16, f1, f2, f3, f4, f5, f6⟩ := hf
  obtain ⟨k0, k1, k2, k3, k4, k5⟩ := K
  obtain ⟨_, rn, ra, rr, rf, rd, _⟩ := hr
  -- a step that has work left behind the tick: carried over, or released
  have cs : ∀ s, s < n → 0 < rm (t + 1) s → (tk_rl tx pd C na fl rm d t s ∧ rm (t + 1) s = C s) ∨ (rm (t + 1) s = tk_rho tx pd C na fl rm t s - d t s ∧ 0 < tk_rho tx pd C na fl rm t s ∧ ¬ tk_cp tx pd C na fl rm d t s) := by
    intro s hs h
    by_cases q : tk_rl tx pd C na fl rm d t s
    · exact Or.inl ⟨q, (rr t s ht hs).1 q⟩
    · have e := (rr t s ht hs).2 q
      refine Or.inr ⟨e, by omega, fun z => ?_⟩
      have a := z.1
      have b := z.2
      omega
  have tl : ∀ s, s < n → 0 < rm (t + 1) s → fl (t + 1) (tx s) = 1 ∧ ∃ p, p < n ∧ tx p = tx s ∧ 0 < tk_rho tx pd C na fl rm t p := by
    intro s hs h
    have key : ∃ p, p < n ∧ tx p = tx s ∧ 0 < tk_rho tx pd C na fl rm t p ∧ ¬ (nx p = -1 ∧ tk_cp tx pd C na fl rm d t p) := by
      rcases cs s hs h with ⟨q, _⟩ | ⟨_, b, w⟩
      · obtain ⟨a1, a2, a3⟩ := f5 s hs q.1
        refine ⟨_, by omega, a2, by have := q.2.2; omega, fun z => ?_⟩
        rw [a3] at z
        have hn : ¬ nI s = -1 := sn_ne (by omega)
        exact hn z.1
      · exact ⟨s, hs, rfl, b, fun z => w z.2⟩
    obtain ⟨p, hp, e, hpos, hn⟩ := key
    refine ⟨?_, p, hp, e, hpos⟩
    have hx := f1 s hs
    have no : ¬ ∃ q, q < n ∧ tx q = tx s ∧ nx q = -1 ∧ tk_cp tx pd C na fl rm d t q := by
      rintro ⟨q, hq, eq, h1, h2⟩
      have : q = p := m2 q p hq hp (by rw [eq, e]) (by have := h2.2; omega) hpos
      rw [this] at h1 h2
      exact hn ⟨h1, h2⟩
    rw [(rf t (tx s) ht hx).2 no]
    have y := m1 p hp hpos
    rw [e] at y
    by_cases z : na t (tx s) = t ∧ fl t (tx s) = 0
    · rw [if_pos z]
    · rw [if_neg z]
      rcases y with y | y
      · exact absurd y z
      · exact y
  have fle : ∀ x, x < c → fl (t + 1) x = 0 ∨ ((¬ ∃ s, s < n ∧ tx s = x ∧ nx s = -1 ∧ tk_cp tx pd C na fl rm d t s) ∧ fl (t + 1) x = if na t x = t ∧ fl t x = 0 then 1 else fl t x) := by
    intro x hx
    by_cases q : ∃ s, s < n ∧ tx s = x ∧ nx s = -1 ∧ tk_cp tx pd C na fl rm d t s
    · exact Or.inl ((rf t x ht hx).1 q)
    · exact Or.inr ⟨q, (rf t x ht hx).2 q⟩
  have fl1 : ∀ x, x < c → fl (t + 1) x = 1 → (¬ ∃ s, s < n ∧ tx s = x ∧ nx s = -1 ∧ tk_cp tx pd C na fl rm d t s) ∧ ((na t x = t ∧ fl t x = 0) ∨ (¬ (na t x = t ∧ fl t x = 0) ∧ fl t x = 1)) := by
    intro x hx h
    rcases fle x hx with z | ⟨z, w⟩
    · omega
    · refine ⟨z, ?_⟩
      by_cases q : na t x = t ∧ fl t x = 0
      · exact Or.inl q
      · rw [if_neg q] at w
        exact Or.inr ⟨q, by omega⟩
  refine ⟨fun x hx => ?_, fun s hs h => (tl s hs h).1, fun s q hs hq e h1 h2 => ?_, fun s hs => ?_, fun x hx h => ?_, fun x hx h => ?_⟩
  · rcases fle x hx with z | ⟨_, z⟩
    · omega
    · have := k0 x hx
      by_cases q : na t x = t ∧ fl t x = 0
      · rw [if_pos q] at z; omega
      · rw [if_neg q] at z; omega
  · rcases cs s hs h1 with ⟨a, _⟩ | ⟨_, a, a'⟩
    · obtain ⟨p1, p2, p3⟩ := f5 s hs a.1
      have pa := a.2.2
      rcases cs q hq h2 with ⟨b, _⟩ | ⟨_, b, b'⟩
      · obtain ⟨q1, q2, q3⟩ := f5 q hq b.1
        have pb := b.2.2
        have g := m2 _ _ (by omega : (pd s).toNatClampNeg < n) (by omega : (pd q).toNatClampNeg < n) (by rw [p2, q2, e]) (by omega) (by omega)
        rw [g, q3] at p3
        exact ((nI_eq (by omega) (by omega)).mp p3).symm
      · have g := m2 _ q (by omega : (pd s).toNatClampNeg < n) hq (by rw [p2, e]) (by omega) b
        rw [← g] at b'
        exact absurd a.2 b'
    · rcases cs q hq h2 with ⟨b, _⟩ | ⟨_, b, b'⟩
      · obtain ⟨q1, q2, q3⟩ := f5 q hq b.1
        have pb := b.2.2
        have g := m2 s _ hs (by omega : (pd q).toNatClampNeg < n) (by rw [q2, e]) a (by omega)
        rw [g] at a'
        exact absurd b.2 a'
      · exact m2 s q hs hq e a b
  · by_cases z : 0 < rm (t + 1) s
    · rcases cs s hs z with ⟨_, a⟩ | ⟨a, _, _⟩
      · omega
      · have := m3 s hs
        omega
    · omega
  · obtain ⟨no, y⟩ := fl1 x hx h
    obtain ⟨s, hs, e, hp⟩ := m4 x hx (by rcases y with y | y; exact Or.inl y; exact Or.inr y.2)
    by_cases q : tk_cp tx pd C na fl rm d t s
    · have hnx : ¬ nx s = -1 := fun z => no ⟨s, hs, e, z, q⟩
      obtain ⟨a1, a2, a3⟩ := f6 s hs hnx
      refine ⟨_, a1, by rw [a2, e], ?_⟩
      have rl : tk_rl tx pd C na fl rm d t (nx s).toNatClampNeg := by
        refine ⟨?_, ?_⟩
        · rw [a3]; exact sn_ne (by omega)
        · rw [a3, nI_clamp (by omega)]; exact q
      rw [(rr t _ ht a1).1 rl]
      exact f2 _ a1
    · refine ⟨s, hs, e, ?_⟩
      by_cases w : tk_rl tx pd C na fl rm d t s
      · rw [(rr t s ht hs).1 w]; exact f2 s hs
      · rw [(rr t s ht hs).2 w]
        have a := rd t s ht hs
        have b : ¬ (d t s = 1 ∧ tk_rho tx pd C na fl rm t s = 1) := q
        omega
  · obtain ⟨no, y⟩ := fl1 x hx h
    rw [ra t x ht hx, rn t x ht hx]
    rcases y with y | ⟨y1, y2⟩
    · rw [if_pos y, if_pos y.1]; omega
    · have := k5 x hx y2
      rw [if_neg y1]
      by_cases z : na t x = t
      · rw [if_pos z]; omega
      · rw [if_neg z]; omega
end
section
variable {n c H : Nat} {tx : Nat → Nat} {rs pr pd nx : Nat → Int32} {C T G : Nat → Nat} {na fl aa rm d : Nat → Nat → Nat} {fr : Nat → Int32}
theorem tk_Kall (hf : tk_Cf n c tx pd nx C) (hr : tk_Run n c H tx rs pr pd nx C T G na fl aa rm d fr) : ∀ t, t ≤ H → tk_K n c tx C T na fl aa rm t := by
  intro t
  induction t with
  | zero => intro _; exact tk_K0 hr
  | succ t ih => intro h; exact tk_Ks hf hr (by omega) (ih (by omega))
theorem tk_e1 {t s : Nat} : tk_e tx pd C na fl rm d t s = 1 ↔ tk_rel tx pd C na fl rm d t s := by
  unfold tk_e
  by_cases q : tk_rel tx pd C na fl rm d t s
  · rw [if_pos q]; exact ⟨fun _ => q, fun _ => rfl⟩
  · rw [if_neg q]; exact ⟨fun z => absurd z (by decide), fun z => absurd z q⟩
theorem tk_e01 {t s : Nat} : tk_e tx pd C na fl rm d t s = 0 ∨ tk_e tx pd C na fl rm d t s = 1 := by
  by_cases q : tk_rel tx pd C na fl rm d t s
  · exact Or.inr (tk_e1.mpr q)
  · refine Or.inl ?_
    unfold tk_e
    rw [if_neg q]
theorem tk_cv0 (hf : tk_Cf n c tx pd nx C) (hr : tk_Run n c H tx rs pr pd nx C T G na fl aa rm d fr) {t s : Nat} (ht : t ≤ H) (hs : s < n) (h : tk_rel tx pd C na fl rm d t s) : tk_cv tx pd C na fl rm d t s = 0 := by
  cases t with
  | zero => rfl
  | succ u =>
    have K := tk_Kall hf hr u (by omega)
    have K' := tk_Kall hf hr (u + 1) ht
    have M := tk_KM hf K
    obtain ⟨_, _, _, rr, _, rd, _⟩ := hr
    show tk_rho tx pd C na fl rm u s - d u s = 0
    rcases h with ⟨⟨h1, h2⟩, h3⟩ | h
    · have nr : ¬ tk_rl tx pd C na fl rm d u s := fun z => z.1 h3
      rw [← (rr u s (by omega) hs).2 nr]
      by_cases z : 0 < rm (u + 1) s
      · have := K'.2.1 s hs z
        omega
      · omega
    · obtain ⟨h1, h2⟩ : tk_rl tx pd C na fl rm d u s := h
      obtain ⟨a1, a2, a3⟩ := hf.2.2.2.2.2.1 s hs h1
      by_cases z : 0 < tk_rho tx pd C na fl rm u s
      · have := M.2.1 _ s (by omega) hs a2 (by have := h2.2; omega) z
        omega
      · omega
theorem tk_rhoE (hf : tk_Cf n c tx pd nx C) (hr : tk_Run n c H tx rs pr pd nx C T G na fl aa rm d fr) {t s : Nat} (ht : t ≤ H) (hs : s < n) : tk_cv tx pd C na fl rm d t s + C s * tk_e tx pd C na fl rm d t s = tk_rho tx pd C na fl rm t s := by
  by_cases q : tk_rel tx pd C na fl rm d t s
  · rw [tk_e1.mpr q, tk_cv0 hf hr ht hs q, Nat.mul_one, Nat.zero_add]
    unfold tk_rho
    by_cases z : (na t (tx s) = t ∧ fl t (tx s) = 0) ∧ pd s = -1
    · rw [if_pos z]
    · rw [if_neg z]
      rcases q with q | q
      · exact absurd q z
      · cases t with
        | zero => exact absurd q (fun w => w)
        | succ u => exact ((hr.2.2.2.1 u s (by omega) hs).1 q).symm
  · have e0 : tk_e tx pd C na fl rm d t s = 0 := by
      rcases tk_e01 (tx := tx) (pd := pd) (C := C) (na := na) (fl := fl) (rm := rm) (d := d) (t := t) (s := s) with z | z
      · exact z
      · exact absurd (tk_e1.mp z) q
    rw [e0, Nat.mul_zero, Nat.add_zero]
    have nz : ¬ ((na t (tx s) = t ∧ fl t (tx s) = 0) ∧ pd s = -1) := fun z => q (Or.inl z)
    unfold tk_rho
    rw [if_neg nz]
    cases t with
    | zero => exact (hr.1.2.1 s hs).symm
    | succ u =>
      have nr : ¬ tk_rl tx pd C na fl rm d u s := fun z => q (Or.inr z)
      exact ((hr.2.2.2.1 u s (by omega) hs).2 nr).symm
/-- arrivals of one transaction that release a step twice are a period apart -/
theorem tk_sp (hf : tk_Cf n c tx pd nx C) (hr : tk_Run n c H tx rs pr pd nx C T G na fl aa rm d fr) {r j : Nat} (hj : j < n) (hrH : r < H) (he : tk_rel tx pd C na fl rm d r j) :
    ∀ i, r + i < H → tk_al tx na fl aa r j + T (tx j) ≤ na (r + i + 1) (tx j) ∧ (tk_al tx na fl aa r j + T (tx j) ≤ tk_al tx na fl aa (r + i) j ∨ (tk_al tx na fl aa (r + i) j = tk_al tx na fl aa r j ∧ ∀ q, q < n → tx q = tx j → 0 < tk_rho tx pd C na fl rm (r + i) q → j ≤ q)) := by
  have hx := hf.2.1 j hj
  have nat : ∀ t, t < H → (na t (tx j) = t ∧ fl t (tx j) = 0) ∨ fl t (tx j) = 1 → tk_al tx na fl aa t j + T (tx j) ≤ na (t + 1) (tx j) := by
    intro t ht h
    have K := tk_Kall hf hr t (by omega)
    rw [hr.2.1 t (tx j) ht hx]
    unfold tk_al
    by_cases z : na t (tx j) = t ∧ fl t (tx j) = 0
    · rw [if_pos z, if_pos z.1]; omega
    · rw [if_neg z]
      rcases h with h | h
      · exact absurd h z
      · have := K.2.2.2.2.2 (tx j) hx h
        by_cases w : na t (tx j) = t
        · rw [if_pos w]; omega
        · rw [if_neg w]; omega
  have pj : 0 < tk_rho tx pd C na fl rm r j := by
    rw [← tk_rhoE hf hr (by omega) hj, tk_e1.mpr he]
    have := hf.2.2.1 j hj
    omega
  intro i
  induction i with
  | zero =>
    intro h
    have M := tk_KM hf (tk_Kall hf hr r (by omega))
    refine ⟨nat r hrH (M.1 j hj pj), Or.inr ⟨rfl, fun q hq e hp => ?_⟩⟩
    exact Nat.le_of_eq (M.2.1 j q hj hq e.symm pj hp)
  | succ i ih =>
    intro h
    obtain ⟨ih1, ih2⟩ := ih (by omega)
    have hn := hr.2.1 (r + i + 1) (tx j) (by omega) hx
    have ea := hr.2.2.1 (r + i) (tx j) (by omega) hx
    have eal : tk_al tx na fl aa (r + i + 1) j = if na (r + i + 1) (tx j) = r + i + 1 ∧ fl (r + i + 1) (tx j) = 0 then r + i + 1 else tk_al tx na fl aa (r + i) j := by
      unfold tk_al
      rw [ea]
    refine ⟨?_, ?_⟩
    · show tk_al tx na fl aa r j + T (tx j) ≤ na (r + i + 1 + 1) (tx j)
      rw [hn]
      by_cases w : na (r + i + 1) (tx j) = r + i + 1
      · rw [if_pos w]; omega
      · rw [if_neg w]; exact ih1
    · show tk_al tx na fl aa r j + T (tx j) ≤ tk_al tx na fl aa (r + i + 1) j ∨ (tk_al tx na fl aa (r + i + 1) j = tk_al tx na fl aa r j ∧ ∀ q, q < n → tx q = tx j → 0 < tk_rho tx pd C na fl rm (r + i + 1) q → j ≤ q)
      by_cases w : na (r + i + 1) (tx j) = r + i + 1 ∧ fl (r + i + 1) (tx j) = 0
      · rw [eal, if_pos w]
        have := w.1
        exact Or.inl (by omega)
      · rw [eal, if_neg w]
        rcases ih2 with y | ⟨y1, y2⟩
        · exact Or.inl y
        · refine Or.inr ⟨y1, fun q hq e hp => ?_⟩
          have e1 : tk_rho tx pd C na fl rm (r + i + 1) q = rm (r + i + 1) q := by
            unfold tk_rho
            rw [if_neg (fun z => w (by rw [e] at z; exact z.1))]
          rw [e1] at hp
          by_cases z : tk_rl tx pd C na fl rm d (r + i) q
          · obtain ⟨a1, a2, a3⟩ := hf.2.2.2.2.2.1 q hq z.1
            have := y2 (pd q).toNatClampNeg (by omega) (by rw [a2, e]) (by have := z.2.2; omega)
            omega
          · rw [(hr.2.2.2.1 (r + i) q (by omega) hq).2 z] at hp
            exact y2 q hq e (by omega)
theorem tk_Tr (hf : tk_Cf n c tx pd nx C) (hr : tk_Run n c H tx rs pr pd nx C T G na fl aa rm d fr) : tq_Tr n H pd C (fun j => T (tx j)) d (tk_e tx pd C na fl rm d) (tk_cv tx pd C na fl rm d) (tk_al tx na fl aa) := by
  have rd := hr.2.2.2.2.2.1
  refine ⟨fun t j ht hj => ⟨(rd t j ht hj).1, ?_⟩, fun j hj => rfl, fun t j ht hj => ?_, fun t j ht hj h => tk_cv0 hf hr (by omega) hj (tk_e1.mp h), fun t j ht hj h => ?_, fun t j ht hj h => ?_, fun r1 r2 j h12 h2 hj e1 e2 => ?_⟩
  · rcases tk_e01 (tx := tx) (pd := pd) (C := C) (na := na) (fl := fl) (rm := rm) (d := d) (t := t) (s := j) with z | z <;> omega
  · rw [tk_rhoE hf hr (by omega) hj]
    have := (rd t j ht hj).2
    show tk_rho tx pd C na fl rm t j - d t j + d t j = _
    omega
  · -- what goes on keeps its arrival
    have K := tk_Kall hf hr (t + 1) (by omega)
    have hx := hf.2.1 j hj
    have E := tk_rhoE hf hr (t := t + 1) (by omega) hj
    have nr : ¬ tk_rel tx pd C na fl rm d (t + 1) j := fun z => by
      have := tk_cv0 hf hr (by omega) hj z
      omega
    have e1 : tk_rho tx pd C na fl rm (t + 1) j = rm (t + 1) j := by
      unfold tk_rho
      rw [if_neg (fun z => nr (Or.inl z))]
    have p : 0 < rm (t + 1) j := by omega
    have f1 := K.2.1 j hj p
    unfold tk_al
    rw [hr.2.2.1 t (tx j) (by omega) hx, if_neg (fun z => by have := z.2; omega)]
  · have hx := hf.2.1 j hj
    have hrel := tk_e1.mp h
    have K := tk_Kall hf hr t (by omega)
    by_cases z : na t (tx j) = t ∧ fl t (tx j) = 0
    · have ea : tk_al tx na fl aa t j = t := by unfold tk_al; rw [if_pos z]
      rw [ea]
      refine ⟨Nat.le_refl t, ?_⟩
      rcases hrel with y | y
      · exact Or.inl ⟨y.2, Nat.le_refl t⟩
      · exfalso
        cases t with
        | zero => exact y
        | succ u =>
          have a := (hr.2.2.2.1 u j (by omega) hj).1 y
          have b := K.2.1 j hj (by rw [a]; exact hf.2.2.1 j hj)
          have := z.2
          omega
    · have ea : tk_al tx na fl aa t j = aa t (tx j) := by unfold tk_al; rw [if_neg z]
      rcases hrel with y | y
      · exact absurd y.1 z
      · cases t with
        | zero => exact absurd y (fun w => w)
        | succ u =>
          have y' : tk_rl tx pd C na fl rm d u j := y
          have a := (hr.2.2.2.1 u j (by omega) hj).1 y'
          have b := K.2.1 j hj (by rw [a]; exact hf.2.2.1 j hj)
          have g := K.2.2.2.2.2 (tx j) hx b
          obtain ⟨a1, a2, a3⟩ := hf.2.2.2.2.2.1 j hj y'.1
          rw [ea]
          refine ⟨by omega, Or.inr ⟨y'.1, by omega, by omega, y'.2.1, ?_, ?_⟩⟩
          · show tk_rho tx pd C na fl rm u (pd j).toNatClampNeg - d u (pd j).toNatClampNeg = 0
            have := y'.2.1
            have := y'.2.2
            omega
          · show tk_al tx na fl aa u (pd j).toNatClampNeg = aa (u + 1) (tx j)
            unfold tk_al
            rw [hr.2.2.1 u (tx j) (by omega) hx, a2]
  · have q1 := tk_e1.mp e1
    have q2 := tk_e1.mp e2
    show tk_al tx na fl aa r1 j + T (tx j) ≤ tk_al tx na fl aa r2 j
    rcases q2 with y | y
    · obtain ⟨a, _⟩ := tk_sp hf hr hj (by omega) q1 (r2 - 1 - r1) (by omega)
      rw [show r1 + (r2 - 1 - r1) + 1 = r2 from by omega, y.1.1] at a
      have ea : tk_al tx na fl aa r2 j = r2 := by unfold tk_al; rw [if_pos y.1]
      rw [ea]; exact a
    · cases r2 with
      | zero => exact absurd y (fun w => w)
      | succ u =>
        have y' : tk_rl tx pd C na fl rm d u j := y
        obtain ⟨a1, a2, a3⟩ := hf.2.2.2.2.2.1 j hj y'.1
        have hx := hf.2.1 j hj
        obtain ⟨_, b⟩ := tk_sp hf hr hj (by omega) q1 (u - r1) (by omega)
        rw [show r1 + (u - r1) = u from by omega] at b
        have eal : tk_al tx na fl aa (u + 1) j = tk_al tx na fl aa u j := by
          have K := tk_Kall hf hr (u + 1) (by omega)
          have w := (hr.2.2.2.1 u j (by omega) hj).1 y'
          have f1 := K.2.1 j hj (by rw [w]; exact hf.2.2.1 j hj)
          unfold tk_al
          rw [hr.2.2.1 u (tx j) (by omega) hx, if_neg (fun z => by have := z.2; omega)]
        rw [eal]
        rcases b with b | ⟨_, b⟩
        · exact b
        · have := b _ (by omega) a2 (by have := y'.2.2; omega)
          omega
theorem tk_Pr (hf : tk_Cf n c tx pd nx C) (hr : tk_Run n c H tx rs pr pd nx C T G na fl aa rm d fr) : tq_Pr n H rs pr C d (tk_e tx pd C na fl rm d) (tk_cv tx pd C na fl rm d) := by
  intro t s ht hs h8 h
  rw [tk_rhoE hf hr (by omega) hs] at h
  exact hr.2.2.2.2.2.2.1 t s ht hs h8 h
theorem tk_Bu (hf : tk_Cf n c tx pd nx C) (hr : tk_Run n c H tx rs pr pd nx C T G na fl aa rm d fr) : tq_Bu n H rs pr C d (tk_e tx pd C na fl rm d) (tk_cv tx pd C na fl rm d) := by
  obtain ⟨_, _, _, _, _, _, _, b1, b2, b3, b4, b5⟩ := id hr
  refine ⟨fun t s ht hs h8 h => ?_, fun t j ht hj h8 h => ?_, fun t j ht hj h8 h hc => ?_⟩
  · rw [tk_rhoE hf hr (by omega) hs] at h
    exact b1 t s ht hs h8 h
  · rcases b2 t j ht hj h8 h with ⟨_, z⟩ | z
    · refine Or.inl (fun s hs hs8 hp => ?_)
      rw [tk_rhoE hf hr (by omega) hs] at hp
      exact z s hs hs8 hp
    · cases t with
      | zero =>
        exfalso
        rw [hr.1.2.2] at z
        exact sn_ne (i := j) (by have := hf.1; omega) z.symm
      | succ u =>
        obtain ⟨a1, a2⟩ := b5 u j (by omega) hj z
        refine Or.inr ⟨by omega, a1, ?_⟩
        show 0 < tk_rho tx pd C na fl rm u j - d u j
        omega
  · have : 0 < tk_rho tx pd C na fl rm t j - d t j := hc
    exact b3 (t + 1) j (by omega) hj (b4 t j (by omega) hj h8 h (by omega))
/-- no step that has work in tick t is late -/
theorem tk_main {D R : Nat → Nat} (hc : fx_Cf n pd D) (hf : tk_Cf n c tx pd nx C) (hr : tk_Run n c H tx rs pr pd nx C T G na fl aa rm d fr) (hu : ∀ i j, i < n → j < n → rs i = rs j → pr i = pr j → i = j) (hTp : ∀ x, x < c → 1 ≤ T x) (hR : ∀ s, s < n → R s ≤ 200) (hF : ∀ s, s < n → fx_Fr n rs pr pd C (fun j => T (tx j)) D R s (R s)) {t s : Nat} (ht : t < H) (hs : s < n) (h : 0 < tk_rho tx pd C na fl rm t s) : t + tk_rho tx pd C na fl rm t s ≤ tk_al tx na fl aa t s + R s := by
  have x := tq_main hc (tk_Tr hf hr) (tk_Pr hf hr) (tk_Bu hf hr) hu hf.2.2.1 (fun j hj => hTp _ (hf.2.1 j hj)) hR hF t ht s hs
  rw [tk_rhoE hf hr (by omega) hs] at x
  exact x h
/-- no arrival is dropped -/
theorem tk_noov {D R : Nat → Nat} (hc : fx_Cf n pd D) (hf : tk_Cf n c tx pd nx C) (hr : tk_Run n c H tx rs pr pd nx C T G na fl aa rm d fr) (hu : ∀ i j, i < n → j < n → rs i = rs j → pr i = pr j → i = j) (hTp : ∀ x, x < c → 1 ≤ T x) (hR : ∀ s, s < n → R s ≤ 200) (hRT : ∀ s, s < n → R s ≤ T (tx s)) (hF : ∀ s, s < n → fx_Fr n rs pr pd C (fun j => T (tx j)) D R s (R s)) {t x : Nat} (ht : t < H) (hx : x < c) : ¬ (na t x = t ∧ fl t x = 1) := by
  rintro ⟨h1, h2⟩
  have K := tk_Kall hf hr t (by omega)
  obtain ⟨s, hs, e, hp⟩ := K.2.2.2.2.1 x hx h2
  have g := K.2.2.2.2.2 x hx h2
  have er : tk_rho tx pd C na fl rm t s = rm t s := by
    unfold tk_rho
    rw [if_neg (fun z => by rw [e] at z; have := z.1.2; omega)]
  have y := tk_main hc hf hr hu hTp hR hF ht hs (by rw [er]; exact hp)
  have ea : tk_al tx na fl aa t s = aa t x := by
    unfold tk_al
    rw [e, if_neg (fun z => by have := z.2; omega)]
  have r := hRT s hs
  rw [e] at r
  rw [er, ea] at y
  omega
end
