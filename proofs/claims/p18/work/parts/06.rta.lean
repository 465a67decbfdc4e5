/-! the bound holds: on a trace of ticks that keeps the rules of the simulation no step is ever later than its analysed bound.
    cv t j: what is left of j from before tick t; e t j: 1 if j is released for tick t; d t j: 1 if j works in tick t; al t j: the arrival that j works for -/
def tq_hs (rs pr : Nat → Int32) (s : Nat) (g : Nat → Nat) : Nat → Nat
  | 0 => 0
  | k + 1 => tq_hs rs pr s g k + (if rs k = rs s ∧ pr s < pr k then g k else 0)
def tq_w (g : Nat → Nat) (a : Nat) : Nat → Nat
  | 0 => 0
  | L + 1 => tq_w g a L + g (a + L)
section
variable {rs pr : Nat → Int32} {s : Nat}
theorem tq_hs_add (g h : Nat → Nat) : ∀ k, tq_hs rs pr s (fun j => g j + h j) k = tq_hs rs pr s g k + tq_hs rs pr s h k := by
  intro k
  induction k with
  | zero => rfl
  | succ k ih =>
    simp only [tq_hs]
    by_cases e : rs k = rs s ∧ pr s < pr k
    · rw [if_pos e, if_pos e, if_pos e]; omega
    · rw [if_neg e, if_neg e, if_neg e]; omega
theorem tq_hs_le {g h : Nat → Nat} : ∀ k, (∀ j, j < k → rs j = rs s ∧ pr s < pr j → g j ≤ h j) → tq_hs rs pr s g k ≤ tq_hs rs pr s h k := by
  intro k
  induction k with
  | zero => intro _; exact Nat.le_refl _
  | succ k ih =>
    intro H
    have a := ih (fun j hj => H j (by omega))
    simp only [tq_hs]
    by_cases e : rs k = rs s ∧ pr s < pr k
    · have b := H k (by omega) e
      rw [if_pos e, if_pos e]; omega
    · rw [if_neg e, if_neg e]; omega
theorem tq_hs_ge {g : Nat → Nat} {j : Nat} (hj : rs j = rs s ∧ pr s < pr j) : ∀ k, j < k → g j ≤ tq_hs rs pr s g k := by
  intro k
  induction k with
  | zero => intro h; omega
  | succ k ih =>
    intro h
    simp only [tq_hs]
    by_cases e : j = k
    · subst e
      rw [if_pos hj]; omega
    · have a := ih (by omega)
      omega
theorem tq_hs_0 : ∀ k, tq_hs rs pr s (fun _ => 0) k = 0 := by
  intro k
  induction k with
  | zero => rfl
  | succ k ih =>
    simp only [tq_hs]
    rw [ih]
    by_cases e : rs k = rs s ∧ pr s < pr k
    · rw [if_pos e]
    · rw [if_neg e]
theorem tq_sm (C T J : Nat → Nat) (sp : Nat) : ∀ k, fx_sm rs pr C T J s sp k = tq_hs rs pr s (fun j => (sp + J j + T j - 1) / T j * C j) k := by
  intro k
  induction k with
  | zero => rfl
  | succ k ih => simp only [fx_sm, tq_hs]; rw [ih]
theorem tq_bl_self (C : Nat → Nat) : ∀ k, C s ≤ fx_bl rs pr C s k := by
  intro k
  induction k with
  | zero => exact Nat.le_refl _
  | succ k ih =>
    simp only [fx_bl]
    by_cases e : rs k = rs s ∧ pr k < pr s
    · rw [if_pos e]
      by_cases z : fx_bl rs pr C s k < C k
      · rw [if_pos z]; omega
      · rw [if_neg z]; exact ih
    · rw [if_neg e]; exact ih
theorem tq_bl_lp (C : Nat → Nat) {j : Nat} (hj : rs j = rs s ∧ pr j < pr s) : ∀ k, j < k → C j ≤ fx_bl rs pr C s k := by
  intro k
  induction k with
  | zero => intro h; omega
  | succ k ih =>
    intro h
    simp only [fx_bl]
    by_cases q : j = k
    · subst q
      rw [if_pos hj]
      by_cases z : fx_bl rs pr C s j < C j
      · rw [if_pos z]; exact Nat.le_refl _
      · rw [if_neg z]; omega
    · have a := ih (by omega)
      by_cases e : rs k = rs s ∧ pr k < pr s
      · rw [if_pos e]
        by_cases z : fx_bl rs pr C s k < C k
        · rw [if_pos z]; omega
        · rw [if_neg z]; exact a
      · rw [if_neg e]; exact a
end
/-- the rules of the trace that speak of one step -/
def tq_Tr (n H : Nat) (pd : Nat → Int32) (C T : Nat → Nat) (d e cv al : Nat → Nat → Nat) : Prop :=
  (∀ t j, t < H → j < n → d t j ≤ 1 ∧ e t j ≤ 1) ∧
  (∀ j, j < n → cv 0 j = 0) ∧
  (∀ t j, t < H → j < n → cv (t + 1) j + d t j = cv t j + C j * e t j) ∧
  (∀ t j, t < H → j < n → e t j = 1 → cv t j = 0) ∧
  (∀ t j, t + 1 < H → j < n → 0 < cv (t + 1) j → al (t + 1) j = al t j) ∧
  (∀ t j, t < H → j < n → e t j = 1 → al t j ≤ t ∧ ((pd j = -1 ∧ t ≤ al t j) ∨ (¬ pd j = -1 ∧ (pd j).toNatClampNeg < n ∧ 0 < t ∧ d (t - 1) (pd j).toNatClampNeg = 1 ∧ cv t (pd j).toNatClampNeg = 0 ∧ al (t - 1) (pd j).toNatClampNeg = al t j))) ∧
  (∀ r1 r2 j, r1 < r2 → r2 < H → j < n → e r1 j = 1 → e r2 j = 1 → al r1 j + T j ≤ al r2 j)
def tq_Pr (n H : Nat) (rs pr : Nat → Int32) (C : Nat → Nat) (d e cv : Nat → Nat → Nat) : Prop :=
  ∀ t s, t < H → s < n → ¬ rs s = 8 → 0 < cv t s + C s * e t s → ∃ j, j < n ∧ rs j = rs s ∧ d t j = 1 ∧ (j = s ∨ pr s < pr j)
def tq_Bu (n H : Nat) (rs pr : Nat → Int32) (C : Nat → Nat) (d e cv : Nat → Nat → Nat) : Prop :=
  (∀ t s, t < H → s < n → rs s = 8 → 0 < cv t s + C s * e t s → ∃ j, j < n ∧ rs j = 8 ∧ d t j = 1) ∧
  (∀ t j, t < H → j < n → rs j = 8 → d t j = 1 → (∀ s, s < n → rs s = 8 → 0 < cv t s + C s * e t s → s = j ∨ pr s < pr j) ∨ (0 < t ∧ d (t - 1) j = 1 ∧ 0 < cv t j)) ∧
  (∀ t j, t + 1 < H → j < n → rs j = 8 → d t j = 1 → 0 < cv (t + 1) j → d (t + 1) j = 1)
section
variable {n H : Nat} {rs pr pd : Nat → Int32} {C T D R : Nat → Nat} {d e cv al : Nat → Nat → Nat}
theorem tq_cvC (hT : tq_Tr n H pd C T d e cv al) {j : Nat} (hj : j < n) : ∀ t, t ≤ H → cv t j ≤ C j := by
  obtain ⟨h1, h2, h3, h4, _, _, _⟩ := hT
  intro t
  induction t with
  | zero => intro _; rw [h2 j hj]; omega
  | succ t ih =>
    intro ht
    have a := ih (by omega)
    have b := h3 t j (by omega) hj
    have z := (h1 t j (by omega) hj).2
    by_cases q : e t j = 1
    · have w := h4 t j (by omega) hj q
      rw [q, Nat.mul_one] at b
      omega
    · have q0 : e t j = 0 := by omega
      rw [q0, Nat.mul_zero] at b
      omega
theorem tq_rhoC (hT : tq_Tr n H pd C T d e cv al) {j : Nat} (hj : j < n) {t : Nat} (ht : t < H) : cv t j + C j * e t j ≤ C j := by
  have a := tq_cvC hT hj t (by omega)
  have z := (hT.1 t j ht hj).2
  by_cases q : e t j = 1
  · have w := hT.2.2.2.1 t j ht hj q
    rw [q, Nat.mul_one]; omega
  · have q0 : e t j = 0 := by omega
    rw [q0, Nat.mul_zero]; omega
/-- work done and left over is what was released -/
theorem tq_acc (hT : tq_Tr n H pd C T d e cv al) {j a : Nat} (hj : j < n) : ∀ L, a + L ≤ H → tq_w (fun i => d i j) a L + cv (a + L) j = cv a j + C j * tq_w (fun i => e i j) a L := by
  intro L
  induction L with
  | zero => intro _; simp only [tq_w, Nat.add_zero, Nat.mul_zero, Nat.zero_add]
  | succ L ih =>
    intro h
    have x := ih (by omega)
    have b := hT.2.2.1 (a + L) j (by omega) hj
    simp only [tq_w]
    rw [Nat.mul_add, show a + (L + 1) = a + L + 1 from rfl]
    omega
theorem tq_cnt0 (hT : tq_Tr n H pd C T d e cv al) {J : Nat → Nat} {j a : Nat} (hj : j < n) : ∀ L, a + L ≤ H → (∀ r, r < a + L → e r j = 1 → r ≤ al r j + J j) → tq_w (fun i => e i j) a L = 0 ∨ ∃ r N, r < a + L ∧ e r j = 1 ∧ tq_w (fun i => e i j) a L = N + 1 ∧ a + N * T j ≤ al r j + J j := by
  intro L
  induction L with
  | zero => intro _ _; exact Or.inl rfl
  | succ L ih =>
    intro h hJ
    have x := ih (by omega) (fun r hr => hJ r (by omega))
    have z := (hT.1 (a + L) j (by omega) hj).2
    simp only [tq_w]
    by_cases q : e (a + L) j = 1
    · have y := hJ (a + L) (by omega) q
      rcases x with x | ⟨r, N, h1, h2, h3, h4⟩
      · exact Or.inr ⟨a + L, 0, by omega, q, by rw [x, q], by rw [Nat.zero_mul]; omega⟩
      · have sp := hT.2.2.2.2.2.2 r (a + L) j h1 (by omega) hj h2 q
        refine Or.inr ⟨a + L, N + 1, by omega, q, by rw [h3, q], ?_⟩
        rw [Nat.add_mul, Nat.one_mul]; omega
    · have q0 : e (a + L) j = 0 := by omega
      rcases x with x | ⟨r, N, h1, h2, h3, h4⟩
      · exact Or.inl (by rw [x, q0])
      · exact Or.inr ⟨r, N, by omega, h2, by rw [h3, q0], h4⟩
theorem tq_cnt (hT : tq_Tr n H pd C T d e cv al) {J : Nat → Nat} {j a : Nat} (hj : j < n) (hp : 1 ≤ T j) {L : Nat} (h : a + L ≤ H) (hJ : ∀ r, r < a + L → e r j = 1 → r ≤ al r j + J j) : tq_w (fun i => e i j) a L ≤ (L + J j + T j - 1) / T j := by
  rcases tq_cnt0 hT hj L h hJ with x | ⟨r, N, h1, h2, h3, h4⟩
  · rw [x]; exact Nat.zero_le _
  · have y := (hT.2.2.2.2.2.1 r j (by omega) hj h2).1
    rw [h3, Nat.le_div_iff_mul_le (by omega), Nat.add_mul, Nat.one_mul]
    omega
theorem tq_dem (hT : tq_Tr n H pd C T d e cv al) {J : Nat → Nat} {j a : Nat} (hj : j < n) (hp : 1 ≤ T j) (h0 : cv a j = 0) {L : Nat} (h : a + L ≤ H) (hJ : ∀ r, r < a + L → e r j = 1 → r ≤ al r j + J j) : tq_w (fun i => d i j) a L + cv (a + L) j ≤ (L + J j + T j - 1) / T j * C j := by
  have x := tq_acc hT hj L h
  have y := tq_cnt hT hj hp h hJ
  rw [x, h0, Nat.zero_add, Nat.mul_comm]
  exact Nat.mul_le_mul_right _ y
/-- the release of what is pending at t -/
theorem tq_rel (hT : tq_Tr n H pd C T d e cv al) {s : Nat} (hs : s < n) : ∀ t, t < H → 0 < cv t s + C s * e t s → ∃ r, r ≤ t ∧ e r s = 1 ∧ al r s = al t s ∧ (∀ i, i ≤ t - r → 0 < cv (r + i) s + C s * e (r + i) s ∧ tq_w (fun u => d u s) r i + (cv (r + i) s + C s * e (r + i) s) = C s) := by
  intro t
  induction t with
  | zero =>
    intro ht h
    have z := (hT.1 0 s ht hs).2
    have w := hT.2.1 s hs
    by_cases q : e 0 s = 1
    · refine ⟨0, Nat.le_refl 0, q, rfl, fun i hi => ?_⟩
      have i0 : i = 0 := by omega
      subst i0
      refine ⟨h, ?_⟩
      simp only [tq_w]
      rw [Nat.add_zero, w, q]; omega
    · have q0 : e 0 s = 0 := by omega
      rw [w, q0, Nat.mul_zero] at h
      omega
  | succ t ih =>
    intro ht h
    have z := (hT.1 (t + 1) s ht hs).2
    by_cases q : e (t + 1) s = 1
    · have w := hT.2.2.2.1 (t + 1) s ht hs q
      refine ⟨t + 1, Nat.le_refl _, q, rfl, fun i hi => ?_⟩
      have i0 : i = 0 := by omega
      subst i0
      refine ⟨h, ?_⟩
      simp only [tq_w]
      rw [Nat.add_zero, w, q]; omega
    · have q0 : e (t + 1) s = 0 := by omega
      have hc : 0 < cv (t + 1) s := by rw [q0, Nat.mul_zero] at h; omega
      have b := hT.2.2.1 t s (by omega) hs
      obtain ⟨r, h1, h2, h3, h4⟩ := ih (by omega) (by omega)
      refine ⟨r, by omega, h2, by rw [h3, hT.2.2.2.2.1 t s ht hs hc], fun i hi => ?_⟩
      by_cases k : i ≤ t - r
      · exact h4 i k
      · obtain ⟨m, rfl⟩ : ∃ m, i = m + 1 := ⟨i - 1, by omega⟩
        have hm : r + m = t := by omega
        have y := (h4 m (by omega)).2
        have hm1 : r + (m + 1) = t + 1 := by omega
        rw [hm1]
        refine ⟨h, ?_⟩
        simp only [tq_w]
        rw [hm] at y ⊢
        rw [q0, Nat.mul_zero]
        omega
/-- where the more urgent work began -/
theorem tq_start (hT : tq_Tr n H pd C T d e cv al) (s : Nat) : ∀ r, ∃ t0, t0 ≤ r ∧ (∀ j, j < n → rs j = rs s ∧ pr s < pr j → cv t0 j = 0) ∧ ∀ u, t0 < u → u ≤ r → ∃ j, j < n ∧ (rs j = rs s ∧ pr s < pr j) ∧ 0 < cv u j := by
  intro r
  induction r with
  | zero => exact ⟨0, Nat.le_refl 0, fun j hj _ => hT.2.1 j hj, fun u h1 h2 => by omega⟩
  | succ r ih =>
    by_cases q : ∃ j, j < n ∧ (rs j = rs s ∧ pr s < pr j) ∧ 0 < cv (r + 1) j
    · obtain ⟨t0, h1, h2, h3⟩ := ih
      refine ⟨t0, by omega, h2, fun u hu1 hu2 => ?_⟩
      by_cases k : u = r + 1
      · rw [k]; exact q
      · exact h3 u hu1 (by omega)
    · refine ⟨r + 1, Nat.le_refl _, fun j hj hp => ?_, fun u h1 h2 => by omega⟩
      by_cases z : cv (r + 1) j = 0
      · exact z
      · exact absurd ⟨j, hj, hp, by omega⟩ q
theorem tq_hsw (rs pr : Nat → Int32) (s a n : Nat) (d : Nat → Nat → Nat) (L : Nat) : tq_hs rs pr s (fun j => tq_w (fun i => d i j) a (L + 1)) n = tq_hs rs pr s (fun j => tq_w (fun i => d i j) a L) n + tq_hs rs pr s (d (a + L)) n :=
  tq_hs_add (fun j => tq_w (fun i => d i j) a L) (d (a + L)) n
end
