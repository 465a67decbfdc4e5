/-! scans: the first and the last step of a transaction within a stretch, the most urgent pending step of a resource; the chain arrays -/
theorem sn_ne {i : Nat} (h : i < 2 ^ 31) : ¬ nI i = -1 := bs_ne h
def sn_F (t : Nat → Int32) (x : Int32) : Nat → Nat → Int32
  | 0, _ => -1
  | k + 1, i => if t i = x then nI i else sn_F t x k (i + 1)
def sn_L (t : Nat → Int32) (x : Int32) : Nat → Int32
  | 0 => -1
  | k + 1 => if t k = x then nI k else sn_L t x k
theorem sn_F_some (t : Nat → Int32) (x : Int32) : ∀ k i, (sn_F t x k i = -1 ∧ ∀ j, i ≤ j → j < i + k → t j ≠ x) ∨ ∃ j, i ≤ j ∧ j < i + k ∧ sn_F t x k i = nI j ∧ t j = x ∧ ∀ m, i ≤ m → m < j → t m ≠ x := by
  intro k
  induction k with
  | zero => intro i; exact Or.inl ⟨rfl, fun j h1 h2 => by omega⟩
  | succ k ih =>
    intro i
    simp only [sn_F]
    by_cases e : t i = x
    · rw [if_pos e]
      exact Or.inr ⟨i, Nat.le_refl i, by omega, rfl, e, fun m h1 h2 => by omega⟩
    · rw [if_neg e]
      rcases ih (i + 1) with ⟨a, b⟩ | ⟨j, h1, h2, a, b, c⟩
      · refine Or.inl ⟨a, fun j h1 h2 => ?_⟩
        by_cases z : j = i
        · rw [z]; exact e
        · exact b j (by omega) (by omega)
      · refine Or.inr ⟨j, by omega, by omega, a, b, fun m h3 h4 => ?_⟩
        by_cases z : m = i
        · rw [z]; exact e
        · exact c m (by omega) h4
theorem sn_L_some (t : Nat → Int32) (x : Int32) : ∀ k, (sn_L t x k = -1 ∧ ∀ j, j < k → t j ≠ x) ∨ ∃ j, j < k ∧ sn_L t x k = nI j ∧ t j = x ∧ ∀ m, j < m → m < k → t m ≠ x := by
  intro k
  induction k with
  | zero => exact Or.inl ⟨rfl, fun j h => by omega⟩
  | succ k ih =>
    simp only [sn_L]
    by_cases e : t k = x
    · rw [if_pos e]
      exact Or.inr ⟨k, by omega, rfl, e, fun m h1 h2 => by omega⟩
    · rw [if_neg e]
      rcases ih with ⟨a, b⟩ | ⟨j, h1, a, b, c⟩
      · refine Or.inl ⟨a, fun j h => ?_⟩
        by_cases z : j = k
        · rw [z]; exact e
        · exact b j (by omega)
      · refine Or.inr ⟨j, by omega, a, b, fun m h3 h4 => ?_⟩
        by_cases z : m = k
        · rw [z]; exact e
        · exact c m h3 (by omega)
theorem sn_L_eq {t t' : Nat → Int32} (x : Int32) : ∀ k, (∀ j, j < k → t' j = t j) → sn_L t' x k = sn_L t x k := by
  intro k
  induction k with
  | zero => intro _; rfl
  | succ k ih =>
    intro h
    simp only [sn_L]
    rw [h k (by omega), ih (fun j hj => h j (by omega))]
theorem sn_F_t {t : Nat → Int32} {x : Int32} {k i : Nat} (e : t i = x) : sn_F t x (k + 1) i = nI i := if_pos e
theorem sn_F_n {t : Nat → Int32} {x : Int32} {k i : Nat} (e : ¬ t i = x) : sn_F t x (k + 1) i = sn_F t x k (i + 1) := if_neg e
theorem sn_F_up (t : Nat → Int32) (x y : Int32) (m : Nat) (hm : m < 2 ^ 31) : ∀ k i, i + k = m → sn_F (upd t m y) x (k + 1) i = if sn_F t x k i = -1 then (if y = x then nI m else -1) else sn_F t x k i := by
  intro k
  induction k with
  | zero =>
    intro i hi
    have e : i = m := by omega
    subst e
    have z : sn_F t x 0 i = -1 := rfl
    rw [z, if_pos rfl]
    have u : upd t i y i = y := if_pos rfl
    by_cases q : y = x
    · rw [sn_F_t (by rw [u]; exact q), if_pos q]
    · rw [sn_F_n (by rw [u]; exact q), if_neg q]; rfl
  | succ k ih =>
    intro i hi
    have u : upd t m y i = t i := if_neg (by omega)
    have a := ih (i + 1) (by omega)
    by_cases e : t i = x
    · rw [sn_F_t (by rw [u]; exact e), sn_F_t e, if_neg (sn_ne (by omega))]
    · rw [sn_F_n (by rw [u]; exact e), sn_F_n e, a]
/-- head, tail, pred and next are what scans of txOf find -/
def sn_Ch (t hd tl pd nx : Nat → Int32) (c n : Nat) : Prop :=
  (∀ x, x < c → hd x = sn_F t (nI x) n 0) ∧ (∀ x, x < c → tl x = sn_L t (nI x) n) ∧ (∀ s, s < n → pd s = sn_L t (t s) s) ∧ (∀ s, s < n → nx s = sn_F t (t s) (n - (s + 1)) (s + 1))
theorem sn_Ch_tx {t hd tl pd nx : Nat → Int32} {c n : Nat} (h : sn_Ch t hd tl pd nx c n) (ht : ∀ s, s < n → ∃ y, y < c ∧ t s = nI y) (hc : c < 8) : sn_Ch t (upd hd c (-1)) (upd tl c (-1)) pd nx (c + 1) n := by
  obtain ⟨h1, h2, h3, h4⟩ := h
  have hno : ∀ j, j < n → t j ≠ nI c := by
    intro j hj e
    obtain ⟨y, hy, ey⟩ := ht j hj
    rw [ey, nI_eq (by omega) (by omega)] at e
    omega
  refine ⟨fun x hx => ?_, fun x hx => ?_, h3, h4⟩
  · by_cases e : x = c
    · subst e
      rw [show upd hd x (-1) x = -1 from if_pos rfl]
      rcases sn_F_some t (nI x) n 0 with ⟨a, _⟩ | ⟨j, _, b, _, d, _⟩
      · exact a.symm
      · exact absurd d (hno j (by omega))
    · rw [show upd hd c (-1) x = hd x from if_neg e]
      exact h1 x (by omega)
  · by_cases e : x = c
    · subst e
      rw [show upd tl x (-1) x = -1 from if_pos rfl]
      rcases sn_L_some t (nI x) n with ⟨a, _⟩ | ⟨j, b, _, d, _⟩
      · exact a.symm
      · exact absurd d (hno j b)
    · rw [show upd tl c (-1) x = tl x from if_neg e]
      exact h2 x (by omega)
theorem sn_Ch_step {t hd tl pd nx : Nat → Int32} {c n x : Nat} (h : sn_Ch t hd tl pd nx c n) (hn : n < 16) (hx : x < c) (hc : c ≤ 8) :
    (tl x = -1 ∧ sn_Ch (upd t n (nI x)) (upd hd x (nI n)) (upd tl x (nI n)) (upd pd n (-1)) (upd nx n (-1)) c (n + 1)) ∨
    ∃ l, l < n ∧ tl x = nI l ∧ sn_Ch (upd t n (nI x)) hd (upd tl x (nI n)) (upd pd n (nI l)) (upd (upd nx n (-1)) l (nI n)) c (n + 1) := by
  obtain ⟨h1, h2, h3, h4⟩ := h
  have hT : ∀ y, y < c → upd tl x (nI n) y = sn_L (upd t n (nI x)) (nI y) (n + 1) := by
    intro y hy
    rw [sn_L, show upd t n (nI x) n = nI x from if_pos rfl]
    by_cases e : y = x
    · subst e
      rw [if_pos rfl]; exact if_pos rfl
    · have ne : ¬ nI x = nI y := by rw [nI_eq (by omega) (by omega)]; omega
      rw [if_neg ne, show upd tl x (nI n) y = tl y from if_neg e, h2 y hy]
      exact (sn_L_eq (nI y) n (fun j hj => if_neg (by omega))).symm
  have hP : ∀ p, p = tl x → ∀ s, s < n + 1 → upd pd n p s = sn_L (upd t n (nI x)) (upd t n (nI x) s) s := by
    intro p ep s hs
    by_cases e : s = n
    · subst e
      rw [show upd pd s p s = p from if_pos rfl, show upd t s (nI x) s = nI x from if_pos rfl, ep, h2 x hx]
      exact (sn_L_eq (nI x) s (fun j hj => if_neg (by omega))).symm
    · rw [show upd pd n p s = pd s from if_neg e, show upd t n (nI x) s = t s from if_neg e, h3 s (by omega)]
      exact (sn_L_eq (t s) s (fun j hj => if_neg (by omega))).symm
  have hH : ∀ y, y < c → sn_F (upd t n (nI x)) (nI y) (n + 1) 0 = if hd y = -1 then (if x = y then nI n else -1) else hd y := by
    intro y hy
    rw [sn_F_up t (nI y) (nI x) n (by omega) n 0 (by omega), ← h1 y hy]
    by_cases e : x = y
    · subst e
      rw [if_pos rfl, if_pos rfl]
    · have ne : ¬ nI x = nI y := by rw [nI_eq (by omega) (by omega)]; exact e
      rw [if_neg e, if_neg ne]
  have hN : ∀ s, s < n → sn_F (upd t n (nI x)) (upd t n (nI x) s) (n + 1 - (s + 1)) (s + 1) = if nx s = -1 then (if nI x = t s then nI n else -1) else nx s := by
    intro s hs
    rw [show n + 1 - (s + 1) = n - (s + 1) + 1 from by omega, show upd t n (nI x) s = t s from if_neg (by omega), sn_F_up t (t s) (nI x) n (by omega) (n - (s + 1)) (s + 1) (by omega), ← h4 s hs]
  have hNn : ∀ q : Int32, sn_F (upd t n (nI x)) q (n + 1 - (n + 1)) (n + 1) = -1 := by
    intro q
    rw [show n + 1 - (n + 1) = 0 from by omega]
    rfl
  rcases sn_L_some t (nI x) n with ⟨a, b⟩ | ⟨l, hl, a, b, d⟩
  · have etl : tl x = -1 := by rw [h2 x hx, a]
    refine Or.inl ⟨etl, ?_, hT, hP (-1) etl.symm, ?_⟩
    · intro y hy
      rw [hH y hy]
      by_cases e : x = y
      · subst e
        have hm : hd x = -1 := by
          rcases sn_F_some t (nI x) n 0 with ⟨p, _⟩ | ⟨j, _, q, _, r, _⟩
          · rw [h1 x hx, p]
          · exact absurd r (b j (by omega))
        rw [if_pos hm, if_pos rfl]; exact if_pos rfl
      · rw [if_neg e, show upd hd x (nI n) y = hd y from if_neg (fun z => e z.symm)]
        by_cases z : hd y = -1
        · rw [if_pos z, z]
        · rw [if_neg z]
    · intro s hs
      by_cases e : s = n
      · subst e
        rw [hNn]; exact if_pos rfl
      · rw [show upd nx n (-1) s = nx s from if_neg e, hN s (by omega)]
        have ne : ¬ nI x = t s := fun z => b s (by omega) z.symm
        rw [if_neg ne]
        by_cases z : nx s = -1
        · rw [if_pos z, z]
        · rw [if_neg z]
  · have etl : tl x = nI l := by rw [h2 x hx, a]
    refine Or.inr ⟨l, hl, etl, ?_, hT, hP (nI l) etl.symm, ?_⟩
    · intro y hy
      rw [hH y hy]
      by_cases e : x = y
      · subst e
        have hm : ¬ hd x = -1 := by
          rw [h1 x hx]
          rcases sn_F_some t (nI x) n 0 with ⟨_, q⟩ | ⟨j, _, q, r, _, _⟩
          · exact absurd b (q l (by omega) (by omega))
          · rw [r]; exact sn_ne (by omega)
        rw [if_neg hm]
      · rw [if_neg e]
        by_cases z : hd y = -1
        · rw [if_pos z, z]
        · rw [if_neg z]
    · intro s hs
      by_cases e : s = n
      · subst e
        rw [hNn, show upd (upd nx s (-1)) l (nI s) s = upd nx s (-1) s from if_neg (by omega)]; exact if_pos rfl
      · rw [hN s (by omega)]
        by_cases el : s = l
        · subst el
          have hm : nx s = -1 := by
            rw [h4 s (by omega)]
            rcases sn_F_some t (t s) (n - (s + 1)) (s + 1) with ⟨p, _⟩ | ⟨j, p, q, _, r, _⟩
            · exact p
            · exact absurd (r.trans b) (d j (by omega) (by omega))
          rw [if_pos hm, if_pos b.symm]; exact if_pos rfl
        · rw [show upd (upd nx n (-1)) l (nI n) s = upd nx n (-1) s from if_neg el, show upd nx n (-1) s = nx s from if_neg e]
          by_cases z : nx s = -1
          · have ne : ¬ nI x = t s := by
              intro w
              rw [h4 s (by omega)] at z
              rcases sn_F_some t (t s) (n - (s + 1)) (s + 1) with ⟨_, p⟩ | ⟨j, _, q, r, _, _⟩
              · by_cases sl : s < l
                · exact p l (by omega) (by omega) (b.trans w)
                · exact d s (by omega) (by omega) w.symm
              · rw [r] at z; exact sn_ne (by omega) z
            rw [if_pos z, if_neg ne, z]
          · rw [if_neg z]
def sn_mu (rs pr rm : Nat → Int32) (r : Int32) : Nat → Int32
  | 0 => -1
  | k + 1 => if (rs k = r ∧ 0 < rm k) ∧ (sn_mu rs pr rm r k = -1 ∨ pr (sn_mu rs pr rm r k).toNatClampNeg < pr k) then nI k else sn_mu rs pr rm r k
theorem sn_mu_some (rs pr rm : Nat → Int32) (r : Int32) : ∀ k, sn_mu rs pr rm r k = -1 ∨ ∃ j, j < k ∧ sn_mu rs pr rm r k = nI j ∧ rs j = r := by
  intro k
  induction k with
  | zero => exact Or.inl rfl
  | succ k ih =>
    rw [sn_mu]
    split
    · rename_i e
      exact Or.inr ⟨k, by omega, rfl, e.1.1⟩
    · rcases ih with a | ⟨j, hj, a, b⟩
      · exact Or.inl a
      · exact Or.inr ⟨j, by omega, a, b⟩

theorem sn_mu_t {rs pr rm : Nat → Int32} {r : Int32} {k : Nat} (h : (rs k = r ∧ 0 < rm k) ∧ (sn_mu rs pr rm r k = -1 ∨ pr (sn_mu rs pr rm r k).toNatClampNeg < pr k)) : sn_mu rs pr rm r (k + 1) = nI k := if_pos h
theorem sn_mu_n {rs pr rm : Nat → Int32} {r : Int32} {k : Nat} (h : ¬ ((rs k = r ∧ 0 < rm k) ∧ (sn_mu rs pr rm r k = -1 ∨ pr (sn_mu rs pr rm r k).toNatClampNeg < pr k))) : sn_mu rs pr rm r (k + 1) = sn_mu rs pr rm r k := if_neg h
