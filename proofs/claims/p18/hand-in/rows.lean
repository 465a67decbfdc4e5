section
/-! small rows of my own -/
theorem bs_ne {i : Nat} (h : i < 2 ^ 31) : ¬ nI i = -1 := by
  intro e
  have a := nI_pos (n := i) h
  rw [e] at a
  exact a (by decide)
theorem bs_upd_self (f : Nat → Int32) (k : Nat) : upd f k (f k) = f := by
  funext j
  by_cases e : j = k
  · rw [e, pk_us]
  · rw [pk_un e]
theorem bs_b0 : vp_nar .boolean 0 = 0 := by decide
theorem bs_b1 : vp_nar .boolean 1 = 1 := by decide
/-- the first i places from g, the rest from f -/
def bs_mz (f g : Nat → Int32) (i : Nat) : Nat → Int32 := fun j => if j < i then g j else f j
theorem bs_mz0 (f g : Nat → Int32) : bs_mz f g 0 = f := by
  funext j
  exact if_neg (Nat.not_lt_zero j)
theorem bs_mzs (f g : Nat → Int32) (i : Nat) : upd (bs_mz f g i) i (g i) = bs_mz f g (i + 1) := by
  funext j
  by_cases e : j = i
  · subst e
    rw [pk_us]
    exact (if_pos (Nat.lt_succ_self j)).symm
  · rw [pk_un e]
    by_cases h : j < i
    · exact (if_pos h).trans (if_pos (by omega : j < i + 1)).symm
    · exact (if_neg h).trans (if_neg (by omega : ¬ j < i + 1)).symm
theorem bs_mz_lt {f g : Nat → Int32} {i j : Nat} (h : j < i) : bs_mz f g i j = g j := if_pos h
theorem bs_mz_ge {f g : Nat → Int32} {i j : Nat} (h : i ≤ j) : bs_mz f g i j = f j := if_neg (by omega)
theorem bs_mz_all {f : Nat → Int32} {v : Int32} {i : Nat} (h : ∀ j, i ≤ j → f j = v) : bs_mz f (fun _ => v) i = fun _ => v := by
  funext j
  by_cases e : j < i
  · exact if_pos e
  · exact (if_neg e).trans (h j (by omega))
theorem bs_mz_more {f : Nat → Int32} {v : Int32} {i k : Nat} (h : ∀ j, i ≤ j → f j = v) (hk : i ≤ k) : bs_mz f (fun _ => v) k = fun _ => v := bs_mz_all (fun j hj => h j (by omega))
end
section
/-! the analysis as pure mathematics: the operator F as a relation, monotone; its least fixpoint is unique; a measure of the rises.
    C, T, D: cost of a step, period and deadline of its transaction; pd: the step ahead of it in its chain, or -1; 1000000 is INF -/
section
variable (n : Nat) (rs pr pd : Nat → Int32) (C T D : Nat → Nat)
def fx_J (R : Nat → Nat) (j : Nat) : Nat := if pd j = -1 then 0 else R (pd j).toNatClampNeg
def fx_sm (J : Nat → Nat) (s sp : Nat) : Nat → Nat
  | 0 => 0
  | k + 1 => fx_sm J s sp k + (if rs k = rs s ∧ pr s < pr k then (sp + J k + T k - 1) / T k * C k else 0)
def fx_bl (s : Nat) : Nat → Nat
  | 0 => C s
  | k + 1 => if rs k = rs s ∧ pr k < pr s then (if fx_bl s k < C k then C k else fx_bl s k) else fx_bl s k
def fx_base (s : Nat) : Nat := if rs s = 8 then fx_bl rs pr C s n else C s
def fx_lead (s : Nat) : Nat := if rs s = 8 then 1 else 0
def fx_out (R : Nat → Nat) (s : Nat) : Nat := fx_J pd R s + (if rs s = 8 then C s else 0)
def fx_f (R : Nat → Nat) (s w : Nat) : Nat := fx_base n rs pr C s + fx_sm rs pr C T (fx_J pd R) s (w + fx_lead rs s) n
def fx_bad (R : Nat → Nat) (s : Nat) : Prop := ∃ j, j < n ∧ (j = s ∨ (rs j = rs s ∧ pr s < pr j)) ∧ fx_J pd R j = 1000000
def fx_Fr (R : Nat → Nat) (s r : Nat) : Prop :=
  (fx_bad n rs pr pd R s ∧ r = 1000000) ∨
  (¬ fx_bad n rs pr pd R s ∧
    ((∃ w, fx_f n rs pr pd C T R s w = w ∧ (∀ u, u < w → fx_f n rs pr pd C T R s u ≠ u) ∧ fx_out rs pd C R s + w ≤ D s ∧ r = fx_out rs pd C R s + w) ∨
     ((∀ w, fx_f n rs pr pd C T R s w = w → D s < fx_out rs pd C R s + w) ∧ r = 1000000)))
def fx_Fix (L : Nat → Nat) : Prop := (∀ s, s < n → L s ≤ 1000000) ∧ ∀ s, s < n → fx_Fr n rs pr pd C T D L s (L s)
def fx_VL (R : Nat → Nat) : Prop := ∀ s, s < n → R s ≤ 200 ∨ R s = 1000000
def fx_LB (R : Nat → Nat) : Prop := ∀ L, fx_Fix n rs pr pd C T D L → ∀ s, s < n → R s ≤ L s
def fx_PF (R : Nat → Nat) : Prop := ∀ Q : Nat → Nat, (∀ s, s < n → Q s ≤ 1000000) → (∀ s, s < n → R s ≤ Q s) → ∀ s, s < n → ∀ r, fx_Fr n rs pr pd C T D Q s r → R s ≤ r
def fx_Inv (R : Nat → Nat) : Prop := fx_VL n R ∧ fx_LB n rs pr pd C T D R ∧ fx_PF n rs pr pd C T D R
/-- what the configuration must keep -/
def fx_Cf : Prop := (∀ j, j < n → pd j = -1 ∨ (pd j).toNatClampNeg < n) ∧ ∀ s, s < n → D s ≤ 200
end
theorem fx_fixle {f : Nat → Nat} (hm : ∀ a b, a ≤ b → f a ≤ f b) : ∀ w, f w ≤ w → ∃ v, v ≤ w ∧ f v = v ∧ ∀ u, u < v → f u ≠ u := by
  intro w
  induction w using Nat.strongRecOn with
  | _ w ih =>
    intro h
    by_cases hx : ∃ u, u < w ∧ f u ≤ u
    · obtain ⟨u, hu, hf⟩ := hx
      obtain ⟨v, hv, e, hl⟩ := ih u hu hf
      exact ⟨v, by omega, e, hl⟩
    · have hn : ∀ u, u < w → ¬ f u ≤ u := fun u hu hf => hx ⟨u, hu, hf⟩
      refine ⟨w, Nat.le_refl w, ?_, fun u hu e => hn u hu (by omega)⟩
      by_cases he : f w < w
      · exact absurd (hm (f w) w h) (hn (f w) he)
      · omega
section
variable {n : Nat} {rs pr pd : Nat → Int32} {C T D : Nat → Nat}
theorem fx_J_le (hc : fx_Cf n pd D) {R R' : Nat → Nat} (h : ∀ t, t < n → R t ≤ R' t) {j : Nat} (hj : j < n) : fx_J pd R j ≤ fx_J pd R' j := by
  unfold fx_J
  by_cases e : pd j = -1
  · rw [if_pos e, if_pos e]; exact Nat.le_refl _
  · rw [if_neg e, if_neg e]
    cases hc.1 j hj with
    | inl z => exact absurd z e
    | inr z => exact h _ z
theorem fx_J_max (hc : fx_Cf n pd D) {R : Nat → Nat} (h : ∀ t, t < n → R t ≤ 1000000) {j : Nat} (hj : j < n) : fx_J pd R j ≤ 1000000 := by
  unfold fx_J
  by_cases e : pd j = -1
  · rw [if_pos e]; omega
  · rw [if_neg e]
    cases hc.1 j hj with
    | inl z => exact absurd z e
    | inr z => exact h _ z
theorem fx_sm_le {J J' : Nat → Nat} {s sp sp' : Nat} (hs : sp ≤ sp') : ∀ k, (∀ j, j < k → J j ≤ J' j) → fx_sm rs pr C T J s sp k ≤ fx_sm rs pr C T J' s sp' k := by
  intro k
  induction k with
  | zero => intro _; exact Nat.le_refl _
  | succ k ih =>
    intro h
    have a := ih (fun j hj => h j (by omega))
    have b := h k (by omega)
    simp only [fx_sm]
    by_cases e : rs k = rs s ∧ pr s < pr k
    · rw [if_pos e, if_pos e]
      exact Nat.add_le_add a (Nat.mul_le_mul_right _ (Nat.div_le_div_right (by omega)))
    · rw [if_neg e, if_neg e]; omega
theorem fx_f_le (hc : fx_Cf n pd D) {R R' : Nat → Nat} (h : ∀ t, t < n → R t ≤ R' t) {s a b : Nat} (hab : a ≤ b) : fx_f n rs pr pd C T R s a ≤ fx_f n rs pr pd C T R' s b := by
  unfold fx_f
  exact Nat.add_le_add_left (fx_sm_le (by omega) n (fun j hj => fx_J_le hc h hj)) _
theorem fx_val (hc : fx_Cf n pd D) {R : Nat → Nat} {s r : Nat} (hs : s < n) (h : fx_Fr n rs pr pd C T D R s r) : r ≤ 200 ∨ r = 1000000 := by
  have hd := hc.2 s hs
  rcases h with ⟨_, e⟩ | ⟨_, ⟨w, _, _, hw, e⟩ | ⟨_, e⟩⟩
  · exact Or.inr e
  · exact Or.inl (by omega)
  · exact Or.inr e
theorem fx_mono (hc : fx_Cf n pd D) {R R' : Nat → Nat} (hle : ∀ t, t < n → R t ≤ R' t) (hv : ∀ t, t < n → R' t ≤ 1000000) {s r r' : Nat} (hs : s < n) (h : fx_Fr n rs pr pd C T D R s r) (h' : fx_Fr n rs pr pd C T D R' s r') : r ≤ r' := by
  have hr := fx_val hc hs h
  rcases h' with ⟨_, e'⟩ | ⟨nb', ⟨w', ew', _, hw', e'⟩ | ⟨_, e'⟩⟩
  · omega
  · have nb : ¬ fx_bad n rs pr pd R s := by
      rintro ⟨j, hj, hcj, ej⟩
      have a := fx_J_le hc hle hj
      have b := fx_J_max hc hv hj
      exact nb' ⟨j, hj, hcj, by omega⟩
    have ho : fx_out rs pd C R s ≤ fx_out rs pd C R' s := Nat.add_le_add_right (fx_J_le hc hle hs) _
    have hf : fx_f n rs pr pd C T R s w' ≤ w' := Nat.le_trans (fx_f_le hc hle (Nat.le_refl w')) (Nat.le_of_eq ew')
    obtain ⟨v, hvw, ev, _⟩ := fx_fixle (f := fx_f n rs pr pd C T R s) (fun a b hab => fx_f_le hc (fun t _ => Nat.le_refl (R t)) hab) w' hf
    rcases h with ⟨b, _⟩ | ⟨_, ⟨w, ew, lw, hw, e⟩ | ⟨hno, _⟩⟩
    · exact absurd b nb
    · have hwv : w ≤ v := by
        by_cases c : w ≤ v
        · exact c
        · exact absurd ev (lw v (by omega))
      omega
    · have := hno v ev
      omega
  · omega
theorem fx_uniq (hc : fx_Cf n pd D) {R : Nat → Nat} (hv : ∀ t, t < n → R t ≤ 1000000) {s r r' : Nat} (hs : s < n) (h : fx_Fr n rs pr pd C T D R s r) (h' : fx_Fr n rs pr pd C T D R s r') : r = r' :=
  Nat.le_antisymm (fx_mono hc (fun t _ => Nat.le_refl (R t)) hv hs h h') (fx_mono hc (fun t _ => Nat.le_refl (R t)) hv hs h' h)
theorem fx_VL_le {R : Nat → Nat} (h : fx_VL n R) : ∀ t, t < n → R t ≤ 1000000 := fun t ht => by have := h t ht; omega
theorem fx_inv0 {R : Nat → Nat} (h : ∀ s, s < n → R s = 0) : fx_Inv n rs pr pd C T D R :=
  ⟨fun s hs => Or.inl (by rw [h s hs]; omega), fun _ _ s hs => by rw [h s hs]; omega, fun _ _ _ s hs _ _ => by rw [h s hs]; omega⟩
/-- one bound raised in place -/
theorem fx_step (hc : fx_Cf n pd D) {R : Nat → Nat} (I : fx_Inv n rs pr pd C T D R) {s r : Nat} (hs : s < n) (h : fx_Fr n rs pr pd C T D R s r) : R s ≤ r ∧ fx_Inv n rs pr pd C T D (fun t => if t = s then r else R t) := by
  obtain ⟨hV, hL, hP⟩ := I
  have hv := fx_VL_le hV
  have hsr : R s ≤ r := hP R hv (fun t _ => Nat.le_refl (R t)) s hs r h
  have hup : ∀ t, t < n → R t ≤ (if t = s then r else R t) := by
    intro t _
    by_cases e : t = s
    · rw [if_pos e, e]; exact hsr
    · rw [if_neg e]; exact Nat.le_refl _
  refine ⟨hsr, ?_, ?_, ?_⟩
  · intro t ht
    show (if t = s then r else R t) ≤ 200 ∨ (if t = s then r else R t) = 1000000
    by_cases e : t = s
    · rw [if_pos e]; exact fx_val hc hs h
    · rw [if_neg e]; exact hV t ht
  · intro L hF t ht
    show (if t = s then r else R t) ≤ L t
    by_cases e : t = s
    · rw [if_pos e, e]; exact fx_mono hc (hL L hF) hF.1 hs h (hF.2 s hs)
    · rw [if_neg e]; exact hL L hF t ht
  · intro Q hQ hRQ t ht q hq
    have hRQ' : ∀ t, t < n → R t ≤ Q t := fun t ht => Nat.le_trans (hup t ht) (hRQ t ht)
    show (if t = s then r else R t) ≤ q
    by_cases e : t = s
    · subst e
      rw [if_pos rfl]; exact fx_mono hc hRQ' hQ hs h hq
    · rw [if_neg e]; exact hP Q hQ hRQ' t ht q hq
/-- all bounds raised at once, each from the old ones -/
theorem fx_steps (hc : fx_Cf n pd D) {R Q : Nat → Nat} (I : fx_Inv n rs pr pd C T D R) (h : ∀ s, s < n → fx_Fr n rs pr pd C T D R s (Q s)) : (∀ s, s < n → R s ≤ Q s) ∧ fx_Inv n rs pr pd C T D Q := by
  obtain ⟨hV, hL, hP⟩ := I
  have hv := fx_VL_le hV
  have hup : ∀ t, t < n → R t ≤ Q t := fun t ht => hP R hv (fun t _ => Nat.le_refl (R t)) t ht (Q t) (h t ht)
  refine ⟨hup, fun t ht => fx_val hc ht (h t ht), ?_, ?_⟩
  · intro L hF t ht
    exact fx_mono hc (hL L hF) hF.1 ht (h t ht) (hF.2 t ht)
  · intro P hPm hQP t ht q hq
    exact fx_mono hc (fun a ha => Nat.le_trans (hup a ha) (hQP a ha)) hPm ht (h t ht) hq
theorem fx_end {R R' : Nat → Nat} (I : fx_Inv n rs pr pd C T D R) (I' : fx_Inv n rs pr pd C T D R') (h : ∀ s, s < n → fx_Fr n rs pr pd C T D R s (R s)) (h' : ∀ s, s < n → fx_Fr n rs pr pd C T D R' s (R' s)) : ∀ s, s < n → R s = R' s :=
  fun s hs => Nat.le_antisymm (I.2.1 R' ⟨fx_VL_le I'.1, h'⟩ s hs) (I'.2.1 R ⟨fx_VL_le I.1, h⟩ s hs)
end
def fx_rk (x : Nat) : Nat := if x ≤ 200 then x else 201
def fx_mu (R : Nat → Nat) : Nat → Nat
  | 0 => 0
  | k + 1 => fx_mu R k + fx_rk (R k)
theorem fx_rk_le (x : Nat) : fx_rk x ≤ 201 := by unfold fx_rk; split <;> omega
theorem fx_rk_mono {x y : Nat} (h : x ≤ y) : fx_rk x ≤ fx_rk y := by unfold fx_rk; split <;> split <;> omega
theorem fx_rk_lt {x y : Nat} (h : x < y) (hx : x ≤ 200 ∨ x = 1000000) (hy : y ≤ 200 ∨ y = 1000000) : fx_rk x < fx_rk y := by unfold fx_rk; split <;> split <;> omega
theorem fx_mu_max (R : Nat → Nat) : ∀ k, fx_mu R k ≤ 201 * k := by
  intro k
  induction k with
  | zero => exact Nat.le_refl _
  | succ k ih =>
    have := fx_rk_le (R k)
    simp only [fx_mu]
    omega
theorem fx_mu_le {R Q : Nat → Nat} : ∀ k, (∀ s, s < k → R s ≤ Q s) → fx_mu R k ≤ fx_mu Q k := by
  intro k
  induction k with
  | zero => intro _; exact Nat.le_refl _
  | succ k ih =>
    intro h
    have a := ih (fun s hs => h s (by omega))
    have b := fx_rk_mono (h k (by omega))
    simp only [fx_mu]
    omega
theorem fx_mu_lt {R Q : Nat → Nat} {n : Nat} (hR : fx_VL n R) (hQ : fx_VL n Q) : ∀ k, k ≤ n → (∀ s, s < k → R s ≤ Q s) → ∀ s, s < k → R s ≠ Q s → fx_mu R k < fx_mu Q k := by
  intro k
  induction k with
  | zero => intro _ _ s hs; omega
  | succ k ih =>
    intro hk h s hs hne
    have b := fx_rk_mono (h k (by omega))
    simp only [fx_mu]
    by_cases e : s = k
    · subst e
      have a := fx_mu_le s (fun t ht => h t (by omega))
      have c := fx_rk_lt (Nat.lt_of_le_of_ne (h s (by omega)) hne) (hR s (by omega)) (hQ s (by omega))
      omega
    · have a := ih (by omega) (fun t ht => h t (by omega)) s (by omega) hne
      omega
end
section
/-! scans: the first and the last step of a transaction within a stretch, the most urgent pending step of a resource; the chain arrays -/
theorem sn_ne {i : Nat} (h : i < 2 ^ 31) : ¬ nI i = -1 := bs_ne h
def sn_F (t : Nat → Int32) (x : Int32) : Nat → Nat → Int32
  | 0, _ => -1
  | k + 1, i => if t i = x then nI i else sn_F t x k (i + 1)
def sn_L (t : Nat → Int32) (x : Int32) : Nat → Int32
  | 0 => -1
  | k + 1 => if t k = x then nI k else sn_L t x k
theorem sn_F_some (t : Nat → Int32) (x : Int32) : ∀ k i, (sn_F t x k i = -1 ∧ ∀ j, i ≤ j → j < i + k → t j ≠ x) ∨ ∃ j, i ≤ j ∧ j < i + k ∧ sn_F t x k i = nI j ∧ t j = x ∧ ∀ m, i ≤ m → m < j → t m ≠ x := by
  intro k
  induction k with
  | zero => intro i; exact Or.inl ⟨rfl, fun j h1 h2 => by omega⟩
  | succ k ih =>
    intro i
    simp only [sn_F]
    by_cases e : t i = x
    · rw [if_pos e]
      exact Or.inr ⟨i, Nat.le_refl i, by omega, rfl, e, fun m h1 h2 => by omega⟩
    · rw [if_neg e]
      rcases ih (i + 1) with ⟨a, b⟩ | ⟨j, h1, h2, a, b, c⟩
      · refine Or.inl ⟨a, fun j h1 h2 => ?_⟩
        by_cases z : j = i
        · rw [z]; exact e
        · exact b j (by omega) (by omega)
      · refine Or.inr ⟨j, by omega, by omega, a, b, fun m h3 h4 => ?_⟩
        by_cases z : m = i
        · rw [z]; exact e
        · exact c m (by omega) h4
theorem sn_L_some (t : Nat → Int32) (x : Int32) : ∀ k, (sn_L t x k = -1 ∧ ∀ j, j < k → t j ≠ x) ∨ ∃ j, j < k ∧ sn_L t x k = nI j ∧ t j = x ∧ ∀ m, j < m → m < k → t m ≠ x := by
  intro k
  induction k with
  | zero => exact Or.inl ⟨rfl, fun j h => by omega⟩
  | succ k ih =>
    simp only [sn_L]
    by_cases e : t k = x
    · rw [if_pos e]
      exact Or.inr ⟨k, by omega, rfl, e, fun m h1 h2 => by omega⟩
    · rw [if_neg e]
      rcases ih with ⟨a, b⟩ | ⟨j, h1, a, b, c⟩
      · refine Or.inl ⟨a, fun j h => ?_⟩
        by_cases z : j = k
        · rw [z]; exact e
        · exact b j (by omega)
      · refine Or.inr ⟨j, by omega, a, b, fun m h3 h4 => ?_⟩
        by_cases z : m = k
        · rw [z]; exact e
        · exact c m h3 (by omega)
theorem sn_L_eq {t t' : Nat → Int32} (x : Int32) : ∀ k, (∀ j, j < k → t' j = t j) → sn_L t' x k = sn_L t x k := by
  intro k
  induction k with
  | zero => intro _; rfl
  | succ k ih =>
    intro h
    simp only [sn_L]
    rw [h k (by omega), ih (fun j hj => h j (by omega))]
theorem sn_F_t {t : Nat → Int32} {x : Int32} {k i : Nat} (e : t i = x) : sn_F t x (k + 1) i = nI i := if_pos e
theorem sn_F_n {t : Nat → Int32} {x : Int32} {k i : Nat} (e : ¬ t i = x) : sn_F t x (k + 1) i = sn_F t x k (i + 1) := if_neg e
theorem sn_F_up (t : Nat → Int32) (x y : Int32) (m : Nat) (hm : m < 2 ^ 31) : ∀ k i, i + k = m → sn_F (upd t m y) x (k + 1) i = if sn_F t x k i = -1 then (if y = x then nI m else -1) else sn_F t x k i := by
  intro k
  induction k with
  | zero =>
    intro i hi
    have e : i = m := by omega
    subst e
    have z : sn_F t x 0 i = -1 := rfl
    rw [z, if_pos rfl]
    have u : upd t i y i = y := if_pos rfl
    by_cases q : y = x
    · rw [sn_F_t (by rw [u]; exact q), if_pos q]
    · rw [sn_F_n (by rw [u]; exact q), if_neg q]; rfl
  | succ k ih =>
    intro i hi
    have u : upd t m y i = t i := if_neg (by omega)
    have a := ih (i + 1) (by omega)
    by_cases e : t i = x
    · rw [sn_F_t (by rw [u]; exact e), sn_F_t e, if_neg (sn_ne (by omega))]
    · rw [sn_F_n (by rw [u]; exact e), sn_F_n e, a]
/-- head, tail, pred and next are what scans of txOf find -/
def sn_Ch (t hd tl pd nx : Nat → Int32) (c n : Nat) : Prop :=
  (∀ x, x < c → hd x = sn_F t (nI x) n 0) ∧ (∀ x, x < c → tl x = sn_L t (nI x) n) ∧ (∀ s, s < n → pd s = sn_L t (t s) s) ∧ (∀ s, s < n → nx s = sn_F t (t s) (n - (s + 1)) (s + 1))
theorem sn_Ch_tx {t hd tl pd nx : Nat → Int32} {c n : Nat} (h : sn_Ch t hd tl pd nx c n) (ht : ∀ s, s < n → ∃ y, y < c ∧ t s = nI y) (hc : c < 8) : sn_Ch t (upd hd c (-1)) (upd tl c (-1)) pd nx (c + 1) n := by
  obtain ⟨h1, h2, h3, h4⟩ := h
  have hno : ∀ j, j < n → t j ≠ nI c := by
    intro j hj e
    obtain ⟨y, hy, ey⟩ := ht j hj
    rw [ey, nI_eq (by omega) (by omega)] at e
    omega
  refine ⟨fun x hx => ?_, fun x hx => ?_, h3, h4⟩
  · by_cases e : x = c
    · subst e
      rw [show upd hd x (-1) x = -1 from if_pos rfl]
      rcases sn_F_some t (nI x) n 0 with ⟨a, _⟩ | ⟨j, _, b, _, d, _⟩
      · exact a.symm
      · exact absurd d (hno j (by omega))
    · rw [show upd hd c (-1) x = hd x from if_neg e]
      exact h1 x (by omega)
  · by_cases e : x = c
    · subst e
      rw [show upd tl x (-1) x = -1 from if_pos rfl]
      rcases sn_L_some t (nI x) n with ⟨a, _⟩ | ⟨j, b, _, d, _⟩
      · exact a.symm
      · exact absurd d (hno j b)
    · rw [show upd tl c (-1) x = tl x from if_neg e]
      exact h2 x (by omega)
theorem sn_Ch_step {t hd tl pd nx : Nat → Int32} {c n x : Nat} (h : sn_Ch t hd tl pd nx c n) (hn : n < 16) (hx : x < c) (hc : c ≤ 8) :
    (tl x = -1 ∧ sn_Ch (upd t n (nI x)) (upd hd x (nI n)) (upd tl x (nI n)) (upd pd n (-1)) (upd nx n (-1)) c (n + 1)) ∨
    ∃ l, l < n ∧ tl x = nI l ∧ sn_Ch (upd t n (nI x)) hd (upd tl x (nI n)) (upd pd n (nI l)) (upd (upd nx n (-1)) l (nI n)) c (n + 1) := by
  obtain ⟨h1, h2, h3, h4⟩ := h
  have hT : ∀ y, y < c → upd tl x (nI n) y = sn_L (upd t n (nI x)) (nI y) (n + 1) := by
    intro y hy
    rw [sn_L, show upd t n (nI x) n = nI x from if_pos rfl]
    by_cases e : y = x
    · subst e
      rw [if_pos rfl]; exact if_pos rfl
    · have ne : ¬ nI x = nI y := by rw [nI_eq (by omega) (by omega)]; omega
      rw [if_neg ne, show upd tl x (nI n) y = tl y from if_neg e, h2 y hy]
      exact (sn_L_eq (nI y) n (fun j hj => if_neg (by omega))).symm
  have hP : ∀ p, p = tl x → ∀ s, s < n + 1 → upd pd n p s = sn_L (upd t n (nI x)) (upd t n (nI x) s) s := by
    intro p ep s hs
    by_cases e : s = n
    · subst e
      rw [show upd pd s p s = p from if_pos rfl, show upd t s (nI x) s = nI x from if_pos rfl, ep, h2 x hx]
      exact (sn_L_eq (nI x) s (fun j hj => if_neg (by omega))).symm
    · rw [show upd pd n p s = pd s from if_neg e, show upd t n (nI x) s = t s from if_neg e, h3 s (by omega)]
      exact (sn_L_eq (t s) s (fun j hj => if_neg (by omega))).symm
  have hH : ∀ y, y < c → sn_F (upd t n (nI x)) (nI y) (n + 1) 0 = if hd y = -1 then (if x = y then nI n else -1) else hd y := by
    intro y hy
    rw [sn_F_up t (nI y) (nI x) n (by omega) n 0 (by omega), ← h1 y hy]
    by_cases e : x = y
    · subst e
      rw [if_pos rfl, if_pos rfl]
    · have ne : ¬ nI x = nI y := by rw [nI_eq (by omega) (by omega)]; exact e
      rw [if_neg e, if_neg ne]
  have hN : ∀ s, s < n → sn_F (upd t n (nI x)) (upd t n (nI x) s) (n + 1 - (s + 1)) (s + 1) = if nx s = -1 then (if nI x = t s then nI n else -1) else nx s := by
    intro s hs
    rw [show n + 1 - (s + 1) = n - (s + 1) + 1 from by omega, show upd t n (nI x) s = t s from if_neg (by omega), sn_F_up t (t s) (nI x) n (by omega) (n - (s + 1)) (s + 1) (by omega), ← h4 s hs]
  have hNn : ∀ q : Int32, sn_F (upd t n (nI x)) q (n + 1 - (n + 1)) (n + 1) = -1 := by
    intro q
    rw [show n + 1 - (n + 1) = 0 from by omega]
    rfl
  rcases sn_L_some t (nI x) n with ⟨a, b⟩ | ⟨l, hl, a, b, d⟩
  · have etl : tl x = -1 := by rw [h2 x hx, a]
    refine Or.inl ⟨etl, ?_, hT, hP (-1) etl.symm, ?_⟩
    · intro y hy
      rw [hH y hy]
      by_cases e : x = y
      · subst e
        have hm : hd x = -1 := by
          rcases sn_F_some t (nI x) n 0 with ⟨p, _⟩ | ⟨j, _, q, _, r, _⟩
          · rw [h1 x hx, p]
          · exact absurd r (b j (by omega))
        rw [if_pos hm, if_pos rfl]; exact if_pos rfl
      · rw [if_neg e, show upd hd x (nI n) y = hd y from if_neg (fun z => e z.symm)]
        by_cases z : hd y = -1
        · rw [if_pos z, z]
        · rw [if_neg z]
    · intro s hs
      by_cases e : s = n
      · subst e
        rw [hNn]; exact if_pos rfl
      · rw [show upd nx n (-1) s = nx s from if_neg e, hN s (by omega)]
        have ne : ¬ nI x = t s := fun z => b s (by omega) z.symm
        rw [if_neg ne]
        by_cases z : nx s = -1
        · rw [if_pos z, z]
        · rw [if_neg z]
  · have etl : tl x = nI l := by rw [h2 x hx, a]
    refine Or.inr ⟨l, hl, etl, ?_, hT, hP (nI l) etl.symm, ?_⟩
    · intro y hy
      rw [hH y hy]
      by_cases e : x = y
      · subst e
        have hm : ¬ hd x = -1 := by
          rw [h1 x hx]
          rcases sn_F_some t (nI x) n 0 with ⟨_, q⟩ | ⟨j, _, q, r, _, _⟩
          · exact absurd b (q l (by omega) (by omega))
          · rw [r]; exact sn_ne (by omega)
        rw [if_neg hm]
      · rw [if_neg e]
        by_cases z : hd y = -1
        · rw [if_pos z, z]
        · rw [if_neg z]
    · intro s hs
      by_cases e : s = n
      · subst e
        rw [hNn, show upd (upd nx s (-1)) l (nI s) s = upd nx s (-1) s from if_neg (by omega)]; exact if_pos rfl
      · rw [hN s (by omega)]
        by_cases el : s = l
        · subst el
          have hm : nx s = -1 := by
            rw [h4 s (by omega)]
            rcases sn_F_some t (t s) (n - (s + 1)) (s + 1) with ⟨p, _⟩ | ⟨j, p, q, _, r, _⟩
            · exact p
            · exact absurd (r.trans b) (d j (by omega) (by omega))
          rw [if_pos hm, if_pos b.symm]; exact if_pos rfl
        · rw [show upd (upd nx n (-1)) l (nI n) s = upd nx n (-1) s from if_neg el, show upd nx n (-1) s = nx s from if_neg e]
          by_cases z : nx s = -1
          · have ne : ¬ nI x = t s := by
              intro w
              rw [h4 s (by omega)] at z
              rcases sn_F_some t (t s) (n - (s + 1)) (s + 1) with ⟨_, p⟩ | ⟨j, _, q, r, _, _⟩
              · by_cases sl : s < l
                · exact p l (by omega) (by omega) (b.trans w)
                · exact d s (by omega) (by omega) w.symm
              · rw [r] at z; exact sn_ne (by omega) z
            rw [if_pos z, if_neg ne, z]
          · rw [if_neg z]
def sn_mu (rs pr rm : Nat → Int32) (r : Int32) : Nat → Int32
  | 0 => -1
  | k + 1 => if (rs k = r ∧ 0 < rm k) ∧ (sn_mu rs pr rm r k = -1 ∨ pr (sn_mu rs pr rm r k).toNatClampNeg < pr k) then nI k else sn_mu rs pr rm r k
theorem sn_mu_some (rs pr rm : Nat → Int32) (r : Int32) : ∀ k, sn_mu rs pr rm r k = -1 ∨ ∃ j, j < k ∧ sn_mu rs pr rm r k = nI j ∧ rs j = r := by
  intro k
  induction k with
  | zero => exact Or.inl rfl
  | succ k ih =>
    rw [sn_mu]
    split
    · rename_i e
      exact Or.inr ⟨k, by omega, rfl, e.1.1⟩
    · rcases ih with a | ⟨j, hj, a, b⟩
      · exact Or.inl a
      · exact Or.inr ⟨j, by omega, a, b⟩

theorem sn_mu_t {rs pr rm : Nat → Int32} {r : Int32} {k : Nat} (h : (rs k = r ∧ 0 < rm k) ∧ (sn_mu rs pr rm r k = -1 ∨ pr (sn_mu rs pr rm r k).toNatClampNeg < pr k)) : sn_mu rs pr rm r (k + 1) = nI k := if_pos h
theorem sn_mu_n {rs pr rm : Nat → Int32} {r : Int32} {k : Nat} (h : ¬ ((rs k = r ∧ 0 < rm k) ∧ (sn_mu rs pr rm r k = -1 ∨ pr (sn_mu rs pr rm r k).toNatClampNeg < pr k))) : sn_mu rs pr rm r (k + 1) = sn_mu rs pr rm r k := if_neg h
end
section
/-! the component: resets, small methods, what changes the configuration -/
theorem rs_st {f g : Nat → Int32} {i : Nat} (h : i < 2 ^ 31) : upd (bs_mz f g i) (nI i).toNatClampNeg (g (nI i).toNatClampNeg) = bs_mz f g (i + 1) := by
  rw [nI_clamp h]; exact bs_mzs f g i
theorem rs_sv {f : Nat → Int32} {v : Int32} {i : Nat} (h : i < 2 ^ 31) : upd (bs_mz f (fun _ => v) i) (nI i).toNatClampNeg v = bs_mz f (fun _ => v) (i + 1) := by
  rw [nI_clamp h]; exact bs_mzs f (fun _ => v) i
def rl_en (r : Nat) : Int32 := if r = 1000000 then -1 else nI r
theorem sm_in3 (x : Int32) (lo hi : Nat) (hl : lo < 2 ^ 31) (hh : hi < 2 ^ 31) : x < nI lo ∨ (¬ x < nI lo ∧ nI hi < x) ∨ ∃ a, lo ≤ a ∧ a ≤ hi ∧ x = nI a := by
  by_cases h : x < nI lo
  · exact Or.inl h
  · have h0 : ¬ x < 0 := fun z => h (Int32.lt_of_lt_of_le z (nI_pos' hl))
    obtain ⟨j, hj, rfl⟩ := nI_of h0
    rw [nI_ltI hj hl] at h
    by_cases g : nI hi < nI j
    · exact Or.inr (Or.inl ⟨by rw [nI_ltI hj hl]; exact h, g⟩)
    · rw [nI_ltI hh hj] at g
      exact Or.inr (Or.inr ⟨j, by omega, by omega, rfl⟩)
theorem sm_nle {x y : Int32} (h : x < y) : ¬ y ≤ x := fun z => Int32.lt_irrefl (Int32.lt_of_lt_of_le h z)
theorem sm_1 : ¬ (1 : Int32) = 0 := by decide
theorem rl_en_1 {r : Nat} (h : r ≤ 200 ∨ r = 1000000) : (r = 1000000 ∧ rl_en r = -1) ∨ (r ≤ 200 ∧ rl_en r = nI r) := by
  unfold rl_en
  by_cases e : r = 1000000
  · exact Or.inl ⟨e, if_pos e⟩
  · exact Or.inr ⟨by omega, if_neg e⟩
theorem rl_inf {r : Nat} (h : r ≤ 200 ∨ r = 1000000) : nI r = 1000000 ↔ r = 1000000 := nI_eq (a := r) (b := 1000000) (by omega) (by omega)
section
variable {pN pK sT tM fR tC sC : Int32} {c n p kk : Nat} {pe dl hd tl os ga tx rs cs pr pd nx bX na fl aa co ov mx rm sX lX : Nat → Int32}
theorem rs_x98 {post : St2 → Prop} {tC sC : Int32} : ∀ d i, i + d = 9 → post (pN, pK, tC, sC, sT, tM, fR, pe, dl, hd, tl, os, ga, tx, rs, cs, pr, pd, nx, bX, na, fl, aa, co, ov, mx, rm, sX, bs_mz lX (fun _ => -1) 9) → wX_resetSimulation_98 post pN pK tC sC sT tM fR (d + 1) (nI i) pe dl hd tl os ga tx rs cs pr pd nx bX na fl aa co ov mx rm sX (bs_mz lX (fun _ => -1) i) := by
  intro d
  induction d with
  | zero =>
    intro i hi hp
    have e : i = 9 := by omega
    subst e
    exact br_t (nI_le (a := 9) (b := 9) (by omega) (by omega)) hp
  | succ d ih =>
    intro i hi hp
    exact br_f (nI_ge (a := i) (b := 9) (by omega) (by omega)) ⟨vp_in_nI (by omega) (by omega), nm_r (rs_sv (by omega)) (nm_r (nI_1 i) (ih (i + 1) (by omega) hp))⟩
theorem rs_x63 {post : St2 → Prop} {tC : Int32} (hn : n ≤ 16) : ∀ d i, i + d = n → post (pN, pK, tC, nI n, sT, tM, -1, pe, dl, hd, tl, os, ga, tx, rs, cs, pr, pd, nx, bX, na, fl, aa, co, ov, mx, bs_mz rm (fun _ => 0) n, bs_mz sX (fun _ => -1) n, bs_mz lX (fun _ => -1) 9) → wX_resetSimulation_63 post pN pK tC (nI n) sT tM fR (d + 1) (nI i) pe dl hd tl os ga tx rs cs pr pd nx bX na fl aa co ov mx (bs_mz rm (fun _ => 0) i) (bs_mz sX (fun _ => -1) i) lX := by
  intro d
  induction d with
  | zero =>
    intro i hi hp
    have e : i = n := by omega
    subst e
    refine br_t (nI_le (Nat.le_refl i) (by omega)) ⟨10, ?_⟩
    have h := rs_x98 (post := post) (lX := lX) 9 0 rfl hp
    rw [bs_mz0] at h
    exact h
  | succ d ih =>
    intro i hi hp
    exact br_f (nI_ge (a := i) (b := n) (by omega) (by omega)) ⟨vp_in_nI (by omega) (by omega), nm_r (rs_sv (by omega)) ⟨vp_in_nI (by omega) (by omega), nm_r (rs_sv (by omega)) (nm_r (nI_1 i) (ih (i + 1) (by omega) hp))⟩⟩
theorem rs_x7 {post : St2 → Prop} (hc : c ≤ 8) (hn : n ≤ 16) : ∀ d i, i + d = c → post (pN, pK, nI c, nI n, sT, tM, -1, pe, dl, hd, tl, os, ga, tx, rs, cs, pr, pd, nx, bX, bs_mz na os c, bs_mz fl (fun _ => 0) c, aa, bs_mz co (fun _ => 0) c, bs_mz ov (fun _ => 0) c, bs_mz mx (fun _ => -1) c, bs_mz rm (fun _ => 0) n, bs_mz sX (fun _ => -1) n, bs_mz lX (fun _ => -1) 9) → wX_resetSimulation_7 post pN pK (nI c) (nI n) sT tM fR (d + 1) (nI i) pe dl hd tl os ga tx rs cs pr pd nx bX (bs_mz na os i) (bs_mz fl (fun _ => 0) i) aa (bs_mz co (fun _ => 0) i) (bs_mz ov (fun _ => 0) i) (bs_mz mx (fun _ => -1) i) rm sX lX := by
  intro d
  induction d with
  | zero =>
    intro i hi hp
    have e : i = c := by omega
    subst e
    refine br_t (nI_le (Nat.le_refl i) (by omega)) ⟨n + 1, ?_⟩
    have h := rs_x63 (post := post) (fR := fR) (rm := rm) (sX := sX) hn n 0 (by omega) hp
    rw [bs_mz0, bs_mz0] at h
    exact h
  | succ d ih =>
    intro i hi hp
    have k : vp_in (nI i) 8 := vp_in_nI (by omega) (by omega)
    exact br_f (nI_ge (a := i) (b := c) (by omega) (by omega)) ⟨k, k, nm_r (rs_st (by omega)) ⟨k, nm_r (rs_sv (by omega)) ⟨k, nm_r (rs_sv (by omega)) ⟨k, nm_r (rs_sv (by omega)) ⟨k, nm_r (rs_sv (by omega)) (nm_r (nI_1 i) (ih (i + 1) (by omega) hp))⟩⟩⟩⟩⟩
theorem rs_x {post : St2 → Prop} (hc : c ≤ 8) (hn : n ≤ 16) (hp : post (pN, pK, nI c, nI n, sT, 0, -1, pe, dl, hd, tl, os, ga, tx, rs, cs, pr, pd, nx, bX, bs_mz na os c, bs_mz fl (fun _ => 0) c, aa, bs_mz co (fun _ => 0) c, bs_mz ov (fun _ => 0) c, bs_mz mx (fun _ => -1) c, bs_mz rm (fun _ => 0) n, bs_mz sX (fun _ => -1) n, bs_mz lX (fun _ => -1) 9)) : wpX_resetSimulation post (pN, pK, nI c, nI n, sT, tM, fR, pe, dl, hd, tl, os, ga, tx, rs, cs, pr, pd, nx, bX, na, fl, aa, co, ov, mx, rm, sX, lX) := by
  have h := rs_x7 (post := post) (tM := 0) (fR := fR) (na := na) (fl := fl) (co := co) (ov := ov) (mx := mx) hc hn c 0 (by omega) hp
  simp only [bs_mz0] at h
  exact ⟨c + 1, h⟩
theorem sm_w0 {post : Int32 → Prop} {x lo hi : Int32} (h : x < lo) (hp : post 0) : wpX_within post () x lo hi := br_t h hp
theorem sm_w2 {post : Int32 → Prop} {x lo hi : Int32} (h : ¬ x < lo) (h' : hi < x) (hp : post 0) : wpX_within post () x lo hi := br_f h (br_t h' hp)
theorem sm_w1 {post : Int32 → Prop} {a lo hi : Nat} (h : lo ≤ a) (h' : a ≤ hi) (hh : hi < 2 ^ 31) (hp : post 1) : wpX_within post () (nI a) (nI lo) (nI hi) := br_f (nI_nlt h (by omega)) (br_f (nI_nlt h' hh) hp)
theorem sm_t0 {post : Int32 → Prop} {x : Int32} (h : x < 0) (hp : post 0) : wpX_isTransaction post (pN, pK, tC, sC, sT, tM, fR, pe, dl, hd, tl, os, ga, tx, rs, cs, pr, pd, nx, bX, na, fl, aa, co, ov, mx, rm, sX, lX) x := br_t h hp
theorem sm_t2 {post : Int32 → Prop} {x : Int32} (h : ¬ x < 0) (h' : tC ≤ x) (hp : post 0) : wpX_isTransaction post (pN, pK, tC, sC, sT, tM, fR, pe, dl, hd, tl, os, ga, tx, rs, cs, pr, pd, nx, bX, na, fl, aa, co, ov, mx, rm, sX, lX) x := br_f h (br_t h' hp)
theorem sm_t1 {post : Int32 → Prop} {j : Nat} (h : j < c) (hc : c < 2 ^ 31) (hp : post 1) : wpX_isTransaction post (pN, pK, nI c, sC, sT, tM, fR, pe, dl, hd, tl, os, ga, tx, rs, cs, pr, pd, nx, bX, na, fl, aa, co, ov, mx, rm, sX, lX) (nI j) := br_f (nI_pos (by omega)) (br_f (nI_ge h hc) hp)
theorem sm_s0 {post : Int32 → Prop} {x : Int32} (h : x < 0) (hp : post 0) : wpX_isStep post (pN, pK, tC, sC, sT, tM, fR, pe, dl, hd, tl, os, ga, tx, rs, cs, pr, pd, nx, bX, na, fl, aa, co, ov, mx, rm, sX, lX) x := br_t h hp
theorem sm_s2 {post : Int32 → Prop} {x : Int32} (h : ¬ x < 0) (h' : sC ≤ x) (hp : post 0) : wpX_isStep post (pN, pK, tC, sC, sT, tM, fR, pe, dl, hd, tl, os, ga, tx, rs, cs, pr, pd, nx, bX, na, fl, aa, co, ov, mx, rm, sX, lX) x := br_f h (br_t h' hp)
theorem sm_s1 {post : Int32 → Prop} {j : Nat} (h : j < n) (hn : n < 2 ^ 31) (hp : post 1) : wpX_isStep post (pN, pK, tC, nI n, sT, tM, fR, pe, dl, hd, tl, os, ga, tx, rs, cs, pr, pd, nx, bX, na, fl, aa, co, ov, mx, rm, sX, lX) (nI j) := br_f (nI_pos (by omega)) (br_f (nI_ge h hn) hp)
theorem sm_xc2 {post : Int32 → Prop} (hc : c ≤ 8) (h1 : 0 < c → (∀ x, x < c → ¬ hd x = -1) → post 1) (h0 : ¬ (0 < c ∧ ∀ x, x < c → ¬ hd x = -1) → post 0) : ∀ d i, i + d = c → (∀ x, x < i → ¬ hd x = -1) → wX_isComplete_2 post pN pK (nI c) sC sT tM fR pe dl hd tl os ga tx rs cs pr pd nx bX na fl aa co ov mx rm sX lX (d + 1) (nI i) := by
  intro d
  induction d with
  | zero =>
    intro i hi ha
    have e : i = c := by omega
    subst e
    refine br_t (nI_le (by omega) (by omega)) ?_
    by_cases z : i = 0
    · subst z
      exact br_t (by decide) (h0 (fun k => by omega))
    · exact br_f (nI_nle (by omega) (by omega)) (h1 (by omega) ha)
  | succ d ih =>
    intro i hi ha
    refine br_f (nI_ge (by omega) (by omega)) ⟨vp_in_nI (by omega) (by omega), ?_⟩
    rw [nI_clamp (by omega)]
    by_cases e : hd i = -1
    · exact br_t e (h0 (fun k => k.2 i (by omega) e))
    · refine br_f e (nm_r (nI_1 i) (ih (i + 1) (by omega) (fun x hx => ?_)))
      by_cases z : x = i
      · rw [z]; exact e
      · exact ha x (by omega)
theorem sm_xc {post : Int32 → Prop} (hc : c ≤ 8) (h1 : 0 < c → (∀ x, x < c → ¬ hd x = -1) → post 1) (h0 : ¬ (0 < c ∧ ∀ x, x < c → ¬ hd x = -1) → post 0) : wpX_isComplete post (pN, pK, nI c, sC, sT, tM, fR, pe, dl, hd, tl, os, ga, tx, rs, cs, pr, pd, nx, bX, na, fl, aa, co, ov, mx, rm, sX, lX) := ⟨c + 1, sm_xc2 hc h1 h0 c 0 (by omega) (fun x hx => by omega)⟩
theorem cf_up {f : Nat → Int32} {v : Int32} {i : Nat} (h : i < 2 ^ 31) : upd f (nI i).toNatClampNeg v = upd f i v := by rw [nI_clamp h]
theorem cf_cc {post : St2 → Prop} (hc : c ≤ 8) (hn : n ≤ 16) (hp : post (pN, pK, nI c, nI n, 0, 0, -1, pe, dl, hd, tl, os, ga, tx, rs, cs, pr, pd, nx, bX, bs_mz na os c, bs_mz fl (fun _ => 0) c, aa, bs_mz co (fun _ => 0) c, bs_mz ov (fun _ => 0) c, bs_mz mx (fun _ => -1) c, bs_mz rm (fun _ => 0) n, bs_mz sX (fun _ => -1) n, bs_mz lX (fun _ => -1) 9)) : wpX_configurationChanged post (pN, pK, nI c, nI n, sT, tM, fR, pe, dl, hd, tl, os, ga, tx, rs, cs, pr, pd, nx, bX, na, fl, aa, co, ov, mx, rm, sX, lX) := by
  unfold wpX_configurationChanged
  exact rs_x hc hn hp
theorem cf_xt2 {post : Int32 → Prop} {r q : Int32} (hn : n ≤ 16) (h1 : (∃ j, j < n ∧ rs j = r ∧ pr j = q) → post 1) (h0 : (¬ ∃ j, j < n ∧ rs j = r ∧ pr j = q) → post 0) : ∀ d i, i + d = n → (∀ j, j < i → ¬ (rs j = r ∧ pr j = q)) → wX_isPriorityTaken_2 post r q pN pK tC (nI n) sT tM fR pe dl hd tl os ga tx rs cs pr pd nx bX na fl aa co ov mx rm sX lX (d + 1) (nI i) := by
  intro d
  induction d with
  | zero =>
    intro i hi ha
    have e : i = n := by omega
    subst e
    exact br_t (nI_le (by omega) (by omega)) (h0 (fun ⟨j, hj, z⟩ => ha j hj z))
  | succ d ih =>
    intro i hi ha
    have next : ¬ (rs i = r ∧ pr i = q) → wX_isPriorityTaken_2 post r q pN pK tC (nI n) sT tM fR pe dl hd tl os ga tx rs cs pr pd nx bX na fl aa co ov mx rm sX lX (d + 1) (nI (i + 1)) := by
      intro z
      refine ih (i + 1) (by omega) (fun j hj => ?_)
      by_cases e : j = i
      · rw [e]; exact z
      · exact ha j (by omega)
    have hin : vp_in (nI i) 16 := vp_in_nI (by omega) (by omega)
    refine br_f (nI_ge (by omega) (by omega)) ⟨hin, ?_⟩
    rw [nI_clamp (by omega)]
    by_cases e : rs i = r
    · refine br_t e ⟨hin, ?_⟩
      by_cases g : pr i = q
      · exact br_t g (h1 ⟨i, by omega, e, g⟩)
      · exact br_f g (nm_r (nI_1 i) (next (fun z => g z.2)))
    · exact br_f e (nm_r (nI_1 i) (next (fun z => e z.1)))
theorem cf_xt {post : Int32 → Prop} {r q : Int32} (hn : n ≤ 16) (h1 : (∃ j, j < n ∧ rs j = r ∧ pr j = q) → post 1) (h0 : (¬ ∃ j, j < n ∧ rs j = r ∧ pr j = q) → post 0) : wpX_isPriorityTaken post (pN, pK, tC, nI n, sT, tM, fR, pe, dl, hd, tl, os, ga, tx, rs, cs, pr, pd, nx, bX, na, fl, aa, co, ov, mx, rm, sX, lX) r q := ⟨n + 1, cf_xt2 hn h1 h0 n 0 (by omega) (fun j hj => by omega)⟩
theorem cf_ap1 {post : St2 → Prop} {x : Nat} (hx : x < 8) (hn : n < 16) (e : tl x = -1) (hp : post (pN, pK, tC, sC, sT, tM, fR, pe, dl, upd hd x (nI n), upd tl x (nI n), os, ga, tx, rs, cs, pr, upd pd n (-1), upd nx n (-1), bX, na, fl, aa, co, ov, mx, rm, sX, lX)) : wpX_appendToChain post (pN, pK, tC, sC, sT, tM, fR, pe, dl, hd, tl, os, ga, tx, rs, cs, pr, pd, nx, bX, na, fl, aa, co, ov, mx, rm, sX, lX) (nI x) (nI n) := by
  have i8 : vp_in (nI x) 8 := vp_in_nI (by omega) (by omega)
  have i16 : vp_in (nI n) 16 := vp_in_nI (by omega) (by omega)
  refine ⟨i8, nm_r (by rw [nI_clamp (by omega), e]) ⟨i16, nm_r (cf_up (by omega)) ⟨i16, nm_r (cf_up (by omega)) (br_t rfl ⟨i8, nm_r (cf_up (by omega)) ⟨i8, nm_r (cf_up (by omega)) hp⟩⟩)⟩⟩⟩
theorem cf_ap2 {post : St2 → Prop} {x l : Nat} (hx : x < 8) (hn : n < 16) (hl : l < n) (e : tl x = nI l) (hp : post (pN, pK, tC, sC, sT, tM, fR, pe, dl, hd, upd tl x (nI n), os, ga, tx, rs, cs, pr, upd pd n (nI l), upd (upd nx n (-1)) l (nI n), bX, na, fl, aa, co, ov, mx, rm, sX, lX)) : wpX_appendToChain post (pN, pK, tC, sC, sT, tM, fR, pe, dl, hd, tl, os, ga, tx, rs, cs, pr, pd, nx, bX, na, fl, aa, co, ov, mx, rm, sX, lX) (nI x) (nI n) := by
  have i8 : vp_in (nI x) 8 := vp_in_nI (by omega) (by omega)
  have i16 : vp_in (nI n) 16 := vp_in_nI (by omega) (by omega)
  have il : vp_in (nI l) 16 := vp_in_nI (by omega) (by omega)
  refine ⟨i8, nm_r (by rw [nI_clamp (by omega), e]) ⟨i16, nm_r (cf_up (by omega)) ⟨i16, nm_r (cf_up (by omega)) (br_f (bs_ne (by omega)) ⟨il, nm_r (cf_up (by omega)) ⟨i8, nm_r (cf_up (by omega)) hp⟩⟩)⟩⟩⟩
end
end
section
/-! the component: the analysis -/
def an_C (cs : Nat → Int32) (s : Nat) : Nat := (cs s).toNatClampNeg
def an_T (pe tx : Nat → Int32) (s : Nat) : Nat := (pe (tx s).toNatClampNeg).toNatClampNeg
def an_H (n : Nat) (pe dl tx cs pd : Nat → Int32) : Prop :=
  n ≤ 16 ∧ (∀ j, j < n → pd j = -1 ∨ ∃ q, q < n ∧ pd j = nI q) ∧ (∀ s, s < n → ∃ y, y < 8 ∧ tx s = nI y) ∧
  (∀ s, s < n → cs s = nI (an_C cs s) ∧ 1 ≤ an_C cs s ∧ an_C cs s ≤ 20) ∧
  (∀ s, s < n → pe (tx s).toNatClampNeg = nI (an_T pe tx s) ∧ 1 ≤ an_T pe tx s ∧ an_T pe tx s ≤ 200) ∧
  (∀ s, s < n → dl (tx s).toNatClampNeg = nI (an_T dl tx s) ∧ 1 ≤ an_T dl tx s ∧ an_T dl tx s ≤ 200)
theorem an_v {x : Int32} {m : Nat} (hm : m < 2 ^ 31) (h : ∃ v, 1 ≤ v ∧ v ≤ m ∧ x = nI v) : x = nI x.toNatClampNeg ∧ 1 ≤ x.toNatClampNeg ∧ x.toNatClampNeg ≤ m := by
  obtain ⟨v, h1, h2, rfl⟩ := h
  rw [nI_clamp (by omega)]
  exact ⟨rfl, h1, h2⟩
section
variable {n : Nat} {pe dl tx rs cs pr pd : Nat → Int32} {R : Nat → Nat}
theorem an_cf (h : an_H n pe dl tx cs pd) : fx_Cf n pd (an_T dl tx) := by
  obtain ⟨h0, h1, _, _, _, h5⟩ := h
  refine ⟨fun j hj => ?_, fun s hs => (h5 s hs).2.2⟩
  rcases h1 j hj with e | ⟨q, hq, e⟩
  · exact Or.inl e
  · exact Or.inr (by rw [e, nI_clamp (by omega)]; exact hq)
theorem an_en {r : Nat} (h : r ≤ 200 ∨ r = 1000000) : rl_en r = -1 ↔ r = 1000000 := by
  rcases rl_en_1 h with ⟨e, e'⟩ | ⟨e, e'⟩
  · exact ⟨fun _ => e, fun _ => e'⟩
  · rw [e']
    exact ⟨fun z => absurd z (bs_ne (by omega)), fun z => by omega⟩
theorem an_en_inj {r q : Nat} (h : r ≤ 200 ∨ r = 1000000) (k : q ≤ 200 ∨ q = 1000000) : rl_en r = rl_en q ↔ r = q := by
  refine ⟨fun z => ?_, fun z => by rw [z]⟩
  rcases rl_en_1 h with ⟨e, e'⟩ | ⟨e, e'⟩
  · rw [e'] at z
    have := (an_en k).mp z.symm
    omega
  · rcases rl_en_1 k with ⟨g, g'⟩ | ⟨g, g'⟩
    · rw [g'] at z
      have := (an_en h).mp z
      omega
    · rw [e', g'] at z
      exact (nI_eq (by omega) (by omega)).mp z
theorem an_fin {r : Nat} (h : r ≤ 200) : rl_en r = nI r := if_neg (by omega)
theorem an_J (h : an_H n pe dl tx cs pd) (hR : fx_VL n R) {j : Nat} (hj : j < n) : fx_J pd R j ≤ 200 ∨ fx_J pd R j = 1000000 := by
  unfold fx_J
  by_cases e : pd j = -1
  · rw [if_pos e]; exact Or.inl (by omega)
  · rw [if_neg e]
    rcases h.2.1 j hj with z | ⟨q, hq, z⟩
    · exact absurd z e
    · rw [z, nI_clamp (by have := h.1; omega)]
      exact hR q hq
theorem an_nb (h : an_H n pe dl tx cs pd) (hR : fx_VL n R) {s : Nat} (hb : ¬ fx_bad n rs pr pd R s) : ∀ j, j < n → (j = s ∨ (rs j = rs s ∧ pr s < pr j)) → fx_J pd R j ≤ 200 := by
  intro j hj hc
  rcases an_J h hR hj with z | z
  · exact z
  · exact absurd ⟨j, hj, hc, z⟩ hb
theorem an_bl (h : an_H n pe dl tx cs pd) {s : Nat} (hs : s < n) : ∀ k, k ≤ n → fx_bl rs pr (an_C cs) s k ≤ 20 := by
  intro k
  induction k with
  | zero => intro _; exact (h.2.2.2.1 s hs).2.2
  | succ k ih =>
    intro hk
    have a := ih (by omega)
    have b := (h.2.2.2.1 k (by omega)).2.2
    simp only [fx_bl]
    split
    · split
      · exact b
      · exact a
    · exact a
theorem an_sm (h : an_H n pe dl tx cs pd) {s sp : Nat} (hsp : sp ≤ 300) (hfin : ∀ j, j < n → rs j = rs s ∧ pr s < pr j → fx_J pd R j ≤ 200) : ∀ k, k ≤ n → fx_sm rs pr (an_C cs) (an_T pe tx) (fx_J pd R) s sp k ≤ k * 14000 := by
  intro k
  induction k with
  | zero => intro _; exact Nat.zero_le _
  | succ k ih =>
    intro hk
    have a := ih (by omega)
    have b := h.2.2.2.1 k (by omega)
    have t := h.2.2.2.2.1 k (by omega)
    simp only [fx_sm]
    by_cases e : rs k = rs s ∧ pr s < pr k
    · rw [if_pos e]
      have j := hfin k (by omega) e
      have d : (sp + fx_J pd R k + an_T pe tx k - 1) / an_T pe tx k ≤ 700 := Nat.le_trans (Nat.div_le_self _ _) (by omega)
      have m : (sp + fx_J pd R k + an_T pe tx k - 1) / an_T pe tx k * an_C cs k ≤ 700 * 20 := Nat.mul_le_mul d b.2.2
      omega
    · rw [if_neg e]; omega
end
def ti_gr (a b : Int32) : Int32 := if a ≤ b then b else a
theorem ti_gr1 {a b : Int32} (h : b ≤ a) : ti_gr a b = a := by
  unfold ti_gr
  by_cases e : a ≤ b
  · rw [if_pos e]; exact Int32.le_antisymm h e
  · rw [if_neg e]
theorem ti_gr2 {a b : Int32} (h : ¬ b ≤ a) : ti_gr a b = b := by
  unfold ti_gr
  rw [if_pos (Int32.le_of_lt (Int32.not_le.mp h))]
section
variable {pN pK sT tM fR tC sC : Int32} {c n p kk : Nat} {pe dl hd tl os ga tx rs cs pr pd nx bX na fl aa co ov mx rm sX lX : Nat → Int32} {R : Nat → Nat}
theorem ti_gx {post : Int32 → Prop} {a b : Int32} (hp : post (ti_gr a b)) : wpX_greater post () a b := by
  unfold ti_gr at hp
  by_cases e : a ≤ b
  · rw [if_pos e] at hp; exact br_t e hp
  · rw [if_neg e] at hp; exact br_f e hp
theorem an_xu {post : Int32 → Prop} {j s : Nat} (hj : j < 16) (hs : s < 16) (h1 : rs j = rs s ∧ pr s < pr j → post 1) (h0 : ¬ (rs j = rs s ∧ pr s < pr j) → post 0) : wpX_isMoreUrgent post (pN, pK, tC, sC, sT, tM, fR, pe, dl, hd, tl, os, ga, tx, rs, cs, pr, pd, nx, bX, na, fl, aa, co, ov, mx, rm, sX, lX) (nI j) (nI s) := by
  have kj : vp_in (nI j) 16 := vp_in_nI hj (by omega)
  have ks : vp_in (nI s) 16 := vp_in_nI hs (by omega)
  refine ⟨kj, ks, ?_⟩
  rw [nI_clamp (by omega), nI_clamp (by omega)]
  by_cases e : rs j = rs s
  · refine br_t e ⟨kj, ks, ?_⟩
    by_cases g : pr j ≤ pr s
    · exact br_t g (h0 (fun z => Int32.not_lt.mpr g z.2))
    · exact br_f g (h1 ⟨e, Int32.not_le.mp g⟩)
  · exact br_f e (h0 (fun z => e z.1))
theorem an_xj {post : Int32 → Prop} {j : Nat} (h : an_H n pe dl tx cs pd) (hb : ∀ i, i < n → bX i = rl_en (R i)) (hj : j < n) (hp : post (rl_en (fx_J pd R j))) : wpX_jitter post (pN, pK, tC, sC, sT, tM, fR, pe, dl, hd, tl, os, ga, tx, rs, cs, pr, pd, nx, bX, na, fl, aa, co, ov, mx, rm, sX, lX) (nI j) := by
  have hn := h.1
  have k : vp_in (nI j) 16 := vp_in_nI (by omega) (by omega)
  refine ⟨k, ?_⟩
  rw [nI_clamp (by omega)]
  unfold fx_J at hp
  by_cases e : pd j = -1
  · rw [if_pos e] at hp
    exact br_t e hp
  · rw [if_neg e] at hp
    rcases h.2.1 j hj with z | ⟨q, hq, z⟩
    · exact absurd z e
    · refine br_f e ⟨k, ?_⟩
      rw [z, nI_clamp (by omega)] at hp ⊢
      rw [hb q hq]
      exact ⟨vp_in_nI (by omega) (by omega), hp⟩
theorem an_xb2 {post : Int32 → Prop} {s : Nat} (h : an_H n pe dl tx cs pd) (hR : fx_VL n R) (hb : ∀ i, i < n → bX i = rl_en (R i)) (hs : s < n) (h1 : fx_bad n rs pr pd R s → post 1) (h0 : ¬ fx_bad n rs pr pd R s → post 0) : ∀ d i, i + d = n → (∀ j, j < i → (j = s ∨ (rs j = rs s ∧ pr s < pr j)) → ¬ fx_J pd R j = 1000000) → wX_hasUnboundedJitter_2 post (nI s) pN pK tC (nI n) sT tM fR pe dl hd tl os ga tx rs cs pr pd nx bX na fl aa co ov mx rm sX lX (d + 1) (nI i) := by
  have hn := h.1
  intro d
  induction d with
  | zero =>
    intro i hi ha
    have e : i = n := by omega
    subst e
    exact br_t (nI_le (by omega) (by omega)) (h0 (fun ⟨j, hj, hc, z⟩ => ha j hj hc z))
  | succ d ih =>
    intro i hi ha
    have next : ((i = s ∨ (rs i = rs s ∧ pr s < pr i)) → ¬ fx_J pd R i = 1000000) → wX_hasUnboundedJitter_2 post (nI s) pN pK tC (nI n) sT tM fR pe dl hd tl os ga tx rs cs pr pd nx bX na fl aa co ov mx rm sX lX (d + 1) (nI (i + 1)) := by
      intro z
      refine ih (i + 1) (by omega) (fun j hj => ?_)
      by_cases e : j = i
      · rw [e]; exact z
      · exact ha j (by omega)
    have t24 : (i = s ∨ (rs i = rs s ∧ pr s < pr i)) → wX_hasUnboundedJitter_24 post (wX_hasUnboundedJitter_2 post (nI s) pN pK tC (nI n) sT tM fR pe dl hd tl os ga tx rs cs pr pd nx bX na fl aa co ov mx rm sX lX (d + 1)) (nI s) (nI i) pN pK tC (nI n) sT tM fR pe dl hd tl os ga tx rs cs pr pd nx bX na fl aa co ov mx rm sX lX := by
      intro hc
      unfold wX_hasUnboundedJitter_24
      refine an_xj h hb (by omega : i < n) ?_
      by_cases z : fx_J pd R i = 1000000
      · exact br_t ((an_en (an_J h hR (by omega))).mpr z) (h1 ⟨i, by omega, hc, z⟩)
      · exact br_f (fun w => z ((an_en (an_J h hR (by omega))).mp w)) (nm_r (nI_1 i) (next (fun _ => z)))
    refine br_f (nI_ge (by omega) (by omega)) ?_
    by_cases e : i = s
    · exact br_t (by rw [e]) (t24 (Or.inl e))
    · refine br_f (fun z => e ((nI_eq (by omega) (by omega)).mp z)) (an_xu (by omega) (by omega) (fun u => br_f sm_1 (t24 (Or.inr u))) (fun u => br_t rfl (nm_r (nI_1 i) (next (fun z => ?_)))))
      rcases z with z | z
      · exact absurd z e
      · exact absurd z u
theorem an_xb {post : Int32 → Prop} {s : Nat} (h : an_H n pe dl tx cs pd) (hR : fx_VL n R) (hb : ∀ i, i < n → bX i = rl_en (R i)) (hs : s < n) (h1 : fx_bad n rs pr pd R s → post 1) (h0 : ¬ fx_bad n rs pr pd R s → post 0) : wpX_hasUnboundedJitter post (pN, pK, tC, nI n, sT, tM, fR, pe, dl, hd, tl, os, ga, tx, rs, cs, pr, pd, nx, bX, na, fl, aa, co, ov, mx, rm, sX, lX) (nI s) :=
  ⟨n + 1, an_xb2 h hR hb hs h1 h0 n 0 (by omega) (fun j hj => by omega)⟩
theorem an_xl9 {post : Int32 → Prop} {s : Nat} (h : an_H n pe dl tx cs pd) (hs : s < n) : ∀ d i, i + d = n → post (nI (fx_bl rs pr (an_C cs) s n)) → wX_longestBlocking_9 post (nI s) pN pK tC (nI n) sT tM fR pe dl hd tl os ga tx rs cs pr pd nx bX na fl aa co ov mx rm sX lX (d + 1) (nI (fx_bl rs pr (an_C cs) s i)) (nI i) := by
  have hn := h.1
  intro d
  induction d with
  | zero =>
    intro i hi hp
    have e : i = n := by omega
    subst e
    exact br_t (nI_le (by omega) (by omega)) hp
  | succ d ih =>
    intro i hi hp
    have z := ih (i + 1) (by omega) hp
    simp only [fx_bl] at z
    have hci := h.2.2.2.1 i (by omega)
    have hbl := an_bl (rs := rs) (pr := pr) h hs i (by omega)
    refine br_f (nI_ge (by omega) (by omega)) (an_xu (by omega) (by omega) (fun u => ?_) (fun u => ?_))
    · rw [if_pos ⟨u.1.symm, u.2⟩] at z
      refine br_f sm_1 ⟨vp_in_nI (by omega) (by omega), ?_⟩
      rw [nI_clamp (by omega), hci.1]
      refine ti_gx ?_
      unfold ti_gr
      by_cases q : fx_bl rs pr (an_C cs) s i < an_C cs i
      · rw [if_pos q] at z
        rw [if_pos (nI_le (by omega) (by omega))]
        exact nm_r (nI_1 i) z
      · rw [if_neg q] at z
        by_cases e : fx_bl rs pr (an_C cs) s i = an_C cs i
        · rw [if_pos (nI_le (by omega) (by omega)), ← e]
          exact nm_r (nI_1 i) z
        · rw [if_neg (nI_ge (by omega) (by omega))]
          exact nm_r (nI_1 i) z
    · rw [if_neg (fun w => u ⟨w.1.symm, w.2⟩)] at z
      exact br_t rfl (nm_r (nI_1 i) z)
theorem an_xl {post : Int32 → Prop} {s : Nat} (h : an_H n pe dl tx cs pd) (hs : s < n) (hp : post (nI (fx_bl rs pr (an_C cs) s n))) : wpX_longestBlocking post (pN, pK, tC, nI n, sT, tM, fR, pe, dl, hd, tl, os, ga, tx, rs, cs, pr, pd, nx, bX, na, fl, aa, co, ov, mx, rm, sX, lX) (nI s) := by
  have hn := h.1
  exact ⟨vp_in_nI (by omega) (by omega), nm_r (by rw [nI_clamp (by omega)]; exact (h.2.2.2.1 s hs).1) ⟨n + 1, an_xl9 h hs n 0 (by omega) hp⟩⟩
theorem an_div {a t : Nat} (ha : a ≤ 1000) (h1 : 1 ≤ t) (ht : t ≤ 200) : (nI a + nI t - 1) / nI t = nI ((a + t - 1) / t) := by
  rw [nI_add, show (1 : Int32) = nI 1 from rfl, pk_sub (by omega), pk_div (by omega) (by omega) (by omega)]
theorem an_xi5 {post : Int32 → Prop} {s sp : Nat} (h : an_H n pe dl tx cs pd) (hb : ∀ i, i < n → bX i = rl_en (R i)) (hs : s < n) (hsp : sp ≤ 300) (hfin : ∀ j, j < n → rs j = rs s ∧ pr s < pr j → fx_J pd R j ≤ 200) :
    ∀ d i, i + d = n → post (nI (fx_sm rs pr (an_C cs) (an_T pe tx) (fx_J pd R) s sp n)) → wX_interference_5 post (nI s) (nI sp) pN pK tC (nI n) sT tM fR pe dl hd tl os ga tx rs cs pr pd nx bX na fl aa co ov mx rm sX lX (d + 1) (nI (fx_sm rs pr (an_C cs) (an_T pe tx) (fx_J pd R) s sp i)) (nI i) := by
  have hn := h.1
  intro d
  induction d with
  | zero =>
    intro i hi hp
    have e : i = n := by omega
    subst e
    exact br_t (nI_le (by omega) (by omega)) hp
  | succ d ih =>
    intro i hi hp
    have z := ih (i + 1) (by omega) hp
    simp only [fx_sm] at z
    have hci := h.2.2.2.1 i (by omega)
    have hti := h.2.2.2.2.1 i (by omega)
    obtain ⟨y, hy, ey⟩ := h.2.2.1 i (by omega)
    have ki : vp_in (nI i) 16 := vp_in_nI (by omega) (by omega)
    have cl : (nI i).toNatClampNeg = i := nI_clamp (by omega)
    refine br_f (nI_ge (by omega) (by omega)) (an_xu (by omega) (by omega) (fun u => br_f sm_1 (an_xj h hb (by omega : i < n) ?_)) (fun u => ?_))
    · have hJ := hfin i (by omega) u
      rw [if_pos u] at z
      rw [an_fin hJ]
      refine nm_r (nI_add _ _) ⟨ki, ?_⟩
      rw [cl]
      refine ⟨by rw [ey]; exact vp_in_nI hy (by omega), ?_⟩
      rw [hti.1]
      refine br_t (nI_le (a := 1) (by omega) (by omega)) ⟨nI_ne0 (by omega) (by omega), ki, ?_⟩
      rw [an_div (by omega) hti.2.1 hti.2.2, hci.1, pk_mul, nI_add]
      exact nm_e (nm_r (nI_1 i) z)
    · rw [if_neg u] at z
      exact br_t rfl (nm_r (nI_1 i) z)
theorem an_xi {post : Int32 → Prop} {s sp : Nat} (h : an_H n pe dl tx cs pd) (hb : ∀ i, i < n → bX i = rl_en (R i)) (hs : s < n) (hsp : sp ≤ 300) (hfin : ∀ j, j < n → rs j = rs s ∧ pr s < pr j → fx_J pd R j ≤ 200) (hp : post (nI (fx_sm rs pr (an_C cs) (an_T pe tx) (fx_J pd R) s sp n))) : wpX_interference post (pN, pK, tC, nI n, sT, tM, fR, pe, dl, hd, tl, os, ga, tx, rs, cs, pr, pd, nx, bX, na, fl, aa, co, ov, mx, rm, sX, lX) (nI s) (nI sp) :=
  ⟨n + 1, an_xi5 h hb hs hsp hfin n 0 (by omega) hp⟩
theorem an_xw3 {post : Int32 → Prop} {s B ld M : Nat} (h : an_H n pe dl tx cs pd) (hb : ∀ i, i < n → bX i = rl_en (R i)) (hs : s < n) (hB : B ≤ 20) (hld : ld ≤ 1) (hM : M ≤ 200) (hfin : ∀ j, j < n → rs j = rs s ∧ pr s < pr j → fx_J pd R j ≤ 200)
    (hp1 : ∀ w, w ≤ M → B + fx_sm rs pr (an_C cs) (an_T pe tx) (fx_J pd R) s (w + ld) n = w → (∀ u, u < w → B + fx_sm rs pr (an_C cs) (an_T pe tx) (fx_J pd R) s (u + ld) n ≠ u) → post (nI w))
    (hp0 : (∀ w, w ≤ M → B + fx_sm rs pr (an_C cs) (an_T pe tx) (fx_J pd R) s (w + ld) n ≠ w) → post (-1)) :
    ∀ d i, i + d = M + 1 → (∀ u, u < i → B + fx_sm rs pr (an_C cs) (an_T pe tx) (fx_J pd R) s (u + ld) n ≠ u) → wX_leastWindow_3 post (nI s) (nI B) (nI ld) (nI M) pN pK tC (nI n) sT tM fR pe dl hd tl os ga tx rs cs pr pd nx bX na fl aa co ov mx rm sX lX (d + 1) (nI i) := by
  have hn := h.1
  intro d
  induction d with
  | zero =>
    intro i hi ha
    exact br_t (nI_lt (by omega) (by omega)) (hp0 (fun w hw => ha w (by omega)))
  | succ d ih =>
    intro i hi ha
    refine br_f (nI_nlt (by omega) (by omega)) ?_
    rw [nI_add]
    refine an_xi h hb hs (by omega) hfin ?_
    have b := an_sm (s := s) (sp := i + ld) h (by omega) hfin n (Nat.le_refl n)
    rw [nI_add]
    refine nm_e ?_
    by_cases e : B + fx_sm rs pr (an_C cs) (an_T pe tx) (fx_J pd R) s (i + ld) n = i
    · exact br_t (by rw [e]) (hp1 i (by omega) e ha)
    · refine br_f (fun z => e ((nI_eq (by omega) (by omega)).mp z)) (nm_r (nI_1 i) (ih (i + 1) (by omega) (fun u hu => ?_)))
      by_cases g : u = i
      · rw [g]; exact e
      · exact ha u (by omega)
theorem an_x67 {post : Int32 → Prop} {s B ld ou : Nat} (h : an_H n pe dl tx cs pd) (hb : ∀ i, i < n → bX i = rl_en (R i)) (hs : s < n) (hB : B ≤ 20) (hld : ld ≤ 1) (hou : ou ≤ 300) (hfin : ∀ j, j < n → rs j = rs s ∧ pr s < pr j → fx_J pd R j ≤ 200)
    (hp1 : ∀ w, ou + w ≤ an_T dl tx s → B + fx_sm rs pr (an_C cs) (an_T pe tx) (fx_J pd R) s (w + ld) n = w → (∀ u, u < w → B + fx_sm rs pr (an_C cs) (an_T pe tx) (fx_J pd R) s (u + ld) n ≠ u) → post (nI (ou + w)))
    (hp0 : (∀ w, B + fx_sm rs pr (an_C cs) (an_T pe tx) (fx_J pd R) s (w + ld) n = w → an_T dl tx s < ou + w) → post (-1)) :
    wX_askedBound_67 post (nI s) (nI ou) (nI B) (nI ld) pN pK tC (nI n) sT tM fR pe dl hd tl os ga tx rs cs pr pd nx bX na fl aa co ov mx rm sX lX := by
  have hn := h.1
  have hd := h.2.2.2.2.2 s hs
  obtain ⟨y, hy, ey⟩ := h.2.2.1 s hs
  refine ⟨vp_in_nI (by omega) (by omega), ?_⟩
  rw [nI_clamp (by omega), hd.1]
  refine ⟨by rw [ey]; exact vp_in_nI hy (by omega), ?_⟩
  by_cases g : ou ≤ an_T dl tx s
  · rw [pk_sub g]
    refine ⟨an_T dl tx s - ou + 2, an_xw3 h hb hs hB hld (by omega) hfin (fun w hw e1 e2 => ?_) (fun e => ?_) (an_T dl tx s - ou + 1) 0 (by omega) (fun u hu => by omega)⟩
    · refine br_f (bs_ne (by omega)) ?_
      rw [nI_add]
      exact hp1 w (by omega) e1 e2
    · refine br_t rfl (hp0 (fun w ew => ?_))
      by_cases q : an_T dl tx s < ou + w
      · exact q
      · exact absurd ew (e w (by omega))
  · refine ⟨1, br_t (pk_sneg (by omega) (by omega)) (br_t rfl (hp0 (fun w _ => by omega)))⟩
theorem an_xask {post : Int32 → Prop} {s : Nat} (h : an_H n pe dl tx cs pd) (hR : fx_VL n R) (hb : ∀ i, i < n → bX i = rl_en (R i)) (hs : s < n) (hp : ∀ r, fx_Fr n rs pr pd (an_C cs) (an_T pe tx) (an_T dl tx) R s r → post (rl_en r)) : wpX_askedBound post (pN, pK, tC, nI n, sT, tM, fR, pe, dl, hd, tl, os, ga, tx, rs, cs, pr, pd, nx, bX, na, fl, aa, co, ov, mx, rm, sX, lX) (nI s) := by
  have hn := h.1
  have ks : vp_in (nI s) 16 := vp_in_nI (by omega) (by omega)
  have cl : (nI s).toNatClampNeg = s := nI_clamp (by omega)
  have hcs := h.2.2.2.1 s hs
  unfold wpX_askedBound
  refine an_xb h hR hb hs (fun bad => br_f sm_1 (hp 1000000 (Or.inl ⟨bad, rfl⟩))) (fun nb => br_t rfl ⟨ks, ?_⟩)
  have fin := an_nb h hR nb
  have hJs := fin s hs (Or.inl rfl)
  have hfin : ∀ j, j < n → rs j = rs s ∧ pr s < pr j → fx_J pd R j ≤ 200 := fun j hj u => fin j hj (Or.inr u)
  rw [cl]
  by_cases e8 : rs s = 8
  · refine br_t e8 ?_
    unfold wX_askedBound_26
    refine an_xj h hb hs ⟨ks, ?_⟩
    rw [cl, an_fin hJs, hcs.1]
    refine nm_e (br_f sm_1 ⟨ks, ?_⟩)
    rw [nI_add]
    refine nm_e (an_xl h hs ?_)
    have eo : fx_out rs pd (an_C cs) R s = fx_J pd R s + an_C cs s := by unfold fx_out; rw [if_pos e8]
    have ef : ∀ w, fx_f n rs pr pd (an_C cs) (an_T pe tx) R s w = fx_bl rs pr (an_C cs) s n + fx_sm rs pr (an_C cs) (an_T pe tx) (fx_J pd R) s (w + 1) n := by
      intro w
      unfold fx_f fx_base fx_lead
      rw [if_pos e8, if_pos e8]
    refine an_x67 (ld := 1) h hb hs (an_bl h hs n (Nat.le_refl n)) (by omega) (by omega) hfin (fun w h1 h2 h3 => ?_) (fun h1 => ?_)
    · have := hp (fx_J pd R s + an_C cs s + w) (Or.inr ⟨nb, Or.inl ⟨w, by rw [ef]; exact h2, fun u hu => by rw [ef]; exact h3 u hu, by rw [eo]; exact h1, by rw [eo]⟩⟩)
      rw [an_fin (by have := (h.2.2.2.2.2 s hs).2.2; omega)] at this
      exact this
    · exact hp 1000000 (Or.inr ⟨nb, Or.inr ⟨fun w ew => by rw [ef] at ew; rw [eo]; exact h1 w ew, rfl⟩⟩)
  · refine br_f e8 ?_
    unfold wX_askedBound_26
    refine an_xj h hb hs ⟨ks, ?_⟩
    rw [cl, an_fin hJs, hcs.1]
    refine nm_e (br_t rfl ?_)
    have eo : fx_out rs pd (an_C cs) R s = fx_J pd R s := by unfold fx_out; rw [if_neg e8]; rfl
    have ef : ∀ w, fx_f n rs pr pd (an_C cs) (an_T pe tx) R s w = an_C cs s + fx_sm rs pr (an_C cs) (an_T pe tx) (fx_J pd R) s (w + 0) n := by
      intro w
      unfold fx_f fx_base fx_lead
      rw [if_neg e8, if_neg e8]
    refine an_x67 (ld := 0) h hb hs hcs.2.2 (by omega) (by omega) hfin (fun w h1 h2 h3 => ?_) (fun h1 => ?_)
    · have := hp (fx_J pd R s + w) (Or.inr ⟨nb, Or.inl ⟨w, by rw [ef]; exact h2, fun u hu => by rw [ef]; exact h3 u hu, by rw [eo]; exact h1, by rw [eo]⟩⟩)
      rw [an_fin (by have := (h.2.2.2.2.2 s hs).2.2; omega)] at this
      exact this
    · exact hp 1000000 (Or.inr ⟨nb, Or.inr ⟨fun w ew => by rw [ef] at ew; rw [eo]; exact h1 w ew, rfl⟩⟩)
end
section
variable {n : Nat} {pe dl tx rs cs pr pd : Nat → Int32} {R Q : Nat → Nat}
abbrev an_I (n : Nat) (pe dl tx rs cs pr pd : Nat → Int32) (R : Nat → Nat) : Prop := fx_Inv n rs pr pd (an_C cs) (an_T pe tx) (an_T dl tx) R
abbrev an_F (n : Nat) (pe dl tx rs cs pr pd : Nat → Int32) (R : Nat → Nat) (s r : Nat) : Prop := fx_Fr n rs pr pd (an_C cs) (an_T pe tx) (an_T dl tx) R s r
theorem an_mu (hn : n ≤ 16) : fx_mu R n ≤ 3216 := Nat.le_trans (fx_mu_max R n) (by omega)
end
section
variable {pN pK sT tM fR tC sC : Int32} {c n p kk : Nat} {pe dl hd tl os ga tx rs cs pr pd nx bX na fl aa co ov mx rm sX lX : Nat → Int32} {R : Nat → Nat}
theorem an_xr4 {post : Int32 → St2 → Prop} {R0 : Nat → Nat} (h : an_H n pe dl tx cs pd)
    (hp : ∀ (R : Nat → Nat) (b : Nat → Int32) (r : Int32), an_I n pe dl tx rs cs pr pd R → (∀ j, j < n → b j = rl_en (R j)) → (∀ j, j < n → R0 j ≤ R j) → ((r = 0 ∧ ∀ j, j < n → an_F n pe dl tx rs cs pr pd R j (R j)) ∨ (r = 1 ∧ ∃ j, j < n ∧ R0 j ≠ R j)) → post r (pN, pK, tC, nI n, sT, tM, fR, pe, dl, hd, tl, os, ga, tx, rs, cs, pr, pd, nx, b, na, fl, aa, co, ov, mx, rm, sX, lX)) :
    ∀ (d i : Nat) (R : Nat → Nat) (bX : Nat → Int32) (r : Int32), i + d = n → an_I n pe dl tx rs cs pr pd R → (∀ j, j < n → bX j = rl_en (R j)) → (∀ j, j < n → R0 j ≤ R j) → ((r = 0 ∧ ∀ j, j < i → an_F n pe dl tx rs cs pr pd R j (R j)) ∨ (r = 1 ∧ ∃ j, j < n ∧ R0 j ≠ R j)) →
      wX_raiseBounds_4 post pN pK tC (nI n) sT tM fR (d + 1) r (nI i) pe dl hd tl os ga tx rs cs pr pd nx bX na fl aa co ov mx rm sX lX := by
  have hn := h.1
  have hcf := an_cf h
  intro d
  induction d with
  | zero =>
    intro i R bX r hi hI hb hle hst
    have e : i = n := by omega
    subst e
    refine br_t (nI_le (by omega) (by omega)) ⟨?_, hp R bX r hI hb hle hst⟩
    rcases hst with ⟨rfl, _⟩ | ⟨rfl, _⟩ <;> rfl
  | succ d ih =>
    intro i R bX r hi hI hb hle hst
    have k : vp_in (nI i) 16 := vp_in_nI (by omega) (by omega)
    refine br_f (nI_ge (by omega) (by omega)) (an_xask h hI.1 hb (by omega : i < n) (fun a ha => ⟨k, ?_⟩))
    rw [nI_clamp (by omega), hb i (by omega)]
    have va := fx_val hcf (by omega : i < n) ha
    have vR := hI.1 i (by omega)
    by_cases e : a = R i
    · refine br_t (by rw [e]) (nm_r (nI_1 i) (ih (i + 1) R bX r (by omega) hI hb hle ?_))
      rcases hst with ⟨e0, hF⟩ | z
      · refine Or.inl ⟨e0, fun j hj => ?_⟩
        by_cases q : j = i
        · rw [q, ← e]; exact ha
        · exact hF j (by omega)
      · exact Or.inr z
    · have ⟨hra, hI'⟩ := fx_step hcf hI (by omega : i < n) ha
      refine br_f (fun z => e ((an_en_inj va vR).mp z)) ⟨k, nm_e (nm_r (nI_1 i) (ih (i + 1) (fun t => if t = i then a else R t) (upd bX i (rl_en a)) 1 (by omega) hI' (fun j hj => ?_) (fun j hj => ?_) (Or.inr ⟨rfl, i, by omega, ?_⟩)))⟩
      · show upd bX i (rl_en a) j = rl_en (if j = i then a else R j)
        by_cases q : j = i
        · rw [if_pos q, q, pk_us]
        · rw [if_neg q, pk_un q]; exact hb j hj
      · show R0 j ≤ if j = i then a else R j
        by_cases q : j = i
        · rw [if_pos q, q]; exact Nat.le_trans (hle i (by omega)) hra
        · rw [if_neg q]; exact hle j hj
      · show R0 i ≠ if i = i then a else R i
        rw [if_pos rfl]
        have := hle i (by omega)
        omega
theorem an_xab2 {post : Int32 → Prop} (hn : n ≤ 16) (hR : fx_VL n R) (hb : ∀ i, i < n → bX i = rl_en (R i)) (h1 : (∀ j, j < n → ¬ R j = 1000000) → post 1) (h0 : (¬ ∀ j, j < n → ¬ R j = 1000000) → post 0) : ∀ d i, i + d = n → (∀ j, j < i → ¬ R j = 1000000) → wX_areAllBounded_2 post pN pK tC (nI n) sT tM fR pe dl hd tl os ga tx rs cs pr pd nx bX na fl aa co ov mx rm sX lX (d + 1) (nI i) := by
  intro d
  induction d with
  | zero =>
    intro i hi ha
    have e : i = n := by omega
    subst e
    exact br_t (nI_le (by omega) (by omega)) (h1 ha)
  | succ d ih =>
    intro i hi ha
    refine br_f (nI_ge (by omega) (by omega)) ⟨vp_in_nI (by omega) (by omega), ?_⟩
    rw [nI_clamp (by omega), hb i (by omega)]
    have v := hR i (by omega)
    by_cases e : R i = 1000000
    · exact br_t ((an_en v).mpr e) (h0 (fun z => z i (by omega) e))
    · refine br_f (fun z => e ((an_en v).mp z)) (nm_r (nI_1 i) (ih (i + 1) (by omega) (fun j hj => ?_)))
      by_cases q : j = i
      · rw [q]; exact e
      · exact ha j (by omega)
theorem an_x58 {post : Int32 → St2 → Prop} (hn : n ≤ 16) (hR : fx_VL n R) (hb : ∀ i, i < n → bX i = rl_en (R i)) (h1 : (∀ j, j < n → ¬ R j = 1000000) → post 1 (pN, pK, tC, nI n, 1, tM, fR, pe, dl, hd, tl, os, ga, tx, rs, cs, pr, pd, nx, bX, na, fl, aa, co, ov, mx, rm, sX, lX)) (h2 : (¬ ∀ j, j < n → ¬ R j = 1000000) → post 2 (pN, pK, tC, nI n, 2, tM, fR, pe, dl, hd, tl, os, ga, tx, rs, cs, pr, pd, nx, bX, na, fl, aa, co, ov, mx, rm, sX, lX)) : wX_analyse_58 post pN pK tC (nI n) sT tM fR pe dl hd tl os ga tx rs cs pr pd nx bX na fl aa co ov mx rm sX lX := by
  unfold wX_analyse_58
  exact ⟨n + 1, an_xab2 hn hR hb (fun z => br_f sm_1 (h1 z)) (fun z => br_t rfl (h2 z)) n 0 (by omega) (fun j hj => by omega)⟩
theorem an_x37 {post : Int32 → St2 → Prop} (h : an_H n pe dl tx cs pd)
    (hp : ∀ (R : Nat → Nat) (b : Nat → Int32), an_I n pe dl tx rs cs pr pd R → (∀ j, j < n → an_F n pe dl tx rs cs pr pd R j (R j)) → (∀ j, j < n → b j = rl_en (R j)) → ((∀ j, j < n → ¬ R j = 1000000) → post 1 (pN, pK, tC, nI n, 1, tM, fR, pe, dl, hd, tl, os, ga, tx, rs, cs, pr, pd, nx, b, na, fl, aa, co, ov, mx, rm, sX, lX)) ∧ ((¬ ∀ j, j < n → ¬ R j = 1000000) → post 2 (pN, pK, tC, nI n, 2, tM, fR, pe, dl, hd, tl, os, ga, tx, rs, cs, pr, pd, nx, b, na, fl, aa, co, ov, mx, rm, sX, lX))) :
    ∀ (m i : Nat) (R : Nat → Nat) (bX : Nat → Int32), 3217 ≤ fx_mu R n + m → i ≤ fx_mu R n → an_I n pe dl tx rs cs pr pd R → (∀ j, j < n → bX j = rl_en (R j)) → wX_analyse_37 post (m + 1) 1 (nI i) pN pK tC (nI n) sT tM fR pe dl hd tl os ga tx rs cs pr pd nx bX na fl aa co ov mx rm sX lX := by
  have hn := h.1
  intro m
  induction m with
  | zero =>
    intro i R bX hm hi hI hb
    have := an_mu (R := R) hn
    omega
  | succ m ih =>
    intro i R bX hm hi hI hb
    have mb := an_mu (R := R) hn
    refine br_f sm_1 (br_f (nI_ge (a := i) (b := 1000000) (by omega) (by omega)) ?_)
    refine ⟨n + 1, an_xr4 (R0 := R) h (fun R' b' r' hI' hb' hle' hst' => ?_) n 0 R bX 0 (by omega) hI hb (fun j _ => Nat.le_refl _) (Or.inl ⟨rfl, fun j hj => by omega⟩)⟩
    refine nm_r (nI_1 i) ?_
    rcases hst' with ⟨rfl, hF⟩ | ⟨rfl, j, hj, hne⟩
    · obtain ⟨p1, p2⟩ := hp R' b' hI' hF hb'
      exact br_t rfl (an_x58 hn hI'.1 hb' p1 p2)
    · have lt := fx_mu_lt hI.1 hI'.1 n (Nat.le_refl n) hle' j hj hne
      exact ih (i + 1) R' b' (by omega) (by omega) hI' hb'
theorem an_x12 {post : Int32 → St2 → Prop} (hn : n ≤ 16) : ∀ d i, i + d = n → (∃ m, wX_analyse_37 post m 1 0 pN pK tC (nI n) sT tM fR pe dl hd tl os ga tx rs cs pr pd nx (bs_mz bX (fun _ => 0) n) na fl aa co ov mx rm sX lX) → wX_analyse_12 post pN pK tC (nI n) sT tM fR (d + 1) (nI i) pe dl hd tl os ga tx rs cs pr pd nx (bs_mz bX (fun _ => 0) i) na fl aa co ov mx rm sX lX := by
  intro d
  induction d with
  | zero =>
    intro i hi hp
    have e : i = n := by omega
    subst e
    exact br_t (nI_le (by omega) (by omega)) hp
  | succ d ih =>
    intro i hi hp
    exact br_f (nI_ge (by omega) (by omega)) ⟨vp_in_nI (by omega) (by omega), nm_r (rs_sv (by omega)) (nm_r (nI_1 i) (ih (i + 1) (by omega) hp))⟩
theorem an_xana {post : Int32 → St2 → Prop} (h : an_H n pe dl tx cs pd)
    (hp : ∀ (R : Nat → Nat) (b : Nat → Int32), an_I n pe dl tx rs cs pr pd R → (∀ j, j < n → an_F n pe dl tx rs cs pr pd R j (R j)) → (∀ j, j < n → b j = rl_en (R j)) → ((∀ j, j < n → ¬ R j = 1000000) → post 1 (pN, pK, tC, nI n, 1, tM, fR, pe, dl, hd, tl, os, ga, tx, rs, cs, pr, pd, nx, b, na, fl, aa, co, ov, mx, rm, sX, lX)) ∧ ((¬ ∀ j, j < n → ¬ R j = 1000000) → post 2 (pN, pK, tC, nI n, 2, tM, fR, pe, dl, hd, tl, os, ga, tx, rs, cs, pr, pd, nx, b, na, fl, aa, co, ov, mx, rm, sX, lX))) :
    ∃ m, wX_analyse_12 post pN pK tC (nI n) sT tM fR m 0 pe dl hd tl os ga tx rs cs pr pd nx bX na fl aa co ov mx rm sX lX := by
  have hn := h.1
  have z := an_x37 (post := post) (pN := pN) (pK := pK) (tC := tC) (sT := sT) (tM := tM) (fR := fR) (hd := hd) (tl := tl) (os := os) (ga := ga) (nx := nx) (na := na) (fl := fl) (aa := aa) (co := co) (ov := ov) (mx := mx) (rm := rm) (sX := sX) (lX := lX) h hp 3217 0 (fun _ => 0) (bs_mz bX (fun _ => 0) n) (by omega) (by omega) (fx_inv0 (fun _ _ => rfl)) (fun j hj => by rw [bs_mz_lt hj]; rfl)
  have y := an_x12 (post := post) (pN := pN) (pK := pK) (tC := tC) (sT := sT) (tM := tM) (fR := fR) (pe := pe) (dl := dl) (hd := hd) (tl := tl) (os := os) (ga := ga) (tx := tx) (rs := rs) (cs := cs) (pr := pr) (pd := pd) (nx := nx) (bX := bX) (na := na) (fl := fl) (aa := aa) (co := co) (ov := ov) (mx := mx) (rm := rm) (sX := sX) (lX := lX) hn n 0 (by omega) ⟨_, z⟩
  rw [bs_mz0] at y
  exact ⟨_, y⟩
end
end
section
/-! the bound holds: on a trace of ticks that keeps the rules of the simulation no step is ever later than its analysed bound.
    cv t j: what is left of j from before tick t; e t j: 1 if j is released for tick t; d t j: 1 if j works in tick t; al t j: the arrival that j works for -/
def tq_hs (rs pr : Nat → Int32) (s : Nat) (g : Nat → Nat) : Nat → Nat
  | 0 => 0
  | k + 1 => tq_hs rs pr s g k + (if rs k = rs s ∧ pr s < pr k then g k else 0)
def tq_w (g : Nat → Nat) (a : Nat) : Nat → Nat
  | 0 => 0
  | L + 1 => tq_w g a L + g (a + L)
section
variable {rs pr : Nat → Int32} {s : Nat}
theorem tq_hs_add (g h : Nat → Nat) : ∀ k, tq_hs rs pr s (fun j => g j + h j) k = tq_hs rs pr s g k + tq_hs rs pr s h k := by
  intro k
  induction k with
  | zero => rfl
  | succ k ih =>
    simp only [tq_hs]
    by_cases e : rs k = rs s ∧ pr s < pr k
    · rw [if_pos e, if_pos e, if_pos e]; omega
    · rw [if_neg e, if_neg e, if_neg e]; omega
theorem tq_hs_le {g h : Nat → Nat} : ∀ k, (∀ j, j < k → rs j = rs s ∧ pr s < pr j → g j ≤ h j) → tq_hs rs pr s g k ≤ tq_hs rs pr s h k := by
  intro k
  induction k with
  | zero => intro _; exact Nat.le_refl _
  | succ k ih =>
    intro H
    have a := ih (fun j hj => H j (by omega))
    simp only [tq_hs]
    by_cases e : rs k = rs s ∧ pr s < pr k
    · have b := H k (by omega) e
      rw [if_pos e, if_pos e]; omega
    · rw [if_neg e, if_neg e]; omega
theorem tq_hs_ge {g : Nat → Nat} {j : Nat} (hj : rs j = rs s ∧ pr s < pr j) : ∀ k, j < k → g j ≤ tq_hs rs pr s g k := by
  intro k
  induction k with
  | zero => intro h; omega
  | succ k ih =>
    intro h
    simp only [tq_hs]
    by_cases e : j = k
    · subst e
      rw [if_pos hj]; omega
    · have a := ih (by omega)
      omega
theorem tq_hs_0 : ∀ k, tq_hs rs pr s (fun _ => 0) k = 0 := by
  intro k
  induction k with
  | zero => rfl
  | succ k ih =>
    simp only [tq_hs]
    rw [ih]
    by_cases e : rs k = rs s ∧ pr s < pr k
    · rw [if_pos e]
    · rw [if_neg e]
theorem tq_sm (C T J : Nat → Nat) (sp : Nat) : ∀ k, fx_sm rs pr C T J s sp k = tq_hs rs pr s (fun j => (sp + J j + T j - 1) / T j * C j) k := by
  intro k
  induction k with
  | zero => rfl
  | succ k ih => simp only [fx_sm, tq_hs]; rw [ih]
theorem tq_bl_self (C : Nat → Nat) : ∀ k, C s ≤ fx_bl rs pr C s k := by
  intro k
  induction k with
  | zero => exact Nat.le_refl _
  | succ k ih =>
    simp only [fx_bl]
    by_cases e : rs k = rs s ∧ pr k < pr s
    · rw [if_pos e]
      by_cases z : fx_bl rs pr C s k < C k
      · rw [if_pos z]; omega
      · rw [if_neg z]; exact ih
    · rw [if_neg e]; exact ih
theorem tq_bl_lp (C : Nat → Nat) {j : Nat} (hj : rs j = rs s ∧ pr j < pr s) : ∀ k, j < k → C j ≤ fx_bl rs pr C s k := by
  intro k
  induction k with
  | zero => intro h; omega
  | succ k ih =>
    intro h
    simp only [fx_bl]
    by_cases q : j = k
    · subst q
      rw [if_pos hj]
      by_cases z : fx_bl rs pr C s j < C j
      · rw [if_pos z]; exact Nat.le_refl _
      · rw [if_neg z]; omega
    · have a := ih (by omega)
      by_cases e : rs k = rs s ∧ pr k < pr s
      · rw [if_pos e]
        by_cases z : fx_bl rs pr C s k < C k
        · rw [if_pos z]; omega
        · rw [if_neg z]; exact a
      · rw [if_neg e]; exact a
end
/-- the rules of the trace that speak of one step -/
def tq_Tr (n H : Nat) (pd : Nat → Int32) (C T : Nat → Nat) (d e cv al : Nat → Nat → Nat) : Prop :=
  (∀ t j, t < H → j < n → d t j ≤ 1 ∧ e t j ≤ 1) ∧
  (∀ j, j < n → cv 0 j = 0) ∧
  (∀ t j, t < H → j < n → cv (t + 1) j + d t j = cv t j + C j * e t j) ∧
  (∀ t j, t < H → j < n → e t j = 1 → cv t j = 0) ∧
  (∀ t j, t + 1 < H → j < n → 0 < cv (t + 1) j → al (t + 1) j = al t j) ∧
  (∀ t j, t < H → j < n → e t j = 1 → al t j ≤ t ∧ ((pd j = -1 ∧ t ≤ al t j) ∨ (¬ pd j = -1 ∧ (pd j).toNatClampNeg < n ∧ 0 < t ∧ d (t - 1) (pd j).toNatClampNeg = 1 ∧ cv t (pd j).toNatClampNeg = 0 ∧ al (t - 1) (pd j).toNatClampNeg = al t j))) ∧
  (∀ r1 r2 j, r1 < r2 → r2 < H → j < n → e r1 j = 1 → e r2 j = 1 → al r1 j + T j ≤ al r2 j)
def tq_Pr (n H : Nat) (rs pr : Nat → Int32) (C : Nat → Nat) (d e cv : Nat → Nat → Nat) : Prop :=
  ∀ t s, t < H → s < n → ¬ rs s = 8 → 0 < cv t s + C s * e t s → ∃ j, j < n ∧ rs j = rs s ∧ d t j = 1 ∧ (j = s ∨ pr s < pr j)
def tq_Bu (n H : Nat) (rs pr : Nat → Int32) (C : Nat → Nat) (d e cv : Nat → Nat → Nat) : Prop :=
  (∀ t s, t < H → s < n → rs s = 8 → 0 < cv t s + C s * e t s → ∃ j, j < n ∧ rs j = 8 ∧ d t j = 1) ∧
  (∀ t j, t < H → j < n → rs j = 8 → d t j = 1 → (∀ s, s < n → rs s = 8 → 0 < cv t s + C s * e t s → s = j ∨ pr s < pr j) ∨ (0 < t ∧ d (t - 1) j = 1 ∧ 0 < cv t j)) ∧
  (∀ t j, t + 1 < H → j < n → rs j = 8 → d t j = 1 → 0 < cv (t + 1) j → d (t + 1) j = 1)
section
variable {n H : Nat} {rs pr pd : Nat → Int32} {C T D R : Nat → Nat} {d e cv al : Nat → Nat → Nat}
theorem tq_cvC (hT : tq_Tr n H pd C T d e cv al) {j : Nat} (hj : j < n) : ∀ t, t ≤ H → cv t j ≤ C j := by
  obtain ⟨h1, h2, h3, h4, _, _, _⟩ := hT
  intro t
  induction t with
  | zero => intro _; rw [h2 j hj]; omega
  | succ t ih =>
    intro ht
    have a := ih (by omega)
    have b := h3 t j (by omega) hj
    have z := (h1 t j (by omega) hj).2
    by_cases q : e t j = 1
    · have w := h4 t j (by omega) hj q
      rw [q, Nat.mul_one] at b
      omega
    · have q0 : e t j = 0 := by omega
      rw [q0, Nat.mul_zero] at b
      omega
theorem tq_rhoC (hT : tq_Tr n H pd C T d e cv al) {j : Nat} (hj : j < n) {t : Nat} (ht : t < H) : cv t j + C j * e t j ≤ C j := by
  have a := tq_cvC hT hj t (by omega)
  have z := (hT.1 t j ht hj).2
  by_cases q : e t j = 1
  · have w := hT.2.2.2.1 t j ht hj q
    rw [q, Nat.mul_one]; omega
  · have q0 : e t j = 0 := by omega
    rw [q0, Nat.mul_zero]; omega
/-- work done and left over is what was released -/
theorem tq_acc (hT : tq_Tr n H pd C T d e cv al) {j a : Nat} (hj : j < n) : ∀ L, a + L ≤ H → tq_w (fun i => d i j) a L + cv (a + L) j = cv a j + C j * tq_w (fun i => e i j) a L := by
  intro L
  induction L with
  | zero => intro _; simp only [tq_w, Nat.add_zero, Nat.mul_zero, Nat.zero_add]
  | succ L ih =>
    intro h
    have x := ih (by omega)
    have b := hT.2.2.1 (a + L) j (by omega) hj
    simp only [tq_w]
    rw [Nat.mul_add, show a + (L + 1) = a + L + 1 from rfl]
    omega
theorem tq_cnt0 (hT : tq_Tr n H pd C T d e cv al) {J : Nat → Nat} {j a : Nat} (hj : j < n) : ∀ L, a + L ≤ H → (∀ r, r < a + L → e r j = 1 → r ≤ al r j + J j) → tq_w (fun i => e i j) a L = 0 ∨ ∃ r N, r < a + L ∧ e r j = 1 ∧ tq_w (fun i => e i j) a L = N + 1 ∧ a + N * T j ≤ al r j + J j := by
  intro L
  induction L with
  | zero => intro _ _; exact Or.inl rfl
  | succ L ih =>
    intro h hJ
    have x := ih (by omega) (fun r hr => hJ r (by omega))
    have z := (hT.1 (a + L) j (by omega) hj).2
    simp only [tq_w]
    by_cases q : e (a + L) j = 1
    · have y := hJ (a + L) (by omega) q
      rcases x with x | ⟨r, N, h1, h2, h3, h4⟩
      · exact Or.inr ⟨a + L, 0, by omega, q, by rw [x, q], by rw [Nat.zero_mul]; omega⟩
      · have sp := hT.2.2.2.2.2.2 r (a + L) j h1 (by omega) hj h2 q
        refine Or.inr ⟨a + L, N + 1, by omega, q, by rw [h3, q], ?_⟩
        rw [Nat.add_mul, Nat.one_mul]; omega
    · have q0 : e (a + L) j = 0 := by omega
      rcases x with x | ⟨r, N, h1, h2, h3, h4⟩
      · exact Or.inl (by rw [x, q0])
      · exact Or.inr ⟨r, N, by omega, h2, by rw [h3, q0], h4⟩
theorem tq_cnt (hT : tq_Tr n H pd C T d e cv al) {J : Nat → Nat} {j a : Nat} (hj : j < n) (hp : 1 ≤ T j) {L : Nat} (h : a + L ≤ H) (hJ : ∀ r, r < a + L → e r j = 1 → r ≤ al r j + J j) : tq_w (fun i => e i j) a L ≤ (L + J j + T j - 1) / T j := by
  rcases tq_cnt0 hT hj L h hJ with x | ⟨r, N, h1, h2, h3, h4⟩
  · rw [x]; exact Nat.zero_le _
  · have y := (hT.2.2.2.2.2.1 r j (by omega) hj h2).1
    rw [h3, Nat.le_div_iff_mul_le (by omega), Nat.add_mul, Nat.one_mul]
    omega
theorem tq_dem (hT : tq_Tr n H pd C T d e cv al) {J : Nat → Nat} {j a : Nat} (hj : j < n) (hp : 1 ≤ T j) (h0 : cv a j = 0) {L : Nat} (h : a + L ≤ H) (hJ : ∀ r, r < a + L → e r j = 1 → r ≤ al r j + J j) : tq_w (fun i => d i j) a L + cv (a + L) j ≤ (L + J j + T j - 1) / T j * C j := by
  have x := tq_acc hT hj L h
  have y := tq_cnt hT hj hp h hJ
  rw [x, h0, Nat.zero_add, Nat.mul_comm]
  exact Nat.mul_le_mul_right _ y
/-- the release of what is pending at t -/
theorem tq_rel (hT : tq_Tr n H pd C T d e cv al) {s : Nat} (hs : s < n) : ∀ t, t < H → 0 < cv t s + C s * e t s → ∃ r, r ≤ t ∧ e r s = 1 ∧ al r s = al t s ∧ (∀ i, i ≤ t - r → 0 < cv (r + i) s + C s * e (r + i) s ∧ tq_w (fun u => d u s) r i + (cv (r + i) s + C s * e (r + i) s) = C s) := by
  intro t
  induction t with
  | zero =>
    intro ht h
    have z := (hT.1 0 s ht hs).2
    have w := hT.2.1 s hs
    by_cases q : e 0 s = 1
    · refine ⟨0, Nat.le_refl 0, q, rfl, fun i hi => ?_⟩
      have i0 : i = 0 := by omega
      subst i0
      refine ⟨h, ?_⟩
      simp only [tq_w]
      rw [Nat.add_zero, w, q]; omega
    · have q0 : e 0 s = 0 := by omega
      rw [w, q0, Nat.mul_zero] at h
      omega
  | succ t ih =>
    intro ht h
    have z := (hT.1 (t + 1) s ht hs).2
    by_cases q : e (t + 1) s = 1
    · have w := hT.2.2.2.1 (t + 1) s ht hs q
      refine ⟨t + 1, Nat.le_refl _, q, rfl, fun i hi => ?_⟩
      have i0 : i = 0 := by omega
      subst i0
      refine ⟨h, ?_⟩
      simp only [tq_w]
      rw [Nat.add_zero, w, q]; omega
    · have q0 : e (t + 1) s = 0 := by omega
      have hc : 0 < cv (t + 1) s := by rw [q0, Nat.mul_zero] at h; omega
      have b := hT.2.2.1 t s (by omega) hs
      obtain ⟨r, h1, h2, h3, h4⟩ := ih (by omega) (by omega)
      refine ⟨r, by omega, h2, by rw [h3, hT.2.2.2.2.1 t s ht hs hc], fun i hi => ?_⟩
      by_cases k : i ≤ t - r
      · exact h4 i k
      · obtain ⟨m, rfl⟩ : ∃ m, i = m + 1 := ⟨i - 1, by omega⟩
        have hm : r + m = t := by omega
        have y := (h4 m (by omega)).2
        have hm1 : r + (m + 1) = t + 1 := by omega
        rw [hm1]
        refine ⟨h, ?_⟩
        simp only [tq_w]
        rw [hm] at y ⊢
        rw [q0, Nat.mul_zero]
        omega
/-- where the more urgent work began -/
theorem tq_start (hT : tq_Tr n H pd C T d e cv al) (s : Nat) : ∀ r, ∃ t0, t0 ≤ r ∧ (∀ j, j < n → rs j = rs s ∧ pr s < pr j → cv t0 j = 0) ∧ ∀ u, t0 < u → u ≤ r → ∃ j, j < n ∧ (rs j = rs s ∧ pr s < pr j) ∧ 0 < cv u j := by
  intro r
  induction r with
  | zero => exact ⟨0, Nat.le_refl 0, fun j hj _ => hT.2.1 j hj, fun u h1 h2 => by omega⟩
  | succ r ih =>
    by_cases q : ∃ j, j < n ∧ (rs j = rs s ∧ pr s < pr j) ∧ 0 < cv (r + 1) j
    · obtain ⟨t0, h1, h2, h3⟩ := ih
      refine ⟨t0, by omega, h2, fun u hu1 hu2 => ?_⟩
      by_cases k : u = r + 1
      · rw [k]; exact q
      · exact h3 u hu1 (by omega)
    · refine ⟨r + 1, Nat.le_refl _, fun j hj hp => ?_, fun u h1 h2 => by omega⟩
      by_cases z : cv (r + 1) j = 0
      · exact z
      · exact absurd ⟨j, hj, hp, by omega⟩ q
theorem tq_hsw (rs pr : Nat → Int32) (s a n : Nat) (d : Nat → Nat → Nat) (L : Nat) : tq_hs rs pr s (fun j => tq_w (fun i => d i j) a (L + 1)) n = tq_hs rs pr s (fun j => tq_w (fun i => d i j) a L) n + tq_hs rs pr s (d (a + L)) n :=
  tq_hs_add (fun j => tq_w (fun i => d i j) a L) (d (a + L)) n
end
end
section
section
variable {n H : Nat} {rs pr pd : Nat → Int32} {C T D R : Nat → Nat} {d e cv al : Nat → Nat → Nat}
/-- the demand of the more urgent steps in a window that nothing of theirs reaches into -/
theorem tq_hdem (hT : tq_Tr n H pd C T d e cv al) {J : Nat → Nat} {s a L : Nat} (hTp : ∀ j, j < n → 1 ≤ T j) (h0 : ∀ j, j < n → rs j = rs s ∧ pr s < pr j → cv a j = 0) (h : a + L ≤ H) (hJ : ∀ r j, r < a + L → j < n → e r j = 1 → r ≤ al r j + J j) : tq_hs rs pr s (fun j => tq_w (fun i => d i j) a L) n + tq_hs rs pr s (cv (a + L)) n ≤ fx_sm rs pr C T J s L n := by
  rw [tq_sm, ← tq_hs_add]
  exact tq_hs_le n (fun j hj hp => tq_dem hT hj (hTp j hj) (h0 j hj hp) h (fun r hr => hJ r j hr hj))
/-- a processor: in a window that the more urgent work fills up to the release, and the step from there on -/
theorem tq_proc (hT : tq_Tr n H pd C T d e cv al) (hP : tq_Pr n H rs pr C d e cv) {J : Nat → Nat} {s t r t0 : Nat} (hs : s < n) (h8 : ¬ rs s = 8) (ht : t < H) (hTp : ∀ j, j < n → 1 ≤ T j) (hCs : 1 ≤ C s)
    (hJ : ∀ r j, r ≤ t → j < n → e r j = 1 → r ≤ al r j + J j)
    (hr : r ≤ t) (hi : ∀ i, i ≤ t - r → 0 < cv (r + i) s + C s * e (r + i) s ∧ tq_w (fun u => d u s) r i + (cv (r + i) s + C s * e (r + i) s) = C s)
    (ht0 : t0 ≤ r) (h0 : ∀ j, j < n → rs j = rs s ∧ pr s < pr j → cv t0 j = 0) (hb : ∀ u, t0 < u → u ≤ r → ∃ j, j < n ∧ (rs j = rs s ∧ pr s < pr j) ∧ 0 < cv u j) :
    (∀ L, t0 + L ≤ t → L < C s + fx_sm rs pr C T J s L n) ∧ (t - t0) + (cv t s + C s * e t s) ≤ C s + fx_sm rs pr C T J s (t - t0) n := by
  have dem : ∀ L, t0 + L ≤ t → tq_hs rs pr s (fun j => tq_w (fun i => d i j) t0 L) n + tq_hs rs pr s (cv (t0 + L)) n ≤ fx_sm rs pr C T J s L n :=
    fun L hL => tq_hdem hT hTp h0 (by omega) (fun q j hq => hJ q j (by omega))
  -- up to the release
  have early : ∀ L, t0 + L ≤ r → L ≤ tq_hs rs pr s (fun j => tq_w (fun i => d i j) t0 L) n := by
    intro L
    induction L with
    | zero => intro _; omega
    | succ L ih =>
      intro hL
      have x := ih (by omega)
      rw [tq_hsw]
      obtain ⟨j, hj, hp, hc⟩ := hb (t0 + L + 1) (by omega) (by omega)
      have b := hT.2.2.1 (t0 + L) j (by omega) hj
      have h8j : ¬ rs j = 8 := by rw [hp.1]; exact h8
      obtain ⟨k, hk, e1, e2, e3⟩ := hP (t0 + L) j (by omega) hj h8j (by omega)
      have hpk : rs k = rs s ∧ pr s < pr k := by
        rcases e3 with z | z
        · rw [z]; exact hp
        · exact ⟨by rw [e1, hp.1], Int32.lt_trans hp.2 z⟩
      have y := tq_hs_ge (g := d (t0 + L)) hpk n hk
      omega
  -- from the release on
  have late : ∀ i, i ≤ t - r → (r - t0) + i ≤ tq_hs rs pr s (fun j => tq_w (fun u => d u j) t0 ((r - t0) + i)) n + tq_w (fun u => d u s) r i := by
    intro i
    induction i with
    | zero =>
      intro _
      have x := early (r - t0) (by omega)
      simp only [tq_w, Nat.add_zero]
      exact x
    | succ i ih =>
      intro hL
      have x := ih (by omega)
      have y := (hi i (by omega)).1
      rw [show (r - t0) + (i + 1) = (r - t0) + i + 1 from rfl, tq_hsw, show t0 + ((r - t0) + i) = r + i from by omega]
      simp only [tq_w]
      obtain ⟨k, hk, e1, e2, e3⟩ := hP (r + i) s (by omega) hs h8 y
      rcases e3 with z | z
      · subst z
        omega
      · have w := tq_hs_ge (g := d (r + i)) (⟨e1, z⟩ : rs k = rs s ∧ pr s < pr k) n hk
        omega
  have full : ∀ i, i ≤ t - r → (r - t0) + i + (cv (r + i) s + C s * e (r + i) s) ≤ C s + fx_sm rs pr C T J s ((r - t0) + i) n := by
    intro i hi'
    have x := late i hi'
    have y := (hi i hi').2
    have z := dem ((r - t0) + i) (by omega)
    omega
  refine ⟨fun L hL => ?_, ?_⟩
  · by_cases q : t0 + L ≤ r
    · by_cases z : L = 0
      · subst z; omega
      · have x := early L q
        have y := dem L hL
        obtain ⟨j, hj, hp, hc⟩ := hb (t0 + L) (by omega) q
        have w := tq_hs_ge (g := cv (t0 + L)) hp n hj
        omega
    · have x := full (t0 + L - r) (by omega)
      have y := (hi (t0 + L - r) (by omega)).1
      rw [show (r - t0) + (t0 + L - r) = L from by omega] at x
      omega
  · have x := full (t - r) (Nat.le_refl _)
    rw [show r + (t - r) = t from by omega, show (r - t0) + (t - r) = t - t0 from by omega] at x
    exact x
/-- the bus: a frame that isn't more urgent than s, at work in a window where s or something more urgent waits, has been at work since before the window -/
theorem tq_cont (hT : tq_Tr n H pd C T d e cv al) (hB : tq_Bu n H rs pr C d e cv) {s t0 M j : Nat} (hs : s < n) (h8 : rs s = 8) (hM : t0 + M < H) (hj : j < n) (hj8 : rs j = 8) (hnp : ¬ (rs j = rs s ∧ pr s < pr j))
    (hw : ∀ i, i ≤ M → (∃ k, k < n ∧ (rs k = rs s ∧ pr s < pr k) ∧ 0 < cv (t0 + i) k + C k * e (t0 + i) k) ∨ (0 < cv (t0 + i) s + C s * e (t0 + i) s ∧ d (t0 + i) s = 0)) :
    ∀ i, i ≤ M → d (t0 + i) j = 1 → i + 1 + cv (t0 + i + 1) j = cv t0 j ∧ 0 < t0 ∧ d (t0 - 1) j = 1 := by
  have go : ∀ i, i ≤ M → d (t0 + i) j = 1 → 0 < t0 + i ∧ d (t0 + i - 1) j = 1 ∧ 0 < cv (t0 + i) j ∧ 1 + cv (t0 + i + 1) j = cv (t0 + i) j := by
    intro i hi hd
    rcases hB.2.1 (t0 + i) j (by omega) hj hj8 hd with x | ⟨x1, x2, x3⟩
    · exfalso
      rcases hw i hi with ⟨k, hk, hp, hc⟩ | ⟨hc, h0⟩
      · rcases x k hk (by rw [hp.1]; exact h8) hc with z | z
        · rw [z] at hp; exact hnp hp
        · exact hnp ⟨by rw [hj8, h8], Int32.lt_trans hp.2 z⟩
      · rcases x s hs h8 hc with z | z
        · rw [z] at h0; omega
        · exact hnp ⟨by rw [hj8, h8], z⟩
    · have z := (hT.1 (t0 + i) j (by omega) hj).2
      have q0 : e (t0 + i) j = 0 := by
        by_cases q : e (t0 + i) j = 1
        · have := hT.2.2.2.1 (t0 + i) j (by omega) hj q
          omega
        · omega
      have b := hT.2.2.1 (t0 + i) j (by omega) hj
      rw [q0, Nat.mul_zero, hd] at b
      exact ⟨x1, x2, x3, by omega⟩
  intro i
  induction i with
  | zero =>
    intro hi hd
    have x := go 0 hi hd
    simp only [Nat.add_zero] at x ⊢
    exact ⟨by omega, x.1, x.2.1⟩
  | succ i ih =>
    intro hi hd
    have x := go (i + 1) hi hd
    have y : d (t0 + i) j = 1 := x.2.1
    obtain ⟨a, b, c⟩ := ih (by omega) y
    refine ⟨?_, b, c⟩
    have w := x.2.2.2
    rw [show t0 + (i + 1) = t0 + i + 1 from rfl] at w ⊢
    omega
theorem tq_bus (hT : tq_Tr n H pd C T d e cv al) (hB : tq_Bu n H rs pr C d e cv) (hu : ∀ i j, i < n → j < n → rs i = rs j → pr i = pr j → i = j) {J : Nat → Nat} {s t0 M : Nat} (hs : s < n) (h8 : rs s = 8) (hM : t0 + M < H) (hTp : ∀ j, j < n → 1 ≤ T j) (hCs : 1 ≤ C s)
    (hJ : ∀ r j, r ≤ t0 + M → j < n → e r j = 1 → r ≤ al r j + J j)
    (h0 : ∀ j, j < n → rs j = rs s ∧ pr s < pr j → cv t0 j = 0)
    (hw : ∀ i, i ≤ M → (∃ k, k < n ∧ (rs k = rs s ∧ pr s < pr k) ∧ 0 < cv (t0 + i) k + C k * e (t0 + i) k) ∨ (0 < cv (t0 + i) s + C s * e (t0 + i) s ∧ d (t0 + i) s = 0)) :
    M < fx_bl rs pr C s n + fx_sm rs pr C T J s (M + 1) n := by
  have hB1 : 1 ≤ fx_bl rs pr C s n := Nat.le_trans hCs (tq_bl_self C n)
  have fill : ∀ i, i ≤ M + 1 → i + 1 ≤ fx_bl rs pr C s n + tq_hs rs pr s (fun j => tq_w (fun u => d u j) t0 i) n := by
    intro i
    induction i with
    | zero => intro _; omega
    | succ i ih =>
      intro hi
      have x := ih (by omega)
      rw [tq_hsw]
      have busy : ∃ j, j < n ∧ rs j = 8 ∧ d (t0 + i) j = 1 := by
        rcases hw i (by omega) with ⟨k, hk, hp, hc⟩ | ⟨hc, _⟩
        · exact hB.1 (t0 + i) k (by omega) hk (by rw [hp.1]; exact h8) hc
        · exact hB.1 (t0 + i) s (by omega) hs h8 hc
      obtain ⟨j, hj, hj8, hd⟩ := busy
      by_cases hp : rs j = rs s ∧ pr s < pr j
      · have y := tq_hs_ge (g := d (t0 + i)) hp n hj
        omega
      · obtain ⟨a, b, c⟩ := tq_cont hT hB hs h8 hM hj hj8 hp hw i (by omega) hd
        have q := hT.2.2.1 (t0 - 1) j (by omega) hj
        have w := tq_rhoC hT hj (t := t0 - 1) (by omega)
        rw [show t0 - 1 + 1 = t0 from by omega, c] at q
        have hCj : C j ≤ fx_bl rs pr C s n := by
          by_cases z : pr j = pr s
          · have := hu j s hj hs (by rw [hj8, h8]) z
            rw [this]; exact tq_bl_self C n
          · have lt : pr j < pr s := by
              have nl : ¬ pr s < pr j := fun w => hp ⟨by rw [hj8, h8], w⟩
              exact Int32.lt_of_le_of_ne (Int32.not_lt.mp nl) z
            exact tq_bl_lp C ⟨by rw [hj8, h8], lt⟩ n hj
        omega
  have x := fill (M + 1) (Nat.le_refl _)
  have y := tq_hdem (L := M + 1) (a := t0) hT hTp h0 (by omega) (fun q j hq => hJ q j (by omega))
  omega
/-- no step is later than its bound -/
theorem tq_main (hc : fx_Cf n pd D) (hT : tq_Tr n H pd C T d e cv al) (hP : tq_Pr n H rs pr C d e cv) (hB : tq_Bu n H rs pr C d e cv) (hu : ∀ i j, i < n → j < n → rs i = rs j → pr i = pr j → i = j) (hC : ∀ j, j < n → 1 ≤ C j) (hTp : ∀ j, j < n → 1 ≤ T j) (hR : ∀ s, s < n → R s ≤ 200) (hF : ∀ s, s < n → fx_Fr n rs pr pd C T D R s (R s)) :
    ∀ t, t < H → ∀ s, s < n → 0 < cv t s + C s * e t s → t + (cv t s + C s * e t s) ≤ al t s + R s := by
  intro t
  induction t using Nat.strongRecOn with
  | _ t ih =>
    intro ht s hs hpos
    have hJ : ∀ r j, r ≤ t → j < n → e r j = 1 → r ≤ al r j + fx_J pd R j := by
      intro r j hr hj he
      obtain ⟨_, x⟩ := hT.2.2.2.2.2.1 r j (by omega) hj he
      unfold fx_J
      rcases x with ⟨x1, x2⟩ | ⟨x1, x2, x3, x4, x5, x6⟩
      · rw [if_pos x1]; omega
      · rw [if_neg x1]
        have b := hT.2.2.1 (r - 1) _ (by omega) x2
        rw [show r - 1 + 1 = r from by omega, x4, x5] at b
        have y := ih (r - 1) (by omega) (by omega) _ x2 (by omega)
        omega
    obtain ⟨r, hr, he, hal, hi⟩ := tq_rel hT hs t ht hpos
    obtain ⟨t0, ht0, h0, hb⟩ := tq_start (rs := rs) (pr := pr) hT s r
    have hjr := hJ r s hr hs he
    rw [hal] at hjr
    have hRs := hR s hs
    obtain ⟨w, ew, lw, hw, er⟩ : ∃ w, fx_f n rs pr pd C T R s w = w ∧ (∀ u, u < w → fx_f n rs pr pd C T R s u ≠ u) ∧ fx_out rs pd C R s + w ≤ D s ∧ R s = fx_out rs pd C R s + w := by
      rcases hF s hs with ⟨_, q⟩ | ⟨_, q | ⟨_, q⟩⟩
      · omega
      · exact q
      · omega
    by_cases h8 : rs s = 8
    · -- the bus
      have ef : ∀ u, fx_f n rs pr pd C T R s u = fx_bl rs pr C s n + fx_sm rs pr C T (fx_J pd R) s (u + 1) n := by
        intro u
        unfold fx_f fx_base fx_lead
        rw [if_pos h8, if_pos h8]
      have eo : fx_out rs pd C R s = fx_J pd R s + C s := by unfold fx_out; rw [if_pos h8]
      -- until it is the frame
      have wait : ∀ u, r ≤ u → u ≤ t → (∀ v, r ≤ v → v ≤ u → d v s = 0) → u < t0 + w := by
        intro u h1 h2 h3
        have lt : ∀ M, M ≤ u - t0 → M < fx_f n rs pr pd C T R s M := by
          intro M hM
          rw [ef]
          refine tq_bus hT hB hu hs h8 (t0 := t0) (M := M) (by omega) hTp (hC s hs) (fun q j hq => hJ q j (by omega)) h0 (fun i hiM => ?_)
          by_cases q : t0 + i < r
          · obtain ⟨j, hj, hp, hcv⟩ := hb (t0 + i + 1) (by omega) (by omega)
            have b := hT.2.2.1 (t0 + i) j (by omega) hj
            exact Or.inl ⟨j, hj, hp, by omega⟩
          · have x := (hi (t0 + i - r) (by omega)).1
            rw [show r + (t0 + i - r) = t0 + i from by omega] at x
            exact Or.inr ⟨x, h3 (t0 + i) (by omega) (by omega)⟩
        by_cases q : u < t0 + w
        · exact q
        · have := lt w (by omega)
          omega
      by_cases q : ∃ v, r ≤ v ∧ v < t ∧ d v s = 1
      · -- it has begun: take the first tick of its work
        have first : ∃ v, (r ≤ v ∧ v < t ∧ d v s = 1) ∧ ∀ u, u < v → ¬ (r ≤ u ∧ u < t ∧ d u s = 1) := by
          obtain ⟨v, hv⟩ := q
          induction v using Nat.strongRecOn with
          | _ v ihv =>
            by_cases z : ∃ u, u < v ∧ (r ≤ u ∧ u < t ∧ d u s = 1)
            · obtain ⟨u, hu1, hu2⟩ := z
              exact ihv u hu1 hu2
            · exact ⟨v, hv, fun u hu1 hu2 => z ⟨u, hu1, hu2⟩⟩
        obtain ⟨v, ⟨hv1, hv2, hv3⟩, hvf⟩ := first
        have hv0 : ∀ u, r ≤ u → u < v → d u s = 0 := by
          intro u h1 h2
          have x := (hT.1 u s (by omega) hs).1
          have y := hvf u h2
          by_cases z : d u s = 1
          · exact absurd ⟨h1, by omega, z⟩ y
          · omega
        have hvw : v ≤ t0 + w ∨ v = r := by
          by_cases z : v = r
          · exact Or.inr z
          · have := wait (v - 1) (by omega) (by omega) (fun u h1 h2 => hv0 u h1 (by omega))
            exact Or.inl (by omega)
        -- no work before v
        have w0 : ∀ i, r + i ≤ v → tq_w (fun u => d u s) r i = 0 := by
          intro i
          induction i with
          | zero => intro _; rfl
          | succ i ihi =>
            intro hi'
            simp only [tq_w]
            rw [ihi (by omega), hv0 (r + i) (by omega) (by omega)]
        -- from v on it works in every tick
        have all : ∀ i, v + i < t → d (v + i) s = 1 := by
          intro i
          induction i with
          | zero => intro _; exact hv3
          | succ i ihi =>
            intro hi'
            have a := ihi (by omega)
            refine hB.2.2 (v + i) s (by omega) hs h8 a ?_
            have x := (hi (v + i + 1 - r) (by omega)).1
            rw [show r + (v + i + 1 - r) = v + i + 1 from by omega] at x
            have z := (hT.1 (v + i + 1) s (by omega) hs).2
            by_cases k : e (v + i + 1) s = 1
            · exfalso
              have y := (hi (v + i + 1 - r) (by omega)).2
              rw [show r + (v + i + 1 - r) = v + i + 1 from by omega, k, hT.2.2.2.1 (v + i + 1) s (by omega) hs k] at y
              have ge : ∀ m, v < r + m → 1 ≤ tq_w (fun u => d u s) r m := by
                intro m
                induction m with
                | zero => intro hm; omega
                | succ m ihm =>
                  intro hm
                  simp only [tq_w]
                  by_cases o : v < r + m
                  · have := ihm o
                    omega
                  · have : r + m = v := by omega
                    rw [this, hv3]; omega
              have := ge (v + i + 1 - r) (by omega)
              omega
            · have k0 : e (v + i + 1) s = 0 := by omega
              rw [k0, Nat.mul_zero] at x
              omega
        have ws : ∀ m, v + m ≤ t → tq_w (fun u => d u s) r (v - r + m) = m := by
          intro m
          induction m with
          | zero => intro _; rw [Nat.add_zero]; exact w0 (v - r) (by omega)
          | succ m ihm =>
            intro hm
            rw [show v - r + (m + 1) = v - r + m + 1 from rfl]
            simp only [tq_w]
            rw [ihm (by omega), show r + (v - r + m) = v + m from by omega, all m (by omega)]
        have x := (hi (t - r) (Nat.le_refl _)).2
        rw [show r + (t - r) = t from by omega] at x
        have y := ws (t - v) (by omega)
        rw [show v - r + (t - v) = t - r from by omega] at y
        omega
      · have hn : ∀ v, r ≤ v → v < t → d v s = 0 := by
          intro v h1 h2
          have x := (hT.1 v s (by omega) hs).1
          by_cases z : d v s = 1
          · exact absurd ⟨v, h1, h2, z⟩ q
          · omega
        have ub := tq_rhoC hT hs ht
        have htw : t ≤ t0 + w ∨ t = r := by
          by_cases z : t = r
          · exact Or.inr z
          · have := wait (t - 1) (by omega) (by omega) (fun u h1 h2 => hn u h1 (by omega))
            exact Or.inl (by omega)
        omega
    · -- a processor
      have ef : ∀ u, fx_f n rs pr pd C T R s u = C s + fx_sm rs pr C T (fx_J pd R) s u n := by
        intro u
        unfold fx_f fx_base fx_lead
        rw [if_neg h8, if_neg h8]
        rfl
      have eo : fx_out rs pd C R s = fx_J pd R s := by unfold fx_out; rw [if_neg h8]; rfl
      obtain ⟨p1, p2⟩ := tq_proc hT hP hs h8 ht hTp (hC s hs) hJ hr hi ht0 h0 hb
      have lt : t - t0 < w := by
        by_cases q : t - t0 < w
        · exact q
        · have x := p1 w (by omega)
          rw [← ef, ew] at x
          omega
      have mono := fx_f_le (rs := rs) (pr := pr) (C := C) (T := T) hc (fun t _ => Nat.le_refl (R t)) (s := s) (a := t - t0) (b := w) (by omega)
      rw [ew, ef] at mono
      omega
end
end
section
/-! a trace of ticks: the simulation's rules, element by element, and what they give
    na, fl, aa, rm, fr: next arrival, in flight, arrived at, remaining, frame AHEAD of tick t; d t s: 1 if s works in tick t -/
section
variable (n c H : Nat) (tx : Nat → Nat) (rs pr pd nx : Nat → Int32) (C T G : Nat → Nat) (na fl aa rm d : Nat → Nat → Nat) (fr : Nat → Int32)
def tk_rho (t s : Nat) : Nat := if (na t (tx s) = t ∧ fl t (tx s) = 0) ∧ pd s = -1 then C s else rm t s
def tk_al (t s : Nat) : Nat := if na t (tx s) = t ∧ fl t (tx s) = 0 then t else aa t (tx s)
def tk_cp (t s : Nat) : Prop := d t s = 1 ∧ tk_rho tx pd C na fl rm t s = 1
def tk_rl (t s : Nat) : Prop := ¬ pd s = -1 ∧ tk_cp tx pd C na fl rm d t (pd s).toNatClampNeg
/-- the chains -/
def tk_Cf : Prop :=
  n ≤ 16 ∧
  (∀ s, s < n → tx s < c) ∧
  (∀ s, s < n → 1 ≤ C s) ∧
  (∀ s q, s < n → q < n → tx s = tx q → pd s = -1 → pd q = -1 → s = q) ∧
  (∀ x, x < c → ∃ s, s < n ∧ tx s = x ∧ pd s = -1) ∧
  (∀ s, s < n → ¬ pd s = -1 → (pd s).toNatClampNeg < s ∧ tx (pd s).toNatClampNeg = tx s ∧ nx (pd s).toNatClampNeg = nI s) ∧
  (∀ s, s < n → ¬ nx s = -1 → (nx s).toNatClampNeg < n ∧ tx (nx s).toNatClampNeg = tx s ∧ pd (nx s).toNatClampNeg = nI s)
def tk_Run : Prop :=
  ((∀ x, x < c → fl 0 x = 0) ∧ (∀ s, s < n → rm 0 s = 0) ∧ fr 0 = -1) ∧
  (∀ t x, t < H → x < c → na (t + 1) x = if na t x = t then t + T x + G x else na t x) ∧
  (∀ t x, t < H → x < c → aa (t + 1) x = if na t x = t ∧ fl t x = 0 then t else aa t x) ∧
  (∀ t s, t < H → s < n → (tk_rl tx pd C na fl rm d t s → rm (t + 1) s = C s) ∧ (¬ tk_rl tx pd C na fl rm d t s → rm (t + 1) s = tk_rho tx pd C na fl rm t s - d t s)) ∧
  (∀ t x, t < H → x < c → ((∃ s, s < n ∧ tx s = x ∧ nx s = -1 ∧ tk_cp tx pd C na fl rm d t s) → fl (t + 1) x = 0) ∧ ((¬ ∃ s, s < n ∧ tx s = x ∧ nx s = -1 ∧ tk_cp tx pd C na fl rm d t s) → fl (t + 1) x = if na t x = t ∧ fl t x = 0 then 1 else fl t x)) ∧
  (∀ t s, t < H → s < n → d t s ≤ 1 ∧ d t s ≤ tk_rho tx pd C na fl rm t s) ∧
  (∀ t s, t < H → s < n → ¬ rs s = 8 → 0 < tk_rho tx pd C na fl rm t s → ∃ j, j < n ∧ rs j = rs s ∧ d t j = 1 ∧ (j = s ∨ pr s < pr j)) ∧
  (∀ t s, t < H → s < n → rs s = 8 → 0 < tk_rho tx pd C na fl rm t s → ∃ j, j < n ∧ rs j = 8 ∧ d t j = 1) ∧
  (∀ t j, t < H → j < n → rs j = 8 → d t j = 1 → (fr t = -1 ∧ ∀ s, s < n → rs s = 8 → 0 < tk_rho tx pd C na fl rm t s → s = j ∨ pr s < pr j) ∨ fr t = nI j) ∧
  (∀ t j, t < H → j < n → fr t = nI j → d t j = 1) ∧
  (∀ t j, t < H → j < n → rs j = 8 → d t j = 1 → 1 < tk_rho tx pd C na fl rm t j → fr (t + 1) = nI j) ∧
  (∀ t j, t < H → j < n → fr (t + 1) = nI j → d t j = 1 ∧ 1 < tk_rho tx pd C na fl rm t j)
/-- the same of one tick alone: what stands ahead of it, who works, what stands behind it -/
def tk_ro (t : Nat) (na fl rm : Nat → Nat) (s : Nat) : Nat := if (na (tx s) = t ∧ fl (tx s) = 0) ∧ pd s = -1 then C s else rm s
def tk_St (t : Nat) (na fl aa rm d : Nat → Nat) (fr : Int32) (na' fl' aa' rm' : Nat → Nat) (fr' : Int32) : Prop :=
  (∀ x, x < c → na' x = if na x = t then t + T x + G x else na x) ∧
  (∀ x, x < c → aa' x = if na x = t ∧ fl x = 0 then t else aa x) ∧
  (∀ s, s < n → ((¬ pd s = -1 ∧ d (pd s).toNatClampNeg = 1 ∧ tk_ro tx pd C t na fl rm (pd s).toNatClampNeg = 1) → rm' s = C s) ∧ (¬ (¬ pd s = -1 ∧ d (pd s).toNatClampNeg = 1 ∧ tk_ro tx pd C t na fl rm (pd s).toNatClampNeg = 1) → rm' s = tk_ro tx pd C t na fl rm s - d s)) ∧
  (∀ x, x < c → ((∃ s, s < n ∧ tx s = x ∧ nx s = -1 ∧ d s = 1 ∧ tk_ro tx pd C t na fl rm s = 1) → fl' x = 0) ∧ ((¬ ∃ s, s < n ∧ tx s = x ∧ nx s = -1 ∧ d s = 1 ∧ tk_ro tx pd C t na fl rm s = 1) → fl' x = if na x = t ∧ fl x = 0 then 1 else fl x)) ∧
  (∀ s, s < n → d s ≤ 1 ∧ d s ≤ tk_ro tx pd C t na fl rm s) ∧
  (∀ s, s < n → ¬ rs s = 8 → 0 < tk_ro tx pd C t na fl rm s → ∃ j, j < n ∧ rs j = rs s ∧ d j = 1 ∧ (j = s ∨ pr s < pr j)) ∧
  (∀ s, s < n → rs s = 8 → 0 < tk_ro tx pd C t na fl rm s → ∃ j, j < n ∧ rs j = 8 ∧ d j = 1) ∧
  (∀ j, j < n → rs j = 8 → d j = 1 → (fr = -1 ∧ ∀ s, s < n → rs s = 8 → 0 < tk_ro tx pd C t na fl rm s → s = j ∨ pr s < pr j) ∨ fr = nI j) ∧
  (∀ j, j < n → fr = nI j → d j = 1) ∧
  (∀ j, j < n → rs j = 8 → d j = 1 → 1 < tk_ro tx pd C t na fl rm j → fr' = nI j) ∧
  (∀ j, j < n → fr' = nI j → d j = 1 ∧ 1 < tk_ro tx pd C t na fl rm j)
def tk_Rn : Prop :=
  ((∀ x, x < c → fl 0 x = 0) ∧ (∀ s, s < n → rm 0 s = 0) ∧ fr 0 = -1) ∧ ∀ t, t < H → tk_St n c tx rs pr pd nx C T G t (na t) (fl t) (aa t) (rm t) (d t) (fr t) (na (t + 1)) (fl (t + 1)) (aa (t + 1)) (rm (t + 1)) (fr (t + 1))
def tk_K (t : Nat) : Prop :=
  (∀ x, x < c → fl t x ≤ 1) ∧
  (∀ s, s < n → 0 < rm t s → fl t (tx s) = 1) ∧
  (∀ s q, s < n → q < n → tx s = tx q → 0 < rm t s → 0 < rm t q → s = q) ∧
  (∀ s, s < n → rm t s ≤ C s) ∧
  (∀ x, x < c → fl t x = 1 → ∃ s, s < n ∧ tx s = x ∧ 0 < rm t s) ∧
  (∀ x, x < c → fl t x = 1 → aa t x < t ∧ aa t x + T x ≤ na t x)
/-- the same within a tick, behind the arrivals -/
def tk_M (t : Nat) : Prop :=
  (∀ s, s < n → 0 < tk_rho tx pd C na fl rm t s → (na t (tx s) = t ∧ fl t (tx s) = 0) ∨ fl t (tx s) = 1) ∧
  (∀ s q, s < n → q < n → tx s = tx q → 0 < tk_rho tx pd C na fl rm t s → 0 < tk_rho tx pd C na fl rm t q → s = q) ∧
  (∀ s, s < n → tk_rho tx pd C na fl rm t s ≤ C s) ∧
  (∀ x, x < c → ((na t x = t ∧ fl t x = 0) ∨ fl t x = 1) → ∃ s, s < n ∧ tx s = x ∧ 0 < tk_rho tx pd C na fl rm t s)
/-- what is left of s from before tick t -/
def tk_cv (t s : Nat) : Nat := match t with
  | 0 => 0
  | u + 1 => tk_rho tx pd C na fl rm u s - d u s
/-- s is released for tick t -/
def tk_rel (t s : Nat) : Prop := ((na t (tx s) = t ∧ fl t (tx s) = 0) ∧ pd s = -1) ∨ match t with
  | 0 => False
  | u + 1 => tk_rl tx pd C na fl rm d u s
noncomputable def tk_e (t s : Nat) : Nat := @ite _ (tk_rel tx pd C na fl rm d t s) (Classical.propDecidable _) 1 0
end
section
variable {n c H : Nat} {tx : Nat → Nat} {rs pr pd nx : Nat → Int32} {C T G : Nat → Nat} {na fl aa rm d : Nat → Nat → Nat} {fr : Nat → Int32}
theorem tk_of (h : tk_Rn n c H tx rs pr pd nx C T G na fl aa rm d fr) : tk_Run n c H tx rs pr pd nx C T G na fl aa rm d fr :=
  ⟨h.1, fun t x ht hx => (h.2 t ht).1 x hx, fun t x ht hx => (h.2 t ht).2.1 x hx, fun t s ht hs => (h.2 t ht).2.2.1 s hs, fun t x ht hx => (h.2 t ht).2.2.2.1 x hx, fun t s ht hs => (h.2 t ht).2.2.2.2.1 s hs, fun t s ht hs => (h.2 t ht).2.2.2.2.2.1 s hs, fun t s ht hs => (h.2 t ht).2.2.2.2.2.2.1 s hs, fun t j ht hj => (h.2 t ht).2.2.2.2.2.2.2.1 j hj, fun t j ht hj => (h.2 t ht).2.2.2.2.2.2.2.2.1 j hj, fun t j ht hj => (h.2 t ht).2.2.2.2.2.2.2.2.2.1 j hj, fun t j ht hj => (h.2 t ht).2.2.2.2.2.2.2.2.2.2 j hj⟩
/-- one tick more -/
def tk_ad {α : Type} (k : Nat) (f : Nat → α) (v : α) : Nat → α := fun t => if t = k then v else f t
theorem tk_ad_s {α : Type} {k : Nat} {f : Nat → α} {v : α} : tk_ad k f v k = v := if_pos rfl
theorem tk_ad_n {α : Type} {k t : Nat} {f : Nat → α} {v : α} (h : t ≠ k) : tk_ad k f v t = f t := if_neg h
theorem tk_ext (h : tk_Rn n c H tx rs pr pd nx C T G na fl aa rm d fr) {dd na' fl' aa' rm' : Nat → Nat} {fr' : Int32} (hs : tk_St n c tx rs pr pd nx C T G H (na H) (fl H) (aa H) (rm H) dd (fr H) na' fl' aa' rm' fr') :
    tk_Rn n c (H + 1) tx rs pr pd nx C T G (tk_ad (H + 1) na na') (tk_ad (H + 1) fl fl') (tk_ad (H + 1) aa aa') (tk_ad (H + 1) rm rm') (tk_ad H d dd) (tk_ad (H + 1) fr fr') := by
  refine ⟨?_, fun t ht => ?_⟩
  · rw [tk_ad_n (by omega), tk_ad_n (by omega), tk_ad_n (by omega)]
    exact h.1
  · by_cases e : t = H
    · subst e
      rw [tk_ad_n (by omega), tk_ad_n (by omega), tk_ad_n (by omega), tk_ad_n (by omega), tk_ad_s, tk_ad_n (by omega), tk_ad_s, tk_ad_s, tk_ad_s, tk_ad_s, tk_ad_s]
      exact hs
    · rw [tk_ad_n (by omega), tk_ad_n (by omega), tk_ad_n (by omega), tk_ad_n (by omega), tk_ad_n (by omega), tk_ad_n (by omega), tk_ad_n (by omega), tk_ad_n (by omega), tk_ad_n (by omega), tk_ad_n (by omega), tk_ad_n (by omega)]
      exact h.2 t (by omega)
theorem tk_KM (hf : tk_Cf n c tx pd nx C) {t : Nat} (K : tk_K n c tx C T na fl aa rm t) : tk_M n c tx pd C na fl rm t := by
  obtain ⟨_, f1, f2, f3, f4, _, _⟩ := hf
  obtain ⟨k0, k1, k2, k3, k4, _⟩ := K
  have cs : ∀ s, s < n → 0 < tk_rho tx pd C na fl rm t s → ((na t (tx s) = t ∧ fl t (tx s) = 0) ∧ pd s = -1) ∨ (0 < rm t s ∧ fl t (tx s) = 1) := by
    intro s hs h
    unfold tk_rho at h
    by_cases q : (na t (tx s) = t ∧ fl t (tx s) = 0) ∧ pd s = -1
    · exact Or.inl q
    · rw [if_neg q] at h
      exact Or.inr ⟨h, k1 s hs h⟩
  refine ⟨fun s hs h => ?_, fun s q hs hq e h1 h2 => ?_, fun s hs => ?_, fun x hx h => ?_⟩
  · rcases cs s hs h with z | z
    · exact Or.inl z.1
    · exact Or.inr z.2
  · rcases cs s hs h1 with z | z
    · rcases cs q hq h2 with w | w
      · exact f3 s q hs hq e z.2 w.2
      · rw [← e] at w
        have := z.1.2
        omega
    · rcases cs q hq h2 with w | w
      · rw [← e] at w
        have := w.1.2
        omega
      · exact k2 s q hs hq e z.1 w.1
  · unfold tk_rho
    by_cases q : (na t (tx s) = t ∧ fl t (tx s) = 0) ∧ pd s = -1
    · rw [if_pos q]; exact Nat.le_refl _
    · rw [if_neg q]; exact k3 s hs
  · rcases h with h | h
    · obtain ⟨s, hs, e, hp⟩ := f4 x hx
      refine ⟨s, hs, e, ?_⟩
      unfold tk_rho
      rw [if_pos ⟨by rw [e]; exact h, hp⟩]
      exact f2 s hs
    · obtain ⟨s, hs, e, hp⟩ := k4 x hx h
      refine ⟨s, hs, e, ?_⟩
      unfold tk_rho
      rw [if_neg (fun z => by rw [e] at z; have := z.1.2; omega)]
      exact hp
theorem tk_K0 (hr : tk_Run n c H tx rs pr pd nx C T G na fl aa rm d fr) : tk_K n c tx C T na fl aa rm 0 := by
  obtain ⟨⟨r1, r2, _⟩, _⟩ := hr
  refine ⟨fun x hx => by rw [r1 x hx]; omega, fun s hs h => by rw [r2 s hs] at h; omega, fun s q hs hq e h => by rw [r2 s hs] at h; omega, fun s hs => by rw [r2 s hs]; omega, fun x hx h => by rw [r1 x hx] at h; omega, fun x hx h => by rw [r1 x hx] at h; omega⟩
theorem tk_Ks (hf : tk_Cf n c tx pd nx C) (hr : tk_Run n c H tx rs pr pd nx C T G na fl aa rm d fr) {t : Nat} (ht : t < H) (K : tk_K n c tx C T na fl aa rm t) : tk_K n c tx C T na fl aa rm (t + 1) := by
  have M := tk_KM hf K
  obtain ⟨m1, m2, m3, m4⟩ := M
  obtain ⟨hn16, f1, f2, f3, f4, f5, f6⟩ := hf
  obtain ⟨k0, k1, k2, k3, k4, k5⟩ := K
  obtain ⟨_, rn, ra, rr, rf, rd, _⟩ := hr
  -- a step that has work left behind the tick: carried over, or released
  have cs : ∀ s, s < n → 0 < rm (t + 1) s → (tk_rl tx pd C na fl rm d t s ∧ rm (t + 1) s = C s) ∨ (rm (t + 1) s = tk_rho tx pd C na fl rm t s - d t s ∧ 0 < tk_rho tx pd C na fl rm t s ∧ ¬ tk_cp tx pd C na fl rm d t s) := by
    intro s hs h
    by_cases q : tk_rl tx pd C na fl rm d t s
    · exact Or.inl ⟨q, (rr t s ht hs).1 q⟩
    · have e := (rr t s ht hs).2 q
      refine Or.inr ⟨e, by omega, fun z => ?_⟩
      have a := z.1
      have b := z.2
      omega
  have tl : ∀ s, s < n → 0 < rm (t + 1) s → fl (t + 1) (tx s) = 1 ∧ ∃ p, p < n ∧ tx p = tx s ∧ 0 < tk_rho tx pd C na fl rm t p := by
    intro s hs h
    have key : ∃ p, p < n ∧ tx p = tx s ∧ 0 < tk_rho tx pd C na fl rm t p ∧ ¬ (nx p = -1 ∧ tk_cp tx pd C na fl rm d t p) := by
      rcases cs s hs h with ⟨q, _⟩ | ⟨_, b, w⟩
      · obtain ⟨a1, a2, a3⟩ := f5 s hs q.1
        refine ⟨_, by omega, a2, by have := q.2.2; omega, fun z => ?_⟩
        rw [a3] at z
        have hn : ¬ nI s = -1 := sn_ne (by omega)
        exact hn z.1
      · exact ⟨s, hs, rfl, b, fun z => w z.2⟩
    obtain ⟨p, hp, e, hpos, hn⟩ := key
    refine ⟨?_, p, hp, e, hpos⟩
    have hx := f1 s hs
    have no : ¬ ∃ q, q < n ∧ tx q = tx s ∧ nx q = -1 ∧ tk_cp tx pd C na fl rm d t q := by
      rintro ⟨q, hq, eq, h1, h2⟩
      have : q = p := m2 q p hq hp (by rw [eq, e]) (by have := h2.2; omega) hpos
      rw [this] at h1 h2
      exact hn ⟨h1, h2⟩
    rw [(rf t (tx s) ht hx).2 no]
    have y := m1 p hp hpos
    rw [e] at y
    by_cases z : na t (tx s) = t ∧ fl t (tx s) = 0
    · rw [if_pos z]
    · rw [if_neg z]
      rcases y with y | y
      · exact absurd y z
      · exact y
  have fle : ∀ x, x < c → fl (t + 1) x = 0 ∨ ((¬ ∃ s, s < n ∧ tx s = x ∧ nx s = -1 ∧ tk_cp tx pd C na fl rm d t s) ∧ fl (t + 1) x = if na t x = t ∧ fl t x = 0 then 1 else fl t x) := by
    intro x hx
    by_cases q : ∃ s, s < n ∧ tx s = x ∧ nx s = -1 ∧ tk_cp tx pd C na fl rm d t s
    · exact Or.inl ((rf t x ht hx).1 q)
    · exact Or.inr ⟨q, (rf t x ht hx).2 q⟩
  have fl1 : ∀ x, x < c → fl (t + 1) x = 1 → (¬ ∃ s, s < n ∧ tx s = x ∧ nx s = -1 ∧ tk_cp tx pd C na fl rm d t s) ∧ ((na t x = t ∧ fl t x = 0) ∨ (¬ (na t x = t ∧ fl t x = 0) ∧ fl t x = 1)) := by
    intro x hx h
    rcases fle x hx with z | ⟨z, w⟩
    · omega
    · refine ⟨z, ?_⟩
      by_cases q : na t x = t ∧ fl t x = 0
      · exact Or.inl q
      · rw [if_neg q] at w
        exact Or.inr ⟨q, by omega⟩
  refine ⟨fun x hx => ?_, fun s hs h => (tl s hs h).1, fun s q hs hq e h1 h2 => ?_, fun s hs => ?_, fun x hx h => ?_, fun x hx h => ?_⟩
  · rcases fle x hx with z | ⟨_, z⟩
    · omega
    · have := k0 x hx
      by_cases q : na t x = t ∧ fl t x = 0
      · rw [if_pos q] at z; omega
      · rw [if_neg q] at z; omega
  · rcases cs s hs h1 with ⟨a, _⟩ | ⟨_, a, a'⟩
    · obtain ⟨p1, p2, p3⟩ := f5 s hs a.1
      have pa := a.2.2
      rcases cs q hq h2 with ⟨b, _⟩ | ⟨_, b, b'⟩
      · obtain ⟨q1, q2, q3⟩ := f5 q hq b.1
        have pb := b.2.2
        have g := m2 _ _ (by omega : (pd s).toNatClampNeg < n) (by omega : (pd q).toNatClampNeg < n) (by rw [p2, q2, e]) (by omega) (by omega)
        rw [g, q3] at p3
        exact ((nI_eq (by omega) (by omega)).mp p3).symm
      · have g := m2 _ q (by omega : (pd s).toNatClampNeg < n) hq (by rw [p2, e]) (by omega) b
        rw [← g] at b'
        exact absurd a.2 b'
    · rcases cs q hq h2 with ⟨b, _⟩ | ⟨_, b, b'⟩
      · obtain ⟨q1, q2, q3⟩ := f5 q hq b.1
        have pb := b.2.2
        have g := m2 s _ hs (by omega : (pd q).toNatClampNeg < n) (by rw [q2, e]) a (by omega)
        rw [g] at a'
        exact absurd b.2 a'
      · exact m2 s q hs hq e a b
  · by_cases z : 0 < rm (t + 1) s
    · rcases cs s hs z with ⟨_, a⟩ | ⟨a, _, _⟩
      · omega
      · have := m3 s hs
        omega
    · omega
  · obtain ⟨no, y⟩ := fl1 x hx h
    obtain ⟨s, hs, e, hp⟩ := m4 x hx (by rcases y with y | y; exact Or.inl y; exact Or.inr y.2)
    by_cases q : tk_cp tx pd C na fl rm d t s
    · have hnx : ¬ nx s = -1 := fun z => no ⟨s, hs, e, z, q⟩
      obtain ⟨a1, a2, a3⟩ := f6 s hs hnx
      refine ⟨_, a1, by rw [a2, e], ?_⟩
      have rl : tk_rl tx pd C na fl rm d t (nx s).toNatClampNeg := by
        refine ⟨?_, ?_⟩
        · rw [a3]; exact sn_ne (by omega)
        · rw [a3, nI_clamp (by omega)]; exact q
      rw [(rr t _ ht a1).1 rl]
      exact f2 _ a1
    · refine ⟨s, hs, e, ?_⟩
      by_cases w : tk_rl tx pd C na fl rm d t s
      · rw [(rr t s ht hs).1 w]; exact f2 s hs
      · rw [(rr t s ht hs).2 w]
        have a := rd t s ht hs
        have b : ¬ (d t s = 1 ∧ tk_rho tx pd C na fl rm t s = 1) := q
        omega
  · obtain ⟨no, y⟩ := fl1 x hx h
    rw [ra t x ht hx, rn t x ht hx]
    rcases y with y | ⟨y1, y2⟩
    · rw [if_pos y, if_pos y.1]; omega
    · have := k5 x hx y2
      rw [if_neg y1]
      by_cases z : na t x = t
      · rw [if_pos z]; omega
      · rw [if_neg z]; omega
end
section
variable {n c H : Nat} {tx : Nat → Nat} {rs pr pd nx : Nat → Int32} {C T G : Nat → Nat} {na fl aa rm d : Nat → Nat → Nat} {fr : Nat → Int32}
theorem tk_Kall (hf : tk_Cf n c tx pd nx C) (hr : tk_Run n c H tx rs pr pd nx C T G na fl aa rm d fr) : ∀ t, t ≤ H → tk_K n c tx C T na fl aa rm t := by
  intro t
  induction t with
  | zero => intro _; exact tk_K0 hr
  | succ t ih => intro h; exact tk_Ks hf hr (by omega) (ih (by omega))
theorem tk_e1 {t s : Nat} : tk_e tx pd C na fl rm d t s = 1 ↔ tk_rel tx pd C na fl rm d t s := by
  unfold tk_e
  by_cases q : tk_rel tx pd C na fl rm d t s
  · rw [if_pos q]; exact ⟨fun _ => q, fun _ => rfl⟩
  · rw [if_neg q]; exact ⟨fun z => absurd z (by decide), fun z => absurd z q⟩
theorem tk_e01 {t s : Nat} : tk_e tx pd C na fl rm d t s = 0 ∨ tk_e tx pd C na fl rm d t s = 1 := by
  by_cases q : tk_rel tx pd C na fl rm d t s
  · exact Or.inr (tk_e1.mpr q)
  · refine Or.inl ?_
    unfold tk_e
    rw [if_neg q]
theorem tk_cv0 (hf : tk_Cf n c tx pd nx C) (hr : tk_Run n c H tx rs pr pd nx C T G na fl aa rm d fr) {t s : Nat} (ht : t ≤ H) (hs : s < n) (h : tk_rel tx pd C na fl rm d t s) : tk_cv tx pd C na fl rm d t s = 0 := by
  cases t with
  | zero => rfl
  | succ u =>
    have K := tk_Kall hf hr u (by omega)
    have K' := tk_Kall hf hr (u + 1) ht
    have M := tk_KM hf K
    obtain ⟨_, _, _, rr, _, rd, _⟩ := hr
    show tk_rho tx pd C na fl rm u s - d u s = 0
    rcases h with ⟨⟨h1, h2⟩, h3⟩ | h
    · have nr : ¬ tk_rl tx pd C na fl rm d u s := fun z => z.1 h3
      rw [← (rr u s (by omega) hs).2 nr]
      by_cases z : 0 < rm (u + 1) s
      · have := K'.2.1 s hs z
        omega
      · omega
    · obtain ⟨h1, h2⟩ : tk_rl tx pd C na fl rm d u s := h
      obtain ⟨a1, a2, a3⟩ := hf.2.2.2.2.2.1 s hs h1
      by_cases z : 0 < tk_rho tx pd C na fl rm u s
      · have := M.2.1 _ s (by omega) hs a2 (by have := h2.2; omega) z
        omega
      · omega
theorem tk_rhoE (hf : tk_Cf n c tx pd nx C) (hr : tk_Run n c H tx rs pr pd nx C T G na fl aa rm d fr) {t s : Nat} (ht : t ≤ H) (hs : s < n) : tk_cv tx pd C na fl rm d t s + C s * tk_e tx pd C na fl rm d t s = tk_rho tx pd C na fl rm t s := by
  by_cases q : tk_rel tx pd C na fl rm d t s
  · rw [tk_e1.mpr q, tk_cv0 hf hr ht hs q, Nat.mul_one, Nat.zero_add]
    unfold tk_rho
    by_cases z : (na t (tx s) = t ∧ fl t (tx s) = 0) ∧ pd s = -1
    · rw [if_pos z]
    · rw [if_neg z]
      rcases q with q | q
      · exact absurd q z
      · cases t with
        | zero => exact absurd q (fun w => w)
        | succ u => exact ((hr.2.2.2.1 u s (by omega) hs).1 q).symm
  · have e0 : tk_e tx pd C na fl rm d t s = 0 := by
      rcases tk_e01 (tx := tx) (pd := pd) (C := C) (na := na) (fl := fl) (rm := rm) (d := d) (t := t) (s := s) with z | z
      · exact z
      · exact absurd (tk_e1.mp z) q
    rw [e0, Nat.mul_zero, Nat.add_zero]
    have nz : ¬ ((na t (tx s) = t ∧ fl t (tx s) = 0) ∧ pd s = -1) := fun z => q (Or.inl z)
    unfold tk_rho
    rw [if_neg nz]
    cases t with
    | zero => exact (hr.1.2.1 s hs).symm
    | succ u =>
      have nr : ¬ tk_rl tx pd C na fl rm d u s := fun z => q (Or.inr z)
      exact ((hr.2.2.2.1 u s (by omega) hs).2 nr).symm
/-- arrivals of one transaction that release a step twice are a period apart -/
theorem tk_sp (hf : tk_Cf n c tx pd nx C) (hr : tk_Run n c H tx rs pr pd nx C T G na fl aa rm d fr) {r j : Nat} (hj : j < n) (hrH : r < H) (he : tk_rel tx pd C na fl rm d r j) :
    ∀ i, r + i < H → tk_al tx na fl aa r j + T (tx j) ≤ na (r + i + 1) (tx j) ∧ (tk_al tx na fl aa r j + T (tx j) ≤ tk_al tx na fl aa (r + i) j ∨ (tk_al tx na fl aa (r + i) j = tk_al tx na fl aa r j ∧ ∀ q, q < n → tx q = tx j → 0 < tk_rho tx pd C na fl rm (r + i) q → j ≤ q)) := by
  have hx := hf.2.1 j hj
  have nat : ∀ t, t < H → (na t (tx j) = t ∧ fl t (tx j) = 0) ∨ fl t (tx j) = 1 → tk_al tx na fl aa t j + T (tx j) ≤ na (t + 1) (tx j) := by
    intro t ht h
    have K := tk_Kall hf hr t (by omega)
    rw [hr.2.1 t (tx j) ht hx]
    unfold tk_al
    by_cases z : na t (tx j) = t ∧ fl t (tx j) = 0
    · rw [if_pos z, if_pos z.1]; omega
    · rw [if_neg z]
      rcases h with h | h
      · exact absurd h z
      · have := K.2.2.2.2.2 (tx j) hx h
        by_cases w : na t (tx j) = t
        · rw [if_pos w]; omega
        · rw [if_neg w]; omega
  have pj : 0 < tk_rho tx pd C na fl rm r j := by
    rw [← tk_rhoE hf hr (by omega) hj, tk_e1.mpr he]
    have := hf.2.2.1 j hj
    omega
  intro i
  induction i with
  | zero =>
    intro h
    have M := tk_KM hf (tk_Kall hf hr r (by omega))
    refine ⟨nat r hrH (M.1 j hj pj), Or.inr ⟨rfl, fun q hq e hp => ?_⟩⟩
    exact Nat.le_of_eq (M.2.1 j q hj hq e.symm pj hp)
  | succ i ih =>
    intro h
    obtain ⟨ih1, ih2⟩ := ih (by omega)
    have hn := hr.2.1 (r + i + 1) (tx j) (by omega) hx
    have ea := hr.2.2.1 (r + i) (tx j) (by omega) hx
    have eal : tk_al tx na fl aa (r + i + 1) j = if na (r + i + 1) (tx j) = r + i + 1 ∧ fl (r + i + 1) (tx j) = 0 then r + i + 1 else tk_al tx na fl aa (r + i) j := by
      unfold tk_al
      rw [ea]
    refine ⟨?_, ?_⟩
    · show tk_al tx na fl aa r j + T (tx j) ≤ na (r + i + 1 + 1) (tx j)
      rw [hn]
      by_cases w : na (r + i + 1) (tx j) = r + i + 1
      · rw [if_pos w]; omega
      · rw [if_neg w]; exact ih1
    · show tk_al tx na fl aa r j + T (tx j) ≤ tk_al tx na fl aa (r + i + 1) j ∨ (tk_al tx na fl aa (r + i + 1) j = tk_al tx na fl aa r j ∧ ∀ q, q < n → tx q = tx j → 0 < tk_rho tx pd C na fl rm (r + i + 1) q → j ≤ q)
      by_cases w : na (r + i + 1) (tx j) = r + i + 1 ∧ fl (r + i + 1) (tx j) = 0
      · rw [eal, if_pos w]
        have := w.1
        exact Or.inl (by omega)
      · rw [eal, if_neg w]
        rcases ih2 with y | ⟨y1, y2⟩
        · exact Or.inl y
        · refine Or.inr ⟨y1, fun q hq e hp => ?_⟩
          have e1 : tk_rho tx pd C na fl rm (r + i + 1) q = rm (r + i + 1) q := by
            unfold tk_rho
            rw [if_neg (fun z => w (by rw [e] at z; exact z.1))]
          rw [e1] at hp
          by_cases z : tk_rl tx pd C na fl rm d (r + i) q
          · obtain ⟨a1, a2, a3⟩ := hf.2.2.2.2.2.1 q hq z.1
            have := y2 (pd q).toNatClampNeg (by omega) (by rw [a2, e]) (by have := z.2.2; omega)
            omega
          · rw [(hr.2.2.2.1 (r + i) q (by omega) hq).2 z] at hp
            exact y2 q hq e (by omega)
theorem tk_Tr (hf : tk_Cf n c tx pd nx C) (hr : tk_Run n c H tx rs pr pd nx C T G na fl aa rm d fr) : tq_Tr n H pd C (fun j => T (tx j)) d (tk_e tx pd C na fl rm d) (tk_cv tx pd C na fl rm d) (tk_al tx na fl aa) := by
  have rd := hr.2.2.2.2.2.1
  refine ⟨fun t j ht hj => ⟨(rd t j ht hj).1, ?_⟩, fun j hj => rfl, fun t j ht hj => ?_, fun t j ht hj h => tk_cv0 hf hr (by omega) hj (tk_e1.mp h), fun t j ht hj h => ?_, fun t j ht hj h => ?_, fun r1 r2 j h12 h2 hj e1 e2 => ?_⟩
  · rcases tk_e01 (tx := tx) (pd := pd) (C := C) (na := na) (fl := fl) (rm := rm) (d := d) (t := t) (s := j) with z | z <;> omega
  · rw [tk_rhoE hf hr (by omega) hj]
    have := (rd t j ht hj).2
    show tk_rho tx pd C na fl rm t j - d t j + d t j = _
    omega
  · -- what goes on keeps its arrival
    have K := tk_Kall hf hr (t + 1) (by omega)
    have hx := hf.2.1 j hj
    have E := tk_rhoE hf hr (t := t + 1) (by omega) hj
    have nr : ¬ tk_rel tx pd C na fl rm d (t + 1) j := fun z => by
      have := tk_cv0 hf hr (by omega) hj z
      omega
    have e1 : tk_rho tx pd C na fl rm (t + 1) j = rm (t + 1) j := by
      unfold tk_rho
      rw [if_neg (fun z => nr (Or.inl z))]
    have p : 0 < rm (t + 1) j := by omega
    have f1 := K.2.1 j hj p
    unfold tk_al
    rw [hr.2.2.1 t (tx j) (by omega) hx, if_neg (fun z => by have := z.2; omega)]
  · have hx := hf.2.1 j hj
    have hrel := tk_e1.mp h
    have K := tk_Kall hf hr t (by omega)
    by_cases z : na t (tx j) = t ∧ fl t (tx j) = 0
    · have ea : tk_al tx na fl aa t j = t := by unfold tk_al; rw [if_pos z]
      rw [ea]
      refine ⟨Nat.le_refl t, ?_⟩
      rcases hrel with y | y
      · exact Or.inl ⟨y.2, Nat.le_refl t⟩
      · exfalso
        cases t with
        | zero => exact y
        | succ u =>
          have a := (hr.2.2.2.1 u j (by omega) hj).1 y
          have b := K.2.1 j hj (by rw [a]; exact hf.2.2.1 j hj)
          have := z.2
          omega
    · have ea : tk_al tx na fl aa t j = aa t (tx j) := by unfold tk_al; rw [if_neg z]
      rcases hrel with y | y
      · exact absurd y.1 z
      · cases t with
        | zero => exact absurd y (fun w => w)
        | succ u =>
          have y' : tk_rl tx pd C na fl rm d u j := y
          have a := (hr.2.2.2.1 u j (by omega) hj).1 y'
          have b := K.2.1 j hj (by rw [a]; exact hf.2.2.1 j hj)
          have g := K.2.2.2.2.2 (tx j) hx b
          obtain ⟨a1, a2, a3⟩ := hf.2.2.2.2.2.1 j hj y'.1
          rw [ea]
          refine ⟨by omega, Or.inr ⟨y'.1, by omega, by omega, y'.2.1, ?_, ?_⟩⟩
          · show tk_rho tx pd C na fl rm u (pd j).toNatClampNeg - d u (pd j).toNatClampNeg = 0
            have := y'.2.1
            have := y'.2.2
            omega
          · show tk_al tx na fl aa u (pd j).toNatClampNeg = aa (u + 1) (tx j)
            unfold tk_al
            rw [hr.2.2.1 u (tx j) (by omega) hx, a2]
  · have q1 := tk_e1.mp e1
    have q2 := tk_e1.mp e2
    show tk_al tx na fl aa r1 j + T (tx j) ≤ tk_al tx na fl aa r2 j
    rcases q2 with y | y
    · obtain ⟨a, _⟩ := tk_sp hf hr hj (by omega) q1 (r2 - 1 - r1) (by omega)
      rw [show r1 + (r2 - 1 - r1) + 1 = r2 from by omega, y.1.1] at a
      have ea : tk_al tx na fl aa r2 j = r2 := by unfold tk_al; rw [if_pos y.1]
      rw [ea]; exact a
    · cases r2 with
      | zero => exact absurd y (fun w => w)
      | succ u =>
        have y' : tk_rl tx pd C na fl rm d u j := y
        obtain ⟨a1, a2, a3⟩ := hf.2.2.2.2.2.1 j hj y'.1
        have hx := hf.2.1 j hj
        obtain ⟨_, b⟩ := tk_sp hf hr hj (by omega) q1 (u - r1) (by omega)
        rw [show r1 + (u - r1) = u from by omega] at b
        have eal : tk_al tx na fl aa (u + 1) j = tk_al tx na fl aa u j := by
          have K := tk_Kall hf hr (u + 1) (by omega)
          have w := (hr.2.2.2.1 u j (by omega) hj).1 y'
          have f1 := K.2.1 j hj (by rw [w]; exact hf.2.2.1 j hj)
          unfold tk_al
          rw [hr.2.2.1 u (tx j) (by omega) hx, if_neg (fun z => by have := z.2; omega)]
        rw [eal]
        rcases b with b | ⟨_, b⟩
        · exact b
        · have := b _ (by omega) a2 (by have := y'.2.2; omega)
          omega
theorem tk_Pr (hf : tk_Cf n c tx pd nx C) (hr : tk_Run n c H tx rs pr pd nx C T G na fl aa rm d fr) : tq_Pr n H rs pr C d (tk_e tx pd C na fl rm d) (tk_cv tx pd C na fl rm d) := by
  intro t s ht hs h8 h
  rw [tk_rhoE hf hr (by omega) hs] at h
  exact hr.2.2.2.2.2.2.1 t s ht hs h8 h
theorem tk_Bu (hf : tk_Cf n c tx pd nx C) (hr : tk_Run n c H tx rs pr pd nx C T G na fl aa rm d fr) : tq_Bu n H rs pr C d (tk_e tx pd C na fl rm d) (tk_cv tx pd C na fl rm d) := by
  obtain ⟨_, _, _, _, _, _, _, b1, b2, b3, b4, b5⟩ := id hr
  refine ⟨fun t s ht hs h8 h => ?_, fun t j ht hj h8 h => ?_, fun t j ht hj h8 h hc => ?_⟩
  · rw [tk_rhoE hf hr (by omega) hs] at h
    exact b1 t s ht hs h8 h
  · rcases b2 t j ht hj h8 h with ⟨_, z⟩ | z
    · refine Or.inl (fun s hs hs8 hp => ?_)
      rw [tk_rhoE hf hr (by omega) hs] at hp
      exact z s hs hs8 hp
    · cases t with
      | zero =>
        exfalso
        rw [hr.1.2.2] at z
        exact sn_ne (i := j) (by have := hf.1; omega) z.symm
      | succ u =>
        obtain ⟨a1, a2⟩ := b5 u j (by omega) hj z
        refine Or.inr ⟨by omega, a1, ?_⟩
        show 0 < tk_rho tx pd C na fl rm u j - d u j
        omega
  · have : 0 < tk_rho tx pd C na fl rm t j - d t j := hc
    exact b3 (t + 1) j (by omega) hj (b4 t j (by omega) hj h8 h (by omega))
/-- no step that has work in tick t is late -/
theorem tk_main {D R : Nat → Nat} (hc : fx_Cf n pd D) (hf : tk_Cf n c tx pd nx C) (hr : tk_Run n c H tx rs pr pd nx C T G na fl aa rm d fr) (hu : ∀ i j, i < n → j < n → rs i = rs j → pr i = pr j → i = j) (hTp : ∀ x, x < c → 1 ≤ T x) (hR : ∀ s, s < n → R s ≤ 200) (hF : ∀ s, s < n → fx_Fr n rs pr pd C (fun j => T (tx j)) D R s (R s)) {t s : Nat} (ht : t < H) (hs : s < n) (h : 0 < tk_rho tx pd C na fl rm t s) : t + tk_rho tx pd C na fl rm t s ≤ tk_al tx na fl aa t s + R s := by
  have x := tq_main hc (tk_Tr hf hr) (tk_Pr hf hr) (tk_Bu hf hr) hu hf.2.2.1 (fun j hj => hTp _ (hf.2.1 j hj)) hR hF t ht s hs
  rw [tk_rhoE hf hr (by omega) hs] at x
  exact x h
/-- no arrival is dropped -/
theorem tk_noov {D R : Nat → Nat} (hc : fx_Cf n pd D) (hf : tk_Cf n c tx pd nx C) (hr : tk_Run n c H tx rs pr pd nx C T G na fl aa rm d fr) (hu : ∀ i j, i < n → j < n → rs i = rs j → pr i = pr j → i = j) (hTp : ∀ x, x < c → 1 ≤ T x) (hR : ∀ s, s < n → R s ≤ 200) (hRT : ∀ s, s < n → R s ≤ T (tx s)) (hF : ∀ s, s < n → fx_Fr n rs pr pd C (fun j => T (tx j)) D R s (R s)) {t x : Nat} (ht : t < H) (hx : x < c) : ¬ (na t x = t ∧ fl t x = 1) := by
  rintro ⟨h1, h2⟩
  have K := tk_Kall hf hr t (by omega)
  obtain ⟨s, hs, e, hp⟩ := K.2.2.2.2.1 x hx h2
  have g := K.2.2.2.2.2 x hx h2
  have er : tk_rho tx pd C na fl rm t s = rm t s := by
    unfold tk_rho
    rw [if_neg (fun z => by rw [e] at z; have := z.1.2; omega)]
  have y := tk_main hc hf hr hu hTp hR hF ht hs (by rw [er]; exact hp)
  have ea : tk_al tx na fl aa t s = aa t x := by
    unfold tk_al
    rw [e, if_neg (fun z => by have := z.2; omega)]
  have r := hRT s hs
  rw [e] at r
  rw [er, ea] at y
  omega
end
end
section
/-! one tick of the component: what each phase leaves, place by place -/
noncomputable def tu_mk (P : Nat → Prop) (g f : Nat → Int32) (i : Nat) : Nat → Int32 := fun x => @ite _ (x < i ∧ P x) (Classical.propDecidable _) (g x) (f x)
theorem tu_p {P : Nat → Prop} {g f : Nat → Int32} {i x : Nat} (h : x < i) (hp : P x) : tu_mk P g f i x = g x := if_pos ⟨h, hp⟩
theorem tu_q {P : Nat → Prop} {g f : Nat → Int32} {i x : Nat} (hp : ¬ P x) : tu_mk P g f i x = f x := if_neg (fun z => hp z.2)
theorem tu_ge {P : Nat → Prop} {g f : Nat → Int32} {i x : Nat} (h : i ≤ x) : tu_mk P g f i x = f x := if_neg (fun z => by have := z.1; omega)
theorem tu_0 {P : Nat → Prop} {g f : Nat → Int32} : tu_mk P g f 0 = f := by
  funext x
  exact tu_ge (Nat.zero_le x)
theorem tu_t {P : Nat → Prop} {g f : Nat → Int32} {i : Nat} (hp : P i) : upd (tu_mk P g f i) i (g i) = tu_mk P g f (i + 1) := by
  funext x
  by_cases e : x = i
  · subst e
    rw [pk_us, tu_p (by omega) hp]
  · rw [pk_un e]
    by_cases h : x < i ∧ P x
    · rw [tu_p h.1 h.2, tu_p (by omega) h.2]
    · unfold tu_mk
      rw [if_neg h, if_neg (fun z => h ⟨by have := z.1; omega, z.2⟩)]
theorem tu_n {P : Nat → Prop} {g f : Nat → Int32} {i : Nat} (hp : ¬ P i) : tu_mk P g f (i + 1) = tu_mk P g f i := by
  funext x
  by_cases h : x < i ∧ P x
  · rw [tu_p h.1 h.2, tu_p (by omega) h.2]
  · unfold tu_mk
    rw [if_neg h, if_neg (fun z => h ⟨by
      by_cases e : x = i
      · subst e; exact absurd z.2 hp
      · have := z.1; omega, z.2⟩)]
/-! the most urgent pending step -/
theorem sn_mu_eq {rs pr rm rm' : Nat → Int32} {r : Int32} : ∀ k, (∀ s, s < k → rs s = r → rm' s = rm s) → sn_mu rs pr rm' r k = sn_mu rs pr rm r k := by
  intro k
  induction k with
  | zero => intro _; rfl
  | succ k ih =>
    intro h
    have a := ih (fun s hs => h s (by omega))
    by_cases z : (rs k = r ∧ 0 < rm k) ∧ (sn_mu rs pr rm r k = -1 ∨ pr (sn_mu rs pr rm r k).toNatClampNeg < pr k)
    · rw [sn_mu_t z, sn_mu_t (by rw [a, h k (by omega) z.1.1]; exact z)]
    · rw [sn_mu_n z, sn_mu_n (by
        rw [a]
        intro w
        refine z ⟨⟨w.1.1, ?_⟩, w.2⟩
        rw [← h k (by omega) w.1.1]; exact w.1.2), a]
theorem sn_mu_sp (rs pr rm : Nat → Int32) (r : Int32) : ∀ k, k < 2 ^ 31 → (sn_mu rs pr rm r k = -1 ∧ ∀ s, s < k → rs s = r → ¬ 0 < rm s) ∨ ∃ j, j < k ∧ sn_mu rs pr rm r k = nI j ∧ rs j = r ∧ 0 < rm j ∧ ∀ s, s < k → rs s = r → 0 < rm s → pr s ≤ pr j := by
  intro k
  induction k with
  | zero => intro _; exact Or.inl ⟨rfl, fun s hs => by omega⟩
  | succ k ih =>
    intro hk
    by_cases z : (rs k = r ∧ 0 < rm k) ∧ (sn_mu rs pr rm r k = -1 ∨ pr (sn_mu rs pr rm r k).toNatClampNeg < pr k)
    · rw [sn_mu_t z]
      refine Or.inr ⟨k, by omega, rfl, z.1.1, z.1.2, fun s hs e hp => ?_⟩
      by_cases q : s = k
      · rw [q]; exact Int32.le_refl _
      · rcases ih (by omega) with ⟨_, b⟩ | ⟨j, hj, b, _, _, f⟩
        · exact absurd hp (b s (by omega) e)
        · rcases z.2 with w | w
          · rw [b] at w; exact absurd w (bs_ne (by omega))
          · rw [b, nI_clamp (by omega)] at w
            exact Int32.le_trans (f s (by omega) e hp) (Int32.le_of_lt w)
    · rw [sn_mu_n z]
      rcases ih (by omega) with ⟨a, b⟩ | ⟨j, hj, b, c, d, f⟩
      · refine Or.inl ⟨a, fun s hs e hp => ?_⟩
        by_cases q : s = k
        · subst q; exact z ⟨⟨e, hp⟩, Or.inl a⟩
        · exact b s (by omega) e hp
      · refine Or.inr ⟨j, by omega, b, c, d, fun s hs e hp => ?_⟩
        by_cases q : s = k
        · subst q
          by_cases w : pr s ≤ pr j
          · exact w
          · exact absurd ⟨⟨e, hp⟩, Or.inr (by rw [b, nI_clamp (by omega)]; exact Int32.not_le.mp w)⟩ z
        · exact f s (by omega) e hp
section
variable {pN pK sT tM fR tC sC : Int32} {c n p kk : Nat} {pe dl hd tl os ga tx rs cs pr pd nx bX na fl aa co ov mx rm sX lX : Nat → Int32}
theorem ti_xm4 {post : Int32 → Prop} {r : Int32} (hn : n ≤ 16) : ∀ d i, i + d = n → post (sn_mu rs pr rm r n) → wX_mostUrgentPending_4 post r pN pK tC (nI n) sT tM fR pe dl hd tl os ga tx rs cs pr pd nx bX na fl aa co ov mx rm sX lX (d + 1) (sn_mu rs pr rm r i) (nI i) := by
  intro d
  induction d with
  | zero =>
    intro i hi hp
    have e : i = n := by omega
    subst e
    exact br_t (nI_le (by omega) (by omega)) hp
  | succ d ih =>
    intro i hi hp
    have z := ih (i + 1) (by omega) hp
    have hin : vp_in (nI i) 16 := vp_in_nI (by omega) (by omega)
    refine br_f (nI_ge (by omega) (by omega)) ⟨hin, ?_⟩
    rw [nI_clamp (by omega)]
    by_cases e1 : rs i = r
    · refine br_t e1 ⟨hin, ?_⟩
      by_cases e2 : rm i ≤ 0
      · rw [sn_mu_n (fun w => Int32.not_lt.mpr e2 w.1.2)] at z
        exact br_t e2 (br_t rfl (nm_r (nI_1 i) z))
      · have e2' : 0 < rm i := Int32.not_le.mp e2
        refine br_f e2 (br_f sm_1 ?_)
        rcases sn_mu_some rs pr rm r i with b | ⟨j, hj, b, _⟩
        · rw [sn_mu_t ⟨⟨e1, e2'⟩, Or.inl b⟩] at z
          exact br_t b (nm_r (nI_1 i) z)
        · have nb : ¬ sn_mu rs pr rm r i = -1 := by rw [b]; exact bs_ne (by omega)
          refine br_f nb ⟨hin, by rw [b]; exact vp_in_nI (by omega) (by omega), ?_⟩
          rw [nI_clamp (by omega)]
          by_cases e3 : pr i ≤ pr (sn_mu rs pr rm r i).toNatClampNeg
          · rw [sn_mu_n (fun w => by
              rcases w.2 with w | w
              · exact nb w
              · exact Int32.not_lt.mpr e3 w)] at z
            exact br_t e3 (nm_r (nI_1 i) z)
          · rw [sn_mu_t ⟨⟨e1, e2'⟩, Or.inr (Int32.not_le.mp e3)⟩] at z
            exact br_f e3 (nm_r (nI_1 i) z)
    · rw [sn_mu_n (fun w => e1 w.1.1)] at z
      exact br_f e1 (br_t rfl (nm_r (nI_1 i) z))
theorem ti_xm {post : Int32 → Prop} {r : Int32} (hn : n ≤ 16) (hp : post (sn_mu rs pr rm r n)) : wpX_mostUrgentPending post (pN, pK, tC, nI n, sT, tM, fR, pe, dl, hd, tl, os, ga, tx, rs, cs, pr, pd, nx, bX, na, fl, aa, co, ov, mx, rm, sX, lX) r := ⟨n + 1, ti_xm4 hn n 0 (by omega) hp⟩
theorem ti_xa1 {post : St2 → Prop} {i m : Nat} (hi : i < 8) (hm : m < 16) (f : fl i = 0) (em : hd i = nI m) (hp : post (pN, pK, tC, sC, sT, tM, fR, pe, dl, hd, tl, os, ga, tx, rs, cs, pr, pd, nx, bX, upd na i (tM + pe i + ga i), upd fl i 1, upd aa i tM, co, ov, mx, upd rm m (cs m), sX, lX)) : wpX_arrive post (pN, pK, tC, sC, sT, tM, fR, pe, dl, hd, tl, os, ga, tx, rs, cs, pr, pd, nx, bX, na, fl, aa, co, ov, mx, rm, sX, lX) (nI i) := by
  have k : vp_in (nI i) 8 := vp_in_nI (by omega) (by omega)
  have km : vp_in (nI m) 16 := vp_in_nI (by omega) (by omega)
  refine ⟨k, br_t (by rw [nI_clamp (by omega)]; exact f) ⟨k, nm_r (cf_up (by omega)) ⟨k, nm_r (cf_up (by omega)) ⟨k, ?_⟩⟩⟩⟩
  rw [nI_clamp (by omega), em]
  exact ⟨km, km, nm_r (by rw [nI_clamp (by omega)]) ⟨k, k, k, nm_r (by rw [nI_clamp (by omega)]) hp⟩⟩
theorem ti_xa2 {post : St2 → Prop} {i : Nat} (hi : i < 8) (f : ¬ fl i = 0) (hp : post (pN, pK, tC, sC, sT, tM, fR, pe, dl, hd, tl, os, ga, tx, rs, cs, pr, pd, nx, bX, upd na i (tM + pe i + ga i), fl, aa, co, upd ov i (ov i + 1), mx, rm, sX, lX)) : wpX_arrive post (pN, pK, tC, sC, sT, tM, fR, pe, dl, hd, tl, os, ga, tx, rs, cs, pr, pd, nx, bX, na, fl, aa, co, ov, mx, rm, sX, lX) (nI i) := by
  have k : vp_in (nI i) 8 := vp_in_nI (by omega) (by omega)
  exact ⟨k, br_f (by rw [nI_clamp (by omega)]; exact f) ⟨k, k, nm_r (by rw [nI_clamp (by omega)]) ⟨k, k, k, nm_r (by rw [nI_clamp (by omega)]) hp⟩⟩⟩
theorem ti_xw0 {post : St2 → Prop} {r : Nat} (hr : r < 9) (hp : post (pN, pK, tC, sC, sT, tM, fR, pe, dl, hd, tl, os, ga, tx, rs, cs, pr, pd, nx, bX, na, fl, aa, co, ov, mx, rm, sX, upd lX r (-1))) : wpX_work post (pN, pK, tC, sC, sT, tM, fR, pe, dl, hd, tl, os, ga, tx, rs, cs, pr, pd, nx, bX, na, fl, aa, co, ov, mx, rm, sX, lX) (nI r) (-1) := ⟨vp_in_nI hr (by omega), nm_r (cf_up (by omega)) (br_t rfl hp)⟩
theorem ti_xw1 {post : St2 → Prop} {r j : Nat} (hr : r < 9) (hj : j < 16) (hp : post (pN, pK, tC, sC, sT, tM, fR, pe, dl, hd, tl, os, ga, tx, rs, cs, pr, pd, nx, bX, na, fl, aa, co, ov, mx, upd rm j (rm j - 1), sX, upd lX r (nI j))) : wpX_work post (pN, pK, tC, sC, sT, tM, fR, pe, dl, hd, tl, os, ga, tx, rs, cs, pr, pd, nx, bX, na, fl, aa, co, ov, mx, rm, sX, lX) (nI r) (nI j) := by
  have k : vp_in (nI j) 16 := vp_in_nI (by omega) (by omega)
  exact ⟨vp_in_nI hr (by omega), nm_r (cf_up (by omega)) (br_f (bs_ne (by omega)) ⟨k, k, nm_r (by rw [nI_clamp (by omega)]) hp⟩)⟩
theorem ti_busx {post : St2 → Prop} {f : Int32} (hf : (f = -1 ∧ post (pN, pK, tC, sC, sT, tM, f, pe, dl, hd, tl, os, ga, tx, rs, cs, pr, pd, nx, bX, na, fl, aa, co, ov, mx, rm, sX, upd lX 8 f)) ∨ ∃ j, j < 16 ∧ f = nI j ∧ post (pN, pK, tC, sC, sT, tM, f, pe, dl, hd, tl, os, ga, tx, rs, cs, pr, pd, nx, bX, na, fl, aa, co, ov, mx, upd rm j (rm j - 1), sX, upd lX 8 f)) : wX_execute_46 post pN pK tC sC sT tM f pe dl hd tl os ga tx rs cs pr pd nx bX na fl aa co ov mx rm sX lX := by
  unfold wX_execute_46
  rcases hf with ⟨rfl, h⟩ | ⟨j, hj, rfl, h⟩
  · exact ti_xw0 (r := 8) (by omega) h
  · exact ti_xw1 (r := 8) (by omega) hj h
/-! arrivals -/
/-- remaining work behind the arrivals of the first i transactions -/
def tu_RA (n i : Nat) (tM : Int32) (tx pd cs na fl rm0 rm : Nat → Int32) : Prop := ∀ s, s < n →
  ((((tx s).toNatClampNeg < i ∧ na (tx s).toNatClampNeg = tM ∧ fl (tx s).toNatClampNeg = 0) ∧ pd s = -1) → rm s = cs s) ∧
  (¬ (((tx s).toNatClampNeg < i ∧ na (tx s).toNatClampNeg = tM ∧ fl (tx s).toNatClampNeg = 0) ∧ pd s = -1) → rm s = rm0 s)
theorem tu_arr {post : St2 → Prop} (hc : c ≤ 8) (hn : n ≤ 16) (hh : ∀ x, x < c → ∃ m, m < n ∧ hd x = nI m ∧ tx m = nI x ∧ pd m = -1 ∧ ∀ s, s < n → tx s = nI x → pd s = -1 → s = m) (htx : ∀ s, s < n → ∃ y, y < c ∧ tx s = nI y) {rm0 : Nat → Int32}
    (hp : ∀ rm' : Nat → Int32, tu_RA n c tM tx pd cs na fl rm0 rm' → post (pN, pK, nI c, nI n, sT, tM, fR, pe, dl, hd, tl, os, ga, tx, rs, cs, pr, pd, nx, bX, tu_mk (fun x => na x = tM) (fun x => tM + pe x + ga x) na c, tu_mk (fun x => na x = tM ∧ fl x = 0) (fun _ => 1) fl c, tu_mk (fun x => na x = tM ∧ fl x = 0) (fun _ => tM) aa c, co, tu_mk (fun x => na x = tM ∧ ¬ fl x = 0) (fun x => ov x + 1) ov c, mx, rm', sX, lX)) :
    ∀ (d i : Nat) (rm : Nat → Int32), i + d = c → tu_RA n i tM tx pd cs na fl rm0 rm → wX_takeArrivals_2 post (d + 1) (nI i) pN pK (nI c) (nI n) sT tM fR pe dl hd tl os ga tx rs cs pr pd nx bX (tu_mk (fun x => na x = tM) (fun x => tM + pe x + ga x) na i) (tu_mk (fun x => na x = tM ∧ fl x = 0) (fun _ => 1) fl i) (tu_mk (fun x => na x = tM ∧ fl x = 0) (fun _ => tM) aa i) co (tu_mk (fun x => na x = tM ∧ ¬ fl x = 0) (fun x => ov x + 1) ov i) mx rm sX lX := by
  intro d
  induction d with
  | zero =>
    intro i rm hi hra
    have e : i = c := by omega
    subst e
    exact br_t (nI_le (by omega) (by omega)) (hp rm hra)
  | succ d ih =>
    intro i rm hi hra
    have k : vp_in (nI i) 8 := vp_in_nI (by omega) (by omega)
    have cl : (nI i).toNatClampNeg = i := nI_clamp (by omega)
    have ei : ∀ s, s < n → ((tx s).toNatClampNeg = i ↔ tx s = nI i) := by
      intro s hs
      obtain ⟨y, hy, e⟩ := htx s hs
      rw [e, nI_clamp (by omega), nI_eq (by omega) (by omega)]
    have keep : ¬ (na i = tM ∧ fl i = 0) → tu_RA n (i + 1) tM tx pd cs na fl rm0 rm := by
      intro hno s hs
      obtain ⟨a, b⟩ := hra s hs
      refine ⟨fun z => a ⟨⟨?_, z.1.2⟩, z.2⟩, fun z => b (fun w => z ⟨⟨by have := w.1.1; omega, w.1.2⟩, w.2⟩)⟩
      by_cases q : (tx s).toNatClampNeg = i
      · rw [q] at z; exact absurd z.1.2 hno
      · have := z.1.1; omega
    refine br_f (nI_ge (by omega) (by omega)) ⟨k, ?_⟩
    rw [cl, tu_ge (Nat.le_refl i)]
    by_cases e : na i = tM
    · refine br_t e ?_
      by_cases f : fl i = 0
      · obtain ⟨m, hm, em, etx, epd, eun⟩ := hh i (by omega)
        refine ti_xa1 (by omega) (by omega) (by rw [tu_ge (Nat.le_refl i)]; exact f) em (nm_r (nI_1 i) ?_)
        have z := ih (i + 1) (upd rm m (cs m)) (by omega) (fun s hs => ?_)
        · rw [← tu_t (P := fun x => na x = tM) (i := i) e, ← tu_t (P := fun x => na x = tM ∧ fl x = 0) (g := fun _ => 1) (i := i) ⟨e, f⟩, ← tu_t (P := fun x => na x = tM ∧ fl x = 0) (g := fun _ => tM) (i := i) ⟨e, f⟩, tu_n (P := fun x => na x = tM ∧ ¬ fl x = 0) (i := i) (fun w => w.2 f)] at z
          exact z
        · obtain ⟨a, b⟩ := hra s hs
          by_cases q : s = m
          · subst q
            rw [pk_us]
            refine ⟨fun _ => rfl, fun w => absurd ⟨⟨?_, ?_, ?_⟩, epd⟩ w⟩
            · rw [(ei s hs).mpr etx]; omega
            · rw [(ei s hs).mpr etx]; exact e
            · rw [(ei s hs).mpr etx]; exact f
          · rw [pk_un q]
            refine ⟨fun z => a ⟨⟨?_, z.1.2⟩, z.2⟩, fun z => b (fun w => z ⟨⟨by have := w.1.1; omega, w.1.2⟩, w.2⟩)⟩
            by_cases y : (tx s).toNatClampNeg = i
            · exact absurd (eun s hs ((ei s hs).mp y) z.2) q
            · have := z.1.1; omega
      · refine ti_xa2 (by omega) (by rw [tu_ge (Nat.le_refl i)]; exact f) (nm_r (nI_1 i) ?_)
        have z := ih (i + 1) rm (by omega) (keep (fun w => f w.2))
        rw [← tu_t (P := fun x => na x = tM) (i := i) e, tu_n (P := fun x => na x = tM ∧ fl x = 0) (g := fun _ => 1) (i := i) (fun w => f w.2), tu_n (P := fun x => na x = tM ∧ fl x = 0) (g := fun _ => tM) (i := i) (fun w => f w.2), ← tu_t (P := fun x => na x = tM ∧ ¬ fl x = 0) (i := i) ⟨e, f⟩] at z
        rw [tu_ge (f := ov) (Nat.le_refl i)]
        exact z
    · refine br_f e (nm_r (nI_1 i) ?_)
      have z := ih (i + 1) rm (by omega) (keep (fun w => e w.1))
      rw [tu_n (P := fun x => na x = tM) (i := i) e, tu_n (P := fun x => na x = tM ∧ fl x = 0) (g := fun _ => 1) (i := i) (fun w => e w.1), tu_n (P := fun x => na x = tM ∧ fl x = 0) (g := fun _ => tM) (i := i) (fun w => e w.1), tu_n (P := fun x => na x = tM ∧ ¬ fl x = 0) (i := i) (fun w => e w.1)] at z
      exact z
theorem tu_arr0 {post : St2 → Prop} (hc : c ≤ 8) (hn : n ≤ 16) (hh : ∀ x, x < c → ∃ m, m < n ∧ hd x = nI m ∧ tx m = nI x ∧ pd m = -1 ∧ ∀ s, s < n → tx s = nI x → pd s = -1 → s = m) (htx : ∀ s, s < n → ∃ y, y < c ∧ tx s = nI y)
    (hp : ∀ rm' : Nat → Int32, tu_RA n c tM tx pd cs na fl rm rm' → post (pN, pK, nI c, nI n, sT, tM, fR, pe, dl, hd, tl, os, ga, tx, rs, cs, pr, pd, nx, bX, tu_mk (fun x => na x = tM) (fun x => tM + pe x + ga x) na c, tu_mk (fun x => na x = tM ∧ fl x = 0) (fun _ => 1) fl c, tu_mk (fun x => na x = tM ∧ fl x = 0) (fun _ => tM) aa c, co, tu_mk (fun x => na x = tM ∧ ¬ fl x = 0) (fun x => ov x + 1) ov c, mx, rm', sX, lX)) :
    wX_takeArrivals_2 post (c + 1) (nI 0) pN pK (nI c) (nI n) sT tM fR pe dl hd tl os ga tx rs cs pr pd nx bX na fl aa co ov mx rm sX lX := by
  have z := tu_arr hc hn hh htx hp c 0 rm (by omega) (fun s hs => ⟨fun w => by have := w.1.1; omega, fun _ => rfl⟩)
  simp only [tu_0] at z
  exact z
/-! execution -/
def tu_EX (n i : Nat) (rs pr rm1 rm lX : Nat → Int32) : Prop := (∀ q, q < i → lX q = sn_mu rs pr rm1 (nI q) n) ∧ ∀ s, s < n → ((∃ q, q < i ∧ rs s = nI q ∧ lX q = nI s) → rm s = rm1 s - 1) ∧ ((¬ ∃ q, q < i ∧ rs s = nI q ∧ lX q = nI s) → rm s = rm1 s)
theorem tu_exe {post : St2 → Prop} (hp4 : p ≤ 4) (hn : n ≤ 16) {rm1 : Nat → Int32} (hp : ∀ rm' lX' : Nat → Int32, tu_EX n p rs pr rm1 rm' lX' → wX_execute_2 post 1 (nI p) (nI p) pK tC (nI n) sT tM fR pe dl hd tl os ga tx rs cs pr pd nx bX na fl aa co ov mx rm' sX lX') :
    ∀ (d i : Nat) (rm lX : Nat → Int32), i + d = p → tu_EX n i rs pr rm1 rm lX → wX_execute_2 post (d + 1) (nI i) (nI p) pK tC (nI n) sT tM fR pe dl hd tl os ga tx rs cs pr pd nx bX na fl aa co ov mx rm sX lX := by
  intro d
  induction d with
  | zero =>
    intro i rm lX hi hx
    have e : i = p := by omega
    subst e
    exact hp rm lX hx
  | succ d ih =>
    intro i rm lX hi hx
    obtain ⟨x1, x2⟩ := hx
    have non : ∀ s, s < n → rs s = nI i → ¬ ∃ q, q < i ∧ rs s = nI q ∧ lX q = nI s := by
      rintro s hs e ⟨q, hq, e1, _⟩
      rw [e] at e1
      have := (nI_eq (a := i) (b := q) (by omega) (by omega)).mp e1
      omega
    have eb : sn_mu rs pr rm (nI i) n = sn_mu rs pr rm1 (nI i) n := sn_mu_eq n (fun s hs e => (x2 s hs).2 (non s hs e))
    refine br_f (nI_ge (by omega) (by omega)) (ti_xm hn ?_)
    rcases sn_mu_some rs pr rm (nI i) n with b | ⟨j, hj, b, hr⟩
    · rw [b]
      refine ti_xw0 (by omega) (nm_r (nI_1 i) (ih (i + 1) rm (upd lX i (-1)) (by omega) ⟨fun q hq => ?_, fun s hs => ?_⟩))
      · by_cases e : q = i
        · rw [e, pk_us, ← eb, b]
        · rw [pk_un e]; exact x1 q (by omega)
      · have eq : (∃ q, q < i + 1 ∧ rs s = nI q ∧ upd lX i (-1) q = nI s) ↔ ∃ q, q < i ∧ rs s = nI q ∧ lX q = nI s := by
          constructor
          · rintro ⟨q, hq, e1, e2⟩
            by_cases z : q = i
            · rw [z, pk_us] at e2
              exact absurd e2.symm (bs_ne (by omega))
            · rw [pk_un z] at e2
              exact ⟨q, by omega, e1, e2⟩
          · rintro ⟨q, hq, e1, e2⟩
            exact ⟨q, by omega, e1, by rw [pk_un (by omega)]; exact e2⟩
        rw [eq]
        exact x2 s hs
    · rw [b]
      refine ti_xw1 (by omega) (by omega) (nm_r (nI_1 i) (ih (i + 1) (upd rm j (rm j - 1)) (upd lX i (nI j)) (by omega) ⟨fun q hq => ?_, fun s hs => ?_⟩))
      · by_cases e : q = i
        · rw [e, pk_us, ← eb, b]
        · rw [pk_un e]; exact x1 q (by omega)
      · by_cases z : s = j
        · subst z
          rw [pk_us]
          refine ⟨fun _ => by rw [(x2 s hs).2 (non s hs hr)], fun w => absurd ⟨i, by omega, hr, pk_us⟩ w⟩
        · have eq : (∃ q, q < i + 1 ∧ rs s = nI q ∧ upd lX i (nI j) q = nI s) ↔ ∃ q, q < i ∧ rs s = nI q ∧ lX q = nI s := by
            constructor
            · rintro ⟨q, hq, e1, e2⟩
              by_cases w : q = i
              · rw [w, pk_us] at e2
                exact absurd ((nI_eq (by omega) (by omega)).mp e2).symm z
              · rw [pk_un w] at e2
                exact ⟨q, by omega, e1, e2⟩
            · rintro ⟨q, hq, e1, e2⟩
              exact ⟨q, by omega, e1, by rw [pk_un (by omega)]; exact e2⟩
          rw [pk_un z, eq]
          exact x2 s hs
/-- behind the execution -/
def tu_EF (n p : Nat) (fR f1 : Int32) (rs pr rm1 rm lX : Nat → Int32) : Prop :=
  (∀ q, q < p → lX q = sn_mu rs pr rm1 (nI q) n) ∧ lX 8 = f1 ∧ (fR = -1 → f1 = sn_mu rs pr rm1 8 n) ∧ (¬ fR = -1 → f1 = fR) ∧
  ∀ s, s < n → (lX (rs s).toNatClampNeg = nI s → rm s = rm1 s - 1) ∧ (¬ lX (rs s).toNatClampNeg = nI s → rm s = rm1 s)
theorem tu_8 : (8 : Int32).toNatClampNeg = 8 := by decide
theorem tu_bus {post : St2 → Prop} (hp4 : p ≤ 4) (hn : n ≤ 16) (hr : ∀ s, s < n → rs s = 8 ∨ ∃ q, q < p ∧ rs s = nI q) (hfr : fR = -1 ∨ ∃ f, f < n ∧ fR = nI f ∧ rs f = 8) {rm1 : Nat → Int32} (hx : tu_EX n p rs pr rm1 rm lX)
    (hp : ∀ (f1 : Int32) (rm' lX' : Nat → Int32), tu_EF n p fR f1 rs pr rm1 rm' lX' → post (nI p, pK, tC, nI n, sT, tM, f1, pe, dl, hd, tl, os, ga, tx, rs, cs, pr, pd, nx, bX, na, fl, aa, co, ov, mx, rm', sX, lX')) : wX_execute_2 post 1 (nI p) (nI p) pK tC (nI n) sT tM fR pe dl hd tl os ga tx rs cs pr pd nx bX na fl aa co ov mx rm sX lX := by
  obtain ⟨x1, x2⟩ := hx
  have n8 : ∀ q, q < p → ¬ (8 : Int32) = nI q := fun q hq z => by
    have := (nI_eq (a := 8) (b := q) (by omega) (by omega)).mp z
    omega
  have non : ∀ s, s < n → rs s = 8 → ¬ ∃ q, q < p ∧ rs s = nI q ∧ lX q = nI s := by
    rintro s hs e ⟨q, hq, e1, _⟩
    exact n8 q hq (by rw [← e]; exact e1)
  have eb : sn_mu rs pr rm 8 n = sn_mu rs pr rm1 8 n := sn_mu_eq n (fun s hs e => (x2 s hs).2 (non s hs e))
  have onp : ∀ (v : Int32) s q, s < n → q < p → rs s = nI q → ((upd lX 8 v (rs s).toNatClampNeg = nI s) ↔ ∃ q, q < p ∧ rs s = nI q ∧ lX q = nI s) := by
    intro v s q hs hq e
    rw [e, nI_clamp (by omega), pk_un (by omega)]
    constructor
    · intro z; exact ⟨q, hq, rfl, z⟩
    · rintro ⟨q', hq', e1, e2⟩
      have := (nI_eq (a := q) (b := q') (by omega) (by omega)).mp e1
      rw [this]; exact e2
  have idle : ∀ f1, f1 = -1 → (fR = -1 → f1 = sn_mu rs pr rm1 8 n) → (¬ fR = -1 → f1 = fR) → tu_EF n p fR f1 rs pr rm1 rm (upd lX 8 f1) := by
    intro f1 e1 h1 h2
    refine ⟨fun q hq => by rw [pk_un (by omega)]; exact x1 q hq, pk_us, h1, h2, fun s hs => ?_⟩
    rcases hr s hs with e | ⟨q, hq, e⟩
    · rw [e, tu_8, pk_us, e1]
      exact ⟨fun z => absurd z.symm (bs_ne (by omega)), fun _ => (x2 s hs).2 (non s hs e)⟩
    · rw [onp f1 s q hs hq e]
      exact x2 s hs
  have busy : ∀ f1 j, j < n → f1 = nI j → rs j = 8 → (fR = -1 → f1 = sn_mu rs pr rm1 8 n) → (¬ fR = -1 → f1 = fR) → tu_EF n p fR f1 rs pr rm1 (upd rm j (rm j - 1)) (upd lX 8 f1) := by
    intro f1 j hj e1 hj8 h1 h2
    refine ⟨fun q hq => by rw [pk_un (by omega)]; exact x1 q hq, pk_us, h1, h2, fun s hs => ?_⟩
    by_cases z : s = j
    · subst z
      rw [hj8, tu_8, pk_us, pk_us, e1]
      exact ⟨fun _ => by rw [(x2 s hs).2 (non s hs hj8)], fun w => absurd rfl w⟩
    · rw [pk_un z]
      rcases hr s hs with e | ⟨q, hq, e⟩
      · rw [e, tu_8, pk_us, e1]
        exact ⟨fun w => absurd ((nI_eq (by omega) (by omega)).mp w).symm z, fun _ => (x2 s hs).2 (non s hs e)⟩
      · rw [onp f1 s q hs hq e]
        exact x2 s hs
  refine br_t (nI_le (by omega) (by omega)) ?_
  rcases hfr with rfl | ⟨f, hf, rfl, hf8⟩
  · refine br_t rfl (ti_xm hn ?_)
    rcases sn_mu_some rs pr rm 8 n with b | ⟨j, hj, b, hj8⟩
    · rw [b]
      exact ti_busx (Or.inl ⟨rfl, hp _ _ _ (idle _ rfl (fun _ => by rw [← eb, b]) (fun w => absurd rfl w))⟩)
    · rw [b]
      exact ti_busx (Or.inr ⟨j, by omega, rfl, hp _ _ _ (busy _ j hj rfl hj8 (fun _ => by rw [← eb, b]) (fun w => absurd rfl w))⟩)
  · exact br_f (bs_ne (by omega)) (ti_busx (Or.inr ⟨f, by omega, rfl, hp _ _ _ (busy _ f hf rfl hf8 (fun w => absurd w (bs_ne (by omega))) (fun _ => rfl))⟩))
end
end
section
/-! one tick of the component: completions -/
section
variable {pN pK sT tM fR tC sC : Int32} {c n p kk : Nat} {pe dl hd tl os ga tx rs cs pr pd nx bX na fl aa co ov mx rm sX lX : Nat → Int32}
def ti_fr (i : Nat) (fR : Int32) : Int32 := if nI i = fR then -1 else fR
theorem ti_xc50t {post : St2 → Prop} {i y : Nat} {x3 : Int32} (hi : i < 16) (hy : y < 8) (e : nx i = -1) (hp : post (pN, pK, tC, sC, sT, tM, fR, pe, dl, hd, tl, os, ga, tx, rs, cs, pr, pd, nx, bX, na, upd fl y 0, aa, upd co y (co y + 1), ov, upd mx y (ti_gr (mx y) x3), rm, sX, lX)) : wX_complete_50 post (nI i) (nI y) x3 pN pK tC sC sT tM fR pe dl hd tl os ga tx rs cs pr pd nx bX na fl aa co ov mx rm sX lX := by
  have k : vp_in (nI y) 8 := vp_in_nI (by omega) (by omega)
  refine ⟨vp_in_nI (by omega) (by omega), br_t (by rw [nI_clamp (by omega)]; exact e) ⟨k, nm_r (cf_up (by omega)) ⟨k, k, nm_r (by rw [nI_clamp (by omega)]) ⟨k, ti_gx ⟨k, nm_r (by rw [nI_clamp (by omega)]) hp⟩⟩⟩⟩⟩
theorem ti_xc50n {post : St2 → Prop} {i m : Nat} {x2 x3 : Int32} (hi : i < 16) (hm : m < 16) (e : nx i = nI m) (hp : post (pN, pK, tC, sC, sT, tM, fR, pe, dl, hd, tl, os, ga, tx, rs, cs, pr, pd, nx, bX, na, fl, aa, co, ov, mx, upd rm m (cs m), sX, lX)) : wX_complete_50 post (nI i) x2 x3 pN pK tC sC sT tM fR pe dl hd tl os ga tx rs cs pr pd nx bX na fl aa co ov mx rm sX lX := by
  have k : vp_in (nI m) 16 := vp_in_nI (by omega) (by omega)
  have ki : vp_in (nI i) 16 := vp_in_nI (by omega) (by omega)
  refine ⟨ki, br_f (by rw [nI_clamp (by omega), e]; exact bs_ne (by omega)) ⟨ki, ?_⟩⟩
  rw [nI_clamp (by omega), e]
  exact ⟨k, k, nm_r (by rw [nI_clamp (by omega)]) hp⟩
theorem ti_xc {post : St2 → Prop} {i y : Nat} (hi : i < 16) (hy : y < 8) (et : tx i = nI y) (hp : wX_complete_50 post (nI i) (nI y) (tM + 1 - aa y) pN pK tC sC sT tM (ti_fr i fR) pe dl hd tl os ga tx rs cs pr pd nx bX na fl aa co ov mx rm (upd sX i (ti_gr (sX i) (tM + 1 - aa y))) lX) : wpX_complete post (pN, pK, tC, sC, sT, tM, fR, pe, dl, hd, tl, os, ga, tx, rs, cs, pr, pd, nx, bX, na, fl, aa, co, ov, mx, rm, sX, lX) (nI i) := by
  have ki : vp_in (nI i) 16 := vp_in_nI (by omega) (by omega)
  refine ⟨ki, nm_r (by rw [nI_clamp (by omega), et]) ⟨vp_in_nI (by omega) (by omega), nm_r (by rw [nI_clamp (by omega)]) ⟨ki, ti_gx ⟨ki, nm_r (by rw [nI_clamp (by omega)]) ?_⟩⟩⟩⟩
  unfold ti_fr at hp
  by_cases e : nI i = fR
  · rw [if_pos e] at hp
    exact br_t e hp
  · rw [if_neg e] at hp
    exact br_f e hp
/-- s is at its end: it worked, and nothing is left -/
def tu_cp (rs lX rm2 : Nat → Int32) (s : Nat) : Prop := lX (rs s).toNatClampNeg = nI s ∧ rm2 s = 0
def tu_CM (c n i : Nat) (tM f1 : Int32) (tx rs cs pd nx lX aa rm2 fl1 mx1 : Nat → Int32) (fR : Int32) (rm fl mx : Nat → Int32) : Prop :=
  (∀ s, s < n → ((¬ pd s = -1 ∧ (pd s).toNatClampNeg < i ∧ tu_cp rs lX rm2 (pd s).toNatClampNeg) → rm s = cs s) ∧ (¬ (¬ pd s = -1 ∧ (pd s).toNatClampNeg < i ∧ tu_cp rs lX rm2 (pd s).toNatClampNeg) → rm s = rm2 s)) ∧
  (∀ x, x < c → ((∃ s, s < i ∧ tx s = nI x ∧ nx s = -1 ∧ tu_cp rs lX rm2 s) → fl x = 0) ∧ ((¬ ∃ s, s < i ∧ tx s = nI x ∧ nx s = -1 ∧ tu_cp rs lX rm2 s) → fl x = fl1 x)) ∧
  (∀ x, x < c → mx x = mx1 x ∨ ∃ s, s < i ∧ tx s = nI x ∧ nx s = -1 ∧ tu_cp rs lX rm2 s ∧ mx x = ti_gr (mx1 x) (tM + 1 - aa x)) ∧
  (((∃ s, s < i ∧ nI s = f1 ∧ tu_cp rs lX rm2 s) → fR = -1) ∧ ((¬ ∃ s, s < i ∧ nI s = f1 ∧ tu_cp rs lX rm2 s) → fR = f1))
theorem tu_ex {P : Nat → Prop} {i : Nat} (h : ¬ P i) : (∃ s, s < i + 1 ∧ P s) ↔ ∃ s, s < i ∧ P s := by
  constructor
  · rintro ⟨s, hs, hp⟩
    by_cases e : s = i
    · subst e; exact absurd hp h
    · exact ⟨s, by omega, hp⟩
  · rintro ⟨s, hs, hp⟩
    exact ⟨s, by omega, hp⟩
section
variable {f1 : Int32} {rm2 fl1 mx1 : Nat → Int32} {i : Nat}
theorem tu_skip (h : tu_CM c n i tM f1 tx rs cs pd nx lX aa rm2 fl1 mx1 fR rm fl mx) (hno : ¬ tu_cp rs lX rm2 i) : tu_CM c n (i + 1) tM f1 tx rs cs pd nx lX aa rm2 fl1 mx1 fR rm fl mx := by
  obtain ⟨h1, h2, h3, h4⟩ := h
  refine ⟨fun s hs => ?_, fun x hx => ?_, fun x hx => ?_, ?_⟩
  · obtain ⟨a, b⟩ := h1 s hs
    refine ⟨fun z => a ⟨z.1, ?_, z.2.2⟩, fun z => b (fun w => z ⟨w.1, by have := w.2.1; omega, w.2.2⟩)⟩
    by_cases e : (pd s).toNatClampNeg = i
    · rw [e] at z; exact absurd z.2.2 hno
    · have := z.2.1; omega
  · rw [tu_ex (fun z => hno z.2.2)]
    exact h2 x hx
  · rcases h3 x hx with z | ⟨s, hs, z⟩
    · exact Or.inl z
    · exact Or.inr ⟨s, by omega, z⟩
  · rw [tu_ex (fun z => hno z.2)]
    exact h4
theorem tu_fr (hi : i < 2 ^ 31) (h : ((∃ s, s < i ∧ nI s = f1 ∧ tu_cp rs lX rm2 s) → fR = -1) ∧ ((¬ ∃ s, s < i ∧ nI s = f1 ∧ tu_cp rs lX rm2 s) → fR = f1)) (hc : tu_cp rs lX rm2 i) : ((∃ s, s < i + 1 ∧ nI s = f1 ∧ tu_cp rs lX rm2 s) → ti_fr i fR = -1) ∧ ((¬ ∃ s, s < i + 1 ∧ nI s = f1 ∧ tu_cp rs lX rm2 s) → ti_fr i fR = f1) := by
  obtain ⟨a, b⟩ := h
  unfold ti_fr
  by_cases z : ∃ s, s < i ∧ nI s = f1 ∧ tu_cp rs lX rm2 s
  · have e := a z
    obtain ⟨s, hs, w⟩ := z
    rw [if_neg (by rw [e]; exact bs_ne hi)]
    exact ⟨fun _ => e, fun q => absurd ⟨s, by omega, w⟩ q⟩
  · have e := b z
    rw [e]
    by_cases q : nI i = f1
    · rw [if_pos q]
      exact ⟨fun _ => rfl, fun w => absurd ⟨i, by omega, q, hc⟩ w⟩
    · rw [if_neg q]
      refine ⟨fun w => ?_, fun _ => rfl⟩
      rw [tu_ex (fun y => q y.1)] at w
      exact absurd w z
theorem tu_tail (h : tu_CM c n i tM f1 tx rs cs pd nx lX aa rm2 fl1 mx1 fR rm fl mx) (hi : i < n) (hn : n ≤ 16) (hc : tu_cp rs lX rm2 i) {y : Nat} (hy : y < c) (hcc : c ≤ 8) (et : tx i = nI y) (en : nx i = -1) (hpd : ∀ s, s < n → ¬ pd s = -1 → nx (pd s).toNatClampNeg = nI s)
    (hun : ∀ s, s < i → tx s = nI y → tu_cp rs lX rm2 s → False) : tu_CM c n (i + 1) tM f1 tx rs cs pd nx lX aa rm2 fl1 mx1 (ti_fr i fR) rm (upd fl y 0) (upd mx y (ti_gr (mx y) (tM + 1 - aa y))) := by
  obtain ⟨h1, h2, h3, h4⟩ := h
  refine ⟨fun s hs => ?_, fun x hx => ?_, fun x hx => ?_, tu_fr (by omega) h4 hc⟩
  · obtain ⟨a, b⟩ := h1 s hs
    refine ⟨fun z => a ⟨z.1, ?_, z.2.2⟩, fun z => b (fun w => z ⟨w.1, by have := w.2.1; omega, w.2.2⟩)⟩
    by_cases e : (pd s).toNatClampNeg = i
    · have := hpd s hs z.1
      rw [e, en] at this
      exact absurd this.symm (bs_ne (by omega))
    · have := z.2.1; omega
  · by_cases e : x = y
    · subst e
      rw [pk_us]
      exact ⟨fun _ => rfl, fun w => absurd ⟨i, by omega, et, en, hc⟩ w⟩
    · rw [pk_un e, tu_ex (fun z => e ((nI_eq (by omega) (by omega)).mp (et.symm.trans z.1)).symm)]
      exact h2 x hx
  · by_cases e : x = y
    · subst e
      rw [pk_us]
      refine Or.inr ⟨i, by omega, et, en, hc, ?_⟩
      rcases h3 x hx with z | ⟨s, hs, z1, _, z3, _⟩
      · rw [z]
      · exact absurd z3 (fun w => hun s hs z1 w)
    · rw [pk_un e]
      rcases h3 x hx with z | ⟨s, hs, z⟩
      · exact Or.inl z
      · exact Or.inr ⟨s, by omega, z⟩
theorem tu_next (h : tu_CM c n i tM f1 tx rs cs pd nx lX aa rm2 fl1 mx1 fR rm fl mx) (hi : i < n) (hn : n ≤ 16) (hc : tu_cp rs lX rm2 i) {m : Nat} (hm : m < n) (en : nx i = nI m) (epd : pd m = nI i) (hpd : ∀ s, s < n → ¬ pd s = -1 → nx (pd s).toNatClampNeg = nI s) : tu_CM c n (i + 1) tM f1 tx rs cs pd nx lX aa rm2 fl1 mx1 (ti_fr i fR) (upd rm m (cs m)) fl mx := by
  obtain ⟨h1, h2, h3, h4⟩ := h
  refine ⟨fun s hs => ?_, fun x hx => ?_, fun x hx => ?_, tu_fr (by omega) h4 hc⟩
  · by_cases q : s = m
    · subst q
      rw [pk_us]
      refine ⟨fun _ => rfl, fun w => absurd ⟨by rw [epd]; exact bs_ne (by omega), by rw [epd, nI_clamp (by omega)]; omega, by rw [epd, nI_clamp (by omega)]; exact hc⟩ w⟩
    · rw [pk_un q]
      obtain ⟨a, b⟩ := h1 s hs
      refine ⟨fun z => a ⟨z.1, ?_, z.2.2⟩, fun z => b (fun w => z ⟨w.1, by have := w.2.1; omega, w.2.2⟩)⟩
      by_cases e : (pd s).toNatClampNeg = i
      · have := hpd s hs z.1
        rw [e, en] at this
        exact absurd ((nI_eq (by omega) (by omega)).mp this).symm q
      · have := z.2.1; omega
  · rw [tu_ex (fun z => bs_ne (i := m) (by omega) (en.symm.trans z.2.1))]
    exact h2 x hx
  · rcases h3 x hx with z | ⟨s, hs, z⟩
    · exact Or.inl z
    · exact Or.inr ⟨s, by omega, z⟩
end
theorem tu_cmp {post : St2 → Prop} (hc : c ≤ 8) (hn : n ≤ 16) (hp4 : p ≤ 4) (ht : ∀ s, s < n → ∃ y, y < c ∧ tx s = nI y) (hr : ∀ s, s < n → rs s = 8 ∨ ∃ q, q < p ∧ rs s = nI q) (hcs : ∀ s, s < n → ¬ cs s = 0)
    (hpd : ∀ s, s < n → ¬ pd s = -1 → (pd s).toNatClampNeg < s ∧ tx (pd s).toNatClampNeg = tx s ∧ nx (pd s).toNatClampNeg = nI s) (hnx : ∀ s, s < n → nx s = -1 ∨ ∃ m, m < n ∧ nx s = nI m ∧ pd m = nI s)
    {f1 : Int32} {rm2 fl1 mx1 : Nat → Int32} (hU : ∀ s q, s < n → q < n → tx s = tx q → lX (rs s).toNatClampNeg = nI s → lX (rs q).toNatClampNeg = nI q → s = q)
    (hp : ∀ (fR' : Int32) (fl' co' mx' rm' sX' : Nat → Int32), tu_CM c n n tM f1 tx rs cs pd nx lX aa rm2 fl1 mx1 fR' rm' fl' mx' → post (pN, pK, tC, nI n, sT, tM, fR', pe, dl, hd, tl, os, ga, tx, rs, cs, pr, pd, nx, bX, na, fl', aa, co', ov, mx', rm', sX', lX)) :
    ∀ (d i : Nat) (fR : Int32) (fl co mx rm sX : Nat → Int32), i + d = n → tu_CM c n i tM f1 tx rs cs pd nx lX aa rm2 fl1 mx1 fR rm fl mx → wX_takeCompletions_2 post (d + 1) (nI i) pN pK tC (nI n) sT tM fR pe dl hd tl os ga tx rs cs pr pd nx bX na fl aa co ov mx rm sX lX := by
  intro d
  induction d with
  | zero =>
    intro i fR fl co mx rm sX hi hcm
    have e : i = n := by omega
    subst e
    exact br_t (nI_le (by omega) (by omega)) (hp fR fl co mx rm sX hcm)
  | succ d ih =>
    intro i fR fl co mx rm sX hi hcm
    have g : ¬ nI n ≤ nI i := nI_ge (by omega) (by omega)
    have k : vp_in (nI i) 16 := vp_in_nI (by omega) (by omega)
    have cl : (nI i).toNatClampNeg = i := nI_clamp (by omega)
    have k9 : vp_in (rs i) 9 := by
      rcases hr i (by omega) with e | ⟨q, hq, e⟩
      · rw [e]; exact vp_in_nI (n := 8) (by omega) (by omega)
      · rw [e]; exact vp_in_nI (by omega) (by omega)
    have hpx : ∀ s, s < n → ¬ pd s = -1 → nx (pd s).toNatClampNeg = nI s := fun s hs z => (hpd s hs z).2.2
    refine br_f g ⟨k, ?_⟩
    rw [cl]
    refine ⟨k9, ?_⟩
    by_cases w : lX (rs i).toNatClampNeg = nI i
    · -- nothing before it in its chain worked
      have er : rm i = rm2 i := (hcm.1 i (by omega)).2 (fun z => by
        obtain ⟨a1, a2, a3⟩ := hpd i (by omega) z.1
        have := hU _ i (by omega) (by omega) a2 z.2.2.1 w
        omega)
      refine br_t w ⟨k, ?_⟩
      by_cases z : rm i = 0
      · have hcp : tu_cp rs lX rm2 i := ⟨w, by rw [← er]; exact z⟩
        obtain ⟨y, hy, et⟩ := ht i (by omega)
        refine br_t z ?_
        rcases hnx i (by omega) with en | ⟨m, hm, en, epd⟩
        · exact ti_xc (by omega) (by omega) et (ti_xc50t (by omega) (by omega) en (nm_r (nI_1 i) (ih (i + 1) _ _ _ _ _ _ (by omega) (tu_tail hcm (by omega) hn hcp hy hc et en hpx (fun s hs e1 e2 => by
            have := hU s i (by omega) (by omega) (by rw [e1, et]) e2.1 w
            omega)))))
        · exact ti_xc (by omega) (by omega) et (ti_xc50n (by omega) (by omega) en (nm_r (nI_1 i) (ih (i + 1) _ _ _ _ _ _ (by omega) (tu_next hcm (by omega) hn hcp hm en epd hpx))))
      · exact br_f z (nm_r (nI_1 i) (ih (i + 1) _ _ _ _ _ _ (by omega) (tu_skip hcm (fun q => z (by rw [er]; exact q.2)))))
    · exact br_f w (nm_r (nI_1 i) (ih (i + 1) _ _ _ _ _ _ (by omega) (tu_skip hcm (fun q => w q.1))))
end
end
section
/-! the component's tick as a step of the trace -/
def pv_C (c n p : Nat) (pe dl hd tl tx rs cs pr pd nx : Nat → Int32) : Prop :=
  (1 ≤ c ∧ c ≤ 8 ∧ n ≤ 16 ∧ 1 ≤ p ∧ p ≤ 4) ∧ (∀ s, s < n → ∃ y, y < c ∧ tx s = nI y) ∧ (∀ s, s < n → rs s = 8 ∨ ∃ q, q < p ∧ rs s = nI q) ∧ (∀ s, s < n → ∃ v, 1 ≤ v ∧ v ≤ 20 ∧ cs s = nI v) ∧
  (∀ x, x < c → ∃ a b, 1 ≤ b ∧ b ≤ a ∧ a ≤ 200 ∧ pe x = nI a ∧ dl x = nI b) ∧ sn_Ch tx hd tl pd nx c n ∧ (∀ x, x < c → ¬ hd x = -1) ∧ (∀ i j, i < n → j < n → rs i = rs j → pr i = pr j → i = j)
section
variable {c n p : Nat} {pe dl hd tl tx rs cs pr pd nx : Nat → Int32}
theorem pv_x (h : pv_C c n p pe dl hd tl tx rs cs pr pd nx) {s : Nat} (hs : s < n) : tx s = nI (an_C tx s) ∧ an_C tx s < c := by
  obtain ⟨y, hy, e⟩ := h.2.1 s hs
  have := h.1
  unfold an_C
  rw [e, nI_clamp (by omega)]
  exact ⟨rfl, hy⟩
theorem pv_xe (h : pv_C c n p pe dl hd tl tx rs cs pr pd nx) {s q : Nat} (hs : s < n) (hq : q < n) : an_C tx s = an_C tx q ↔ tx s = tx q := by
  have a := (pv_x h hs).1
  have b := (pv_x h hq).1
  exact ⟨fun e => by rw [a, b, e], fun e => by unfold an_C; rw [e]⟩
theorem pv_xx (h : pv_C c n p pe dl hd tl tx rs cs pr pd nx) {s x : Nat} (hs : s < n) (hx : x < c) : tx s = nI x ↔ an_C tx s = x := by
  obtain ⟨a, b⟩ := pv_x h hs
  have := h.1
  rw [a]
  exact nI_eq (by omega) (by omega)
theorem pv_cs (h : pv_C c n p pe dl hd tl tx rs cs pr pd nx) {s : Nat} (hs : s < n) : cs s = nI (an_C cs s) ∧ 1 ≤ an_C cs s ∧ an_C cs s ≤ 20 := an_v (by omega) (h.2.2.2.1 s hs)
theorem pv_pe (h : pv_C c n p pe dl hd tl tx rs cs pr pd nx) {x : Nat} (hx : x < c) : (pe x = nI (an_C pe x) ∧ 1 ≤ an_C pe x ∧ an_C pe x ≤ 200) ∧ (dl x = nI (an_C dl x) ∧ 1 ≤ an_C dl x ∧ an_C dl x ≤ an_C pe x) := by
  obtain ⟨a, b, h1, h2, h3, e1, e2⟩ := h.2.2.2.2.1 x hx
  unfold an_C
  rw [e1, e2, nI_clamp (by omega), nI_clamp (by omega)]
  exact ⟨⟨rfl, by omega, h3⟩, rfl, h1, h2⟩
theorem pv_pd (h : pv_C c n p pe dl hd tl tx rs cs pr pd nx) {s : Nat} (hs : s < n) : (pd s = -1 ∧ ∀ j, j < s → tx j ≠ tx s) ∨ ∃ q, q < s ∧ pd s = nI q ∧ tx q = tx s ∧ nx q = nI s := by
  obtain ⟨⟨_, _, hn, _⟩, _, _, _, _, ⟨_, _, h3, h4⟩, _⟩ := h
  rw [h3 s hs]
  rcases sn_L_some tx (tx s) s with ⟨a, b⟩ | ⟨q, hq, a, b, d⟩
  · exact Or.inl ⟨a, b⟩
  · refine Or.inr ⟨q, hq, a, b, ?_⟩
    rw [h4 q (by omega)]
    rcases sn_F_some tx (tx q) (n - (q + 1)) (q + 1) with ⟨_, e⟩ | ⟨j, j1, j2, j3, j4, j5⟩
    · exact absurd b.symm (e s (by omega) (by omega))
    · by_cases z : j = s
      · rw [j3, z]
      · by_cases w : j < s
        · exact absurd (j4.trans b) (d j (by omega) w)
        · exact absurd b.symm (j5 s (by omega) (by omega))
theorem pv_nx (h : pv_C c n p pe dl hd tl tx rs cs pr pd nx) {s : Nat} (hs : s < n) : nx s = -1 ∨ ∃ m, m < n ∧ nx s = nI m ∧ pd m = nI s ∧ tx m = tx s := by
  obtain ⟨⟨_, _, hn, _⟩, _, _, _, _, ⟨_, _, h3, h4⟩, _⟩ := h
  rw [h4 s hs]
  rcases sn_F_some tx (tx s) (n - (s + 1)) (s + 1) with ⟨a, _⟩ | ⟨m, m1, m2, m3, m4, m5⟩
  · exact Or.inl a
  · refine Or.inr ⟨m, by omega, m3, ?_, m4⟩
    rw [h3 m (by omega)]
    rcases sn_L_some tx (tx m) m with ⟨_, b⟩ | ⟨q, hq, a, b, d⟩
    · exact absurd m4.symm (b s (by omega))
    · by_cases z : q = s
      · rw [a, z]
      · by_cases w : q < s
        · exact absurd m4.symm (d s w (by omega))
        · exact absurd (b.trans m4) (m5 q (by omega) (by omega))
theorem pv_hd (h : pv_C c n p pe dl hd tl tx rs cs pr pd nx) : ∀ x, x < c → ∃ m, m < n ∧ hd x = nI m ∧ tx m = nI x ∧ pd m = -1 ∧ ∀ s, s < n → tx s = nI x → pd s = -1 → s = m := by
  intro x hx
  have hh := h.2.2.2.2.2.2.1 x hx
  have hc1 := h.2.2.2.2.2.1.1 x hx
  have hn := h.1.2.2.1
  rcases sn_F_some tx (nI x) n 0 with ⟨a, _⟩ | ⟨m, _, m2, m3, m4, m5⟩
  · exact absurd (by rw [hc1, a]) hh
  · refine ⟨m, by omega, by rw [hc1, m3], m4, ?_, fun s hs e1 e2 => ?_⟩
    · rcases pv_pd h (by omega : m < n) with z | ⟨q, hq, _, z, _⟩
      · exact z.1
      · exact absurd (z.trans m4) (m5 q (by omega) hq)
    · rcases pv_pd h hs with z | ⟨q, hq, z, _⟩
      · by_cases w : s < m
        · exact absurd e1 (m5 s (by omega) w)
        · by_cases y : s = m
          · exact y
          · exact absurd (m4.trans e1.symm) (z.2 m (by omega))
      · rw [e2] at z
        exact absurd z.symm (bs_ne (by omega))
theorem pv_tk (h : pv_C c n p pe dl hd tl tx rs cs pr pd nx) : tk_Cf n c (an_C tx) pd nx (an_C cs) := by
  have hn := h.1.2.2.1
  refine ⟨hn, fun s hs => (pv_x h hs).2, fun s hs => (pv_cs h hs).2.1, fun s q hs hq e e1 e2 => ?_, fun x hx => ?_, fun s hs e => ?_, fun s hs e => ?_⟩
  · have et := (pv_xe h hs hq).mp e
    rcases pv_pd h hs with a | ⟨j, hj, a, _⟩
    · rcases pv_pd h hq with b | ⟨j, hj, b, _⟩
      · by_cases w : s < q
        · exact absurd et (b.2 s w)
        · by_cases y : s = q
          · exact y
          · exact absurd et.symm (a.2 q (by omega))
      · rw [e2] at b
        exact absurd b.symm (bs_ne (by omega))
    · rw [e1] at a
      exact absurd a.symm (bs_ne (by omega))
  · obtain ⟨m, hm, _, et, ep, _⟩ := pv_hd h x hx
    exact ⟨m, hm, (pv_xx h hm hx).mp et, ep⟩
  · rcases pv_pd h hs with a | ⟨q, hq, a, b, d⟩
    · exact absurd a.1 e
    · rw [a, nI_clamp (by omega)]
      exact ⟨hq, (pv_xe h (by omega) hs).mpr b, d⟩
  · rcases pv_nx h hs with a | ⟨m, hm, a, b, d⟩
    · exact absurd a e
    · rw [a, nI_clamp (by omega)]
      exact ⟨hm, (pv_xe h hm hs).mpr d, b⟩
theorem pv_H (h : pv_C c n p pe dl hd tl tx rs cs pr pd nx) : an_H n pe dl tx cs pd := by
  have hn := h.1.2.2.1
  refine ⟨hn, fun j hj => ?_, fun s hs => ?_, fun s hs => pv_cs h hs, fun s hs => ?_, fun s hs => ?_⟩
  · rcases pv_pd h hj with a | ⟨q, hq, a, _⟩
    · exact Or.inl a.1
    · exact Or.inr ⟨q, by omega, a⟩
  · obtain ⟨y, hy, e⟩ := h.2.1 s hs
    have := h.1
    exact ⟨y, by omega, e⟩
  · exact (pv_pe h (pv_x h hs).2).1
  · have := pv_pe h (pv_x h hs).2
    exact ⟨this.2.1, this.2.2.1, Nat.le_trans this.2.2.2 this.1.2.2⟩
end
/-- the state at the end of a trace -/
def pv_L (c n H : Nat) (na fl aa rm : Nat → Int32) (naN flN aaN rmN : Nat → Nat) : Prop :=
  (∀ x, x < c → na x = nI (naN x) ∧ naN x ≤ H + 400) ∧ (∀ x, x < c → fl x = nI (flN x)) ∧ (∀ x, x < c → aa x = nI (aaN x)) ∧ (∀ s, s < n → rm s = nI (rmN s))
theorem pv_1 : nI 1 = 1 := by decide
section
variable {c n p H : Nat} {fR f1 fR' : Int32} {pe dl hd tl os ga tx rs cs pr pd nx na fl aa ov mx rm rm1 rm2 lX rm' fl' mx' : Nat → Int32} {naN flN aaN rmN : Nat → Nat}
theorem pv_mid (h : pv_C c n p pe dl hd tl tx rs cs pr pd nx) (hH : H ≤ 100000) (hl : pv_L c n H na fl aa rm naN flN aaN rmN) (hfl : ∀ x, x < c → flN x ≤ 1) (hra : tu_RA n c (nI H) tx pd cs na fl rm rm1) : ∀ s, s < n → rm1 s = nI (tk_ro (an_C tx) pd (an_C cs) H naN flN rmN s) := by
  intro s hs
  obtain ⟨l1, l2, l3, l4⟩ := hl
  obtain ⟨et, hx⟩ := pv_x h hs
  have hxc : (tx s).toNatClampNeg = an_C tx s := rfl
  have a := l1 _ hx
  have b := l2 _ hx
  have f := hfl _ hx
  have e1 : na (an_C tx s) = nI H ↔ naN (an_C tx s) = H := by rw [a.1, nI_eq (by omega) (by omega)]
  have e2 : fl (an_C tx s) = 0 ↔ flN (an_C tx s) = 0 := by rw [b, ← nI_0, nI_eq (by omega) (by omega)]
  obtain ⟨r1, r2⟩ := hra s hs
  rw [hxc, e1, e2] at r1 r2
  unfold tk_ro
  by_cases z : (naN (an_C tx s) = H ∧ flN (an_C tx s) = 0) ∧ pd s = -1
  · rw [if_pos z, r1 ⟨⟨hx, z.1⟩, z.2⟩]
    exact (pv_cs h hs).1
  · rw [if_neg z, r2 (fun w => z ⟨w.1.2, w.2⟩)]
    exact l4 s hs
noncomputable def pv_d (rs lX : Nat → Int32) (s : Nat) : Nat := @ite _ (lX (rs s).toNatClampNeg = nI s) (Classical.propDecidable _) 1 0
theorem pv_d1 {s : Nat} : pv_d rs lX s = 1 ↔ lX (rs s).toNatClampNeg = nI s := by
  unfold pv_d
  by_cases q : lX (rs s).toNatClampNeg = nI s
  · rw [if_pos q]; exact ⟨fun _ => q, fun _ => rfl⟩
  · rw [if_neg q]; exact ⟨fun z => absurd z (by decide), fun z => absurd z q⟩
theorem pv_d01 {s : Nat} : pv_d rs lX s = 0 ∨ pv_d rs lX s = 1 := by
  by_cases q : lX (rs s).toNatClampNeg = nI s
  · exact Or.inr (pv_d1.mpr q)
  · refine Or.inl ?_
    unfold pv_d
    rw [if_neg q]
/-- who worked had work -/
theorem pv_who (h : pv_C c n p pe dl hd tl tx rs cs pr pd nx) {ro : Nat → Nat} (hro : ∀ s, s < n → rm1 s = nI (ro s)) (hro2 : ∀ s, s < n → ro s < 2 ^ 31) (hef : tu_EF n p fR f1 rs pr rm1 rm2 lX) (hfr : fR = -1 ∨ ∃ f, f < n ∧ fR = nI f ∧ rs f = 8 ∧ 0 < ro f) :
    (∀ s, s < n → lX (rs s).toNatClampNeg = nI s → 0 < ro s) ∧
    (∀ s, s < n → ¬ rs s = 8 → 0 < ro s → ∃ j, j < n ∧ rs j = rs s ∧ lX (rs j).toNatClampNeg = nI j ∧ (j = s ∨ pr s < pr j)) ∧
    (∀ s, s < n → rs s = 8 → 0 < ro s → ∃ j, j < n ∧ rs j = 8 ∧ lX (rs j).toNatClampNeg = nI j) ∧
    (∀ j, j < n → rs j = 8 → lX (rs j).toNatClampNeg = nI j → (fR = -1 ∧ ∀ s, s < n → rs s = 8 → 0 < ro s → s = j ∨ pr s < pr j) ∨ fR = nI j) ∧
    (∀ j, j < n → f1 = nI j → rs j = 8) := by
  obtain ⟨⟨_, _, hn, _, hp4⟩, f1', f2, f3, f4, f5, f6, hu⟩ := h
  obtain ⟨x1, x2, x3, x4, _⟩ := hef
  have pos : ∀ s, s < n → (0 < rm1 s ↔ 0 < ro s) := by
    intro s hs
    rw [hro s hs, ← nI_0, nI_ltI (by omega) (hro2 s hs)]
  have best : ∀ s j, s < n → j < n → rs s = rs j → pr s ≤ pr j → s = j ∨ pr s < pr j := by
    intro s j hs hj e1 e2
    by_cases z : pr s = pr j
    · exact Or.inl (hu s j hs hj e1 z)
    · exact Or.inr (Int32.lt_of_le_of_ne e2 z)
  have bus : ∀ j, j < n → f1 = nI j → rs j = 8 ∧ 0 < ro j ∧ ((fR = -1 ∧ ∀ s, s < n → rs s = 8 → 0 < ro s → s = j ∨ pr s < pr j) ∨ fR = nI j) := by
    intro j hj e
    rcases hfr with z | ⟨f, hf, z, z8, zp⟩
    · rcases sn_mu_sp rs pr rm1 8 n (by omega) with ⟨a, _⟩ | ⟨m, hm, a, b, d, g⟩
      · rw [x3 z, a] at e
        exact absurd e.symm (bs_ne (by omega))
      · rw [x3 z, a] at e
        have em := (nI_eq (by omega) (by omega)).mp e
        subst em
        refine ⟨b, (pos m hm).mp d, Or.inl ⟨z, fun s hs e8 hp => best s m hs hm (by rw [e8, b]) (g s hs e8 ((pos s hs).mpr hp))⟩⟩
    · have ne : ¬ fR = -1 := by rw [z]; exact bs_ne (by omega)
      rw [x4 ne, z] at e
      have em := (nI_eq (by omega) (by omega)).mp e
      subst em
      exact ⟨z8, zp, Or.inr z⟩
  refine ⟨fun s hs e => ?_, fun s hs n8 hp => ?_, fun s hs e8 hp => ?_, fun j hj e8 e => ?_, fun j hj e => (bus j hj e).1⟩
  · rcases f2 s hs with e8 | ⟨q, hq, eq⟩
    · rw [e8, tu_8, x2] at e
      exact (bus s hs e).2.1
    · rw [eq, nI_clamp (by omega), x1 q hq] at e
      rcases sn_mu_sp rs pr rm1 (nI q) n (by omega) with ⟨a, _⟩ | ⟨m, hm, a, b, d, _⟩
      · rw [a] at e
        exact absurd e.symm (bs_ne (by omega))
      · rw [a] at e
        have em := (nI_eq (by omega) (by omega)).mp e
        subst em
        exact (pos m hm).mp d
  · rcases f2 s hs with e8 | ⟨q, hq, eq⟩
    · exact absurd e8 n8
    · rcases sn_mu_sp rs pr rm1 (nI q) n (by omega) with ⟨_, a⟩ | ⟨m, hm, a, b, d, g⟩
      · exact absurd ((pos s hs).mpr hp) (a s hs eq)
      · refine ⟨m, hm, by rw [b, eq], by rw [b, nI_clamp (by omega), x1 q hq, a], ?_⟩
        rcases best s m hs hm (by rw [b, eq]) (g s hs eq ((pos s hs).mpr hp)) with z | z
        · exact Or.inl z.symm
        · exact Or.inr z
  · rcases hfr with z | ⟨f, hf, z, z8, zp⟩
    · rcases sn_mu_sp rs pr rm1 8 n (by omega) with ⟨_, a⟩ | ⟨m, hm, a, b, d, g⟩
      · exact absurd ((pos s hs).mpr hp) (a s hs e8)
      · exact ⟨m, hm, b, by rw [b, tu_8, x2, x3 z, a]⟩
    · have ne : ¬ fR = -1 := by rw [z]; exact bs_ne (by omega)
      exact ⟨f, hf, z8, by rw [z8, tu_8, x2, x4 ne, z]⟩
  · rw [e8, tu_8, x2] at e
    exact (bus j hj e).2.2
end
end
section
/-! the component's tick: a step of the trace over naturals -/
section
variable {c n p H : Nat} {fR f1 fR' : Int32} {pe dl hd tl os ga tx rs cs pr pd nx na fl aa ov mx rm rm1 rm2 lX rm' fl' mx' : Nat → Int32} {naN flN aaN rmN : Nat → Nat}
noncomputable def pv_na (pe ga : Nat → Int32) (H : Nat) (naN : Nat → Nat) (x : Nat) : Nat := if naN x = H then H + an_C pe x + an_C ga x else naN x
noncomputable def pv_aa (H : Nat) (naN flN aaN : Nat → Nat) (x : Nat) : Nat := if naN x = H ∧ flN x = 0 then H else aaN x
noncomputable def pv_fl (fl' : Nat → Int32) (x : Nat) : Nat := (fl' x).toNatClampNeg
noncomputable def pv_rm (rm' : Nat → Int32) (s : Nat) : Nat := (rm' s).toNatClampNeg
/-- what the phases leave is a step of the trace -/
theorem pv_step (h : pv_C c n p pe dl hd tl tx rs cs pr pd nx) (hH : H ≤ 100000) (hga : ∀ x, x < c → ga x = nI (an_C ga x) ∧ an_C ga x ≤ 200) (hl : pv_L c n H na fl aa rm naN flN aaN rmN) (K : ∀ x, x < c → flN x ≤ 1) (hrm : ∀ s, s < n → tk_ro (an_C tx) pd (an_C cs) H naN flN rmN s ≤ an_C cs s)
    (hfr : fR = -1 ∨ ∃ f, f < n ∧ fR = nI f ∧ rs f = 8 ∧ 0 < tk_ro (an_C tx) pd (an_C cs) H naN flN rmN f)
    (hra : tu_RA n c (nI H) tx pd cs na fl rm rm1) (hef : tu_EF n p fR f1 rs pr rm1 rm2 lX)
    (hcm : tu_CM c n n (nI H) f1 tx rs cs pd nx lX (tu_mk (fun x => na x = nI H ∧ fl x = 0) (fun _ => nI H) aa c) rm2 (tu_mk (fun x => na x = nI H ∧ fl x = 0) (fun _ => 1) fl c) mx fR' rm' fl' mx') :
    tk_St n c (an_C tx) rs pr pd nx (an_C cs) (an_C pe) (an_C ga) H naN flN aaN rmN (pv_d rs lX) fR (pv_na pe ga H naN) (pv_fl fl') (pv_aa H naN flN aaN) (pv_rm rm') fR' ∧
    pv_L c n (H + 1) (tu_mk (fun x => na x = nI H) (fun x => nI H + pe x + ga x) na c) fl' (tu_mk (fun x => na x = nI H ∧ fl x = 0) (fun _ => nI H) aa c) rm' (pv_na pe ga H naN) (pv_fl fl') (pv_aa H naN flN aaN) (pv_rm rm') ∧
    (∀ x, x < c → mx' x = mx x ∨ ∃ s, s < n ∧ an_C tx s = x ∧ nx s = -1 ∧ pv_d rs lX s = 1 ∧ tk_ro (an_C tx) pd (an_C cs) H naN flN rmN s = 1 ∧ mx' x = ti_gr (mx x) (nI H + 1 - nI (pv_aa H naN flN aaN x))) := by
  have hcc := h.1
  have tkf := pv_tk h
  have hro := pv_mid h hH hl K hra
  have hro2 : ∀ s, s < n → tk_ro (an_C tx) pd (an_C cs) H naN flN rmN s < 2 ^ 31 := fun s hs => by
    have a := hrm s hs
    have b := (pv_cs h hs).2.2
    omega
  obtain ⟨w1, w2, w3, w4, w5⟩ := pv_who h hro hro2 hef hfr
  obtain ⟨l1, l2, l3, l4⟩ := hl
  obtain ⟨x1, x2, x3, x4, x5⟩ := hef
  obtain ⟨m1, m2, m3, m4⟩ := hcm
  have ena : ∀ x, x < c → (na x = nI H ↔ naN x = H) := fun x hx => by
    have a := l1 x hx
    rw [a.1, nI_eq (by omega) (by omega)]
  have efl : ∀ x, x < c → (fl x = 0 ↔ flN x = 0) := fun x hx => by
    have b := K x hx
    rw [l2 x hx, ← nI_0, nI_eq (by omega) (by omega)]
  have ear : ∀ x, x < c → ((na x = nI H ∧ fl x = 0) ↔ (naN x = H ∧ flN x = 0)) := fun x hx => by rw [ena x hx, efl x hx]
  -- behind the execution
  have erm2 : ∀ s, s < n → rm2 s = nI (tk_ro (an_C tx) pd (an_C cs) H naN flN rmN s - pv_d rs lX s) := by
    intro s hs
    by_cases q : lX (rs s).toNatClampNeg = nI s
    · have p0 := w1 s hs q
      rw [(x5 s hs).1 q, hro s hs, pv_d1.mpr q, show (1 : Int32) = nI 1 from rfl, pk_sub (by omega)]
    · rw [(x5 s hs).2 q, hro s hs]
      rcases pv_d01 (rs := rs) (lX := lX) (s := s) with z | z
      · rw [z]; rfl
      · exact absurd (pv_d1.mp z) q
  have ecp : ∀ s, s < n → (tu_cp rs lX rm2 s ↔ (pv_d rs lX s = 1 ∧ tk_ro (an_C tx) pd (an_C cs) H naN flN rmN s = 1)) := by
    intro s hs
    unfold tu_cp
    rw [← pv_d1]
    constructor
    · rintro ⟨a, b⟩
      refine ⟨a, ?_⟩
      have p0 := w1 s hs (pv_d1.mp a)
      have bb := hro2 s hs
      rw [erm2 s hs, a, ← nI_0, nI_eq (by omega) (by omega)] at b
      omega
    · rintro ⟨a, b⟩
      refine ⟨a, ?_⟩
      rw [erm2 s hs, a, b]; rfl
  have epd : ∀ s, s < n → ¬ pd s = -1 → (pd s).toNatClampNeg < n := fun s hs e => by
    have := (tkf.2.2.2.2.2.1 s hs e).1
    omega
  have erm' : ∀ s, s < n → ((¬ pd s = -1 ∧ pv_d rs lX (pd s).toNatClampNeg = 1 ∧ tk_ro (an_C tx) pd (an_C cs) H naN flN rmN (pd s).toNatClampNeg = 1) → rm' s = nI (an_C cs s)) ∧ (¬ (¬ pd s = -1 ∧ pv_d rs lX (pd s).toNatClampNeg = 1 ∧ tk_ro (an_C tx) pd (an_C cs) H naN flN rmN (pd s).toNatClampNeg = 1) → rm' s = nI (tk_ro (an_C tx) pd (an_C cs) H naN flN rmN s - pv_d rs lX s)) := by
    intro s hs
    obtain ⟨a, b⟩ := m1 s hs
    refine ⟨fun z => ?_, fun z => ?_⟩
    · rw [a ⟨z.1, epd s hs z.1, (ecp _ (epd s hs z.1)).mpr z.2⟩]
      exact (pv_cs h hs).1
    · rw [b (fun w => z ⟨w.1, (ecp _ (epd s hs w.1)).mp w.2.2⟩)]
      exact erm2 s hs
  have exs : ∀ x, x < c → ((∃ s, s < n ∧ tx s = nI x ∧ nx s = -1 ∧ tu_cp rs lX rm2 s) ↔ ∃ s, s < n ∧ an_C tx s = x ∧ nx s = -1 ∧ pv_d rs lX s = 1 ∧ tk_ro (an_C tx) pd (an_C cs) H naN flN rmN s = 1) := by
    intro x hx
    constructor
    · rintro ⟨s, hs, a, b, d⟩
      exact ⟨s, hs, (pv_xx h hs hx).mp a, b, (ecp s hs).mp d⟩
    · rintro ⟨s, hs, a, b, d⟩
      exact ⟨s, hs, (pv_xx h hs hx).mpr a, b, (ecp s hs).mpr d⟩
  have efl' : ∀ x, x < c → ((∃ s, s < n ∧ an_C tx s = x ∧ nx s = -1 ∧ pv_d rs lX s = 1 ∧ tk_ro (an_C tx) pd (an_C cs) H naN flN rmN s = 1) → fl' x = 0) ∧ ((¬ ∃ s, s < n ∧ an_C tx s = x ∧ nx s = -1 ∧ pv_d rs lX s = 1 ∧ tk_ro (an_C tx) pd (an_C cs) H naN flN rmN s = 1) → fl' x = nI (if naN x = H ∧ flN x = 0 then 1 else flN x)) := by
    intro x hx
    have a := m2 x hx
    rw [exs x hx] at a
    refine ⟨a.1, fun z => ?_⟩
    rw [a.2 z]
    by_cases q : naN x = H ∧ flN x = 0
    · rw [if_pos q, tu_p (P := fun x => na x = nI H ∧ fl x = 0) hx ((ear x hx).mpr q)]; rfl
    · rw [if_neg q, tu_q (P := fun x => na x = nI H ∧ fl x = 0) (fun w => q ((ear x hx).mp w))]
      exact l2 x hx
  have efv : ∀ x, x < c → fl' x = nI (pv_fl fl' x) := by
    intro x hx
    unfold pv_fl
    by_cases z : ∃ s, s < n ∧ an_C tx s = x ∧ nx s = -1 ∧ pv_d rs lX s = 1 ∧ tk_ro (an_C tx) pd (an_C cs) H naN flN rmN s = 1
    · rw [(efl' x hx).1 z]; rfl
    · have k := K x hx
      rw [(efl' x hx).2 z, nI_clamp (by split <;> omega)]
  have erv : ∀ s, s < n → rm' s = nI (pv_rm rm' s) := by
    intro s hs
    unfold pv_rm
    have a := (pv_cs h hs).2.2
    have b := hro2 s hs
    by_cases z : ¬ pd s = -1 ∧ pv_d rs lX (pd s).toNatClampNeg = 1 ∧ tk_ro (an_C tx) pd (an_C cs) H naN flN rmN (pd s).toNatClampNeg = 1
    · rw [(erm' s hs).1 z, nI_clamp (by omega)]
    · rw [(erm' s hs).2 z, nI_clamp (by omega)]
  have ea : ∀ x, x < c → tu_mk (fun x => na x = nI H ∧ fl x = 0) (fun _ => nI H) aa c x = nI (pv_aa H naN flN aaN x) := by
    intro x hx
    unfold pv_aa
    by_cases q : naN x = H ∧ flN x = 0
    · rw [if_pos q, tu_p (P := fun x => na x = nI H ∧ fl x = 0) hx ((ear x hx).mpr q)]
    · rw [if_neg q, tu_q (P := fun x => na x = nI H ∧ fl x = 0) (fun w => q ((ear x hx).mp w))]
      exact l3 x hx
  refine ⟨⟨fun x hx => rfl, fun x hx => rfl, fun s hs => ⟨fun z => ?_, fun z => ?_⟩, fun x hx => ⟨fun z => ?_, fun z => ?_⟩, fun s hs => ?_, fun s hs n8 hp => ?_, fun s hs e8 hp => ?_, fun j hj e8 hd => ?_, fun j hj e => ?_, fun j hj e8 hd h1 => ?_, fun j hj e => ?_⟩, ⟨fun x hx => ?_, efv, ea, erv⟩, fun x hx => ?_⟩
  · unfold pv_rm
    have a := (pv_cs h hs).2.2
    rw [(erm' s hs).1 z, nI_clamp (by omega)]
  · unfold pv_rm
    have b := hro2 s hs
    rw [(erm' s hs).2 z, nI_clamp (by omega)]
  · unfold pv_fl
    rw [(efl' x hx).1 z]; rfl
  · unfold pv_fl
    have k := K x hx
    rw [(efl' x hx).2 z, nI_clamp (by split <;> omega)]
  · rcases pv_d01 (rs := rs) (lX := lX) (s := s) with z | z
    · rw [z]; exact ⟨by omega, by omega⟩
    · have := w1 s hs (pv_d1.mp z)
      rw [z]; exact ⟨by omega, by omega⟩
  · obtain ⟨j, hj, a, b, d⟩ := w2 s hs n8 hp
    exact ⟨j, hj, a, pv_d1.mpr b, d⟩
  · obtain ⟨j, hj, a, b⟩ := w3 s hs e8 hp
    exact ⟨j, hj, a, pv_d1.mpr b⟩
  · exact w4 j hj e8 (pv_d1.mp hd)
  · -- the frame works on
    have ne : ¬ fR = -1 := by rw [e]; exact bs_ne (by omega)
    have e1 := x4 ne
    rw [e] at e1
    rw [pv_d1, w5 j hj e1, tu_8, x2, e1]
  · have e1 : f1 = nI j := by
      have := pv_d1.mp hd
      rw [e8, tu_8, x2] at this
      exact this
    rw [m4.2 (fun z => ?_)]
    · exact e1
    · obtain ⟨s, hs, a, b⟩ := z
      rw [e1] at a
      have es := (nI_eq (by omega) (by omega)).mp a
      subst es
      have := ((ecp s hs).mp b).2
      omega
  · have nz : ¬ ∃ s, s < n ∧ nI s = f1 ∧ tu_cp rs lX rm2 s := fun z => by
      rw [m4.1 z] at e
      exact bs_ne (by omega) e.symm
    have e1 := m4.2 nz
    rw [e] at e1
    have r8 := w5 j hj e1.symm
    have dj : lX (rs j).toNatClampNeg = nI j := by rw [r8, tu_8, x2]; exact e1.symm
    refine ⟨pv_d1.mpr dj, ?_⟩
    have p0 := w1 j hj dj
    by_cases q : tk_ro (an_C tx) pd (an_C cs) H naN flN rmN j = 1
    · exact absurd ⟨j, hj, e1, (ecp j hj).mpr ⟨pv_d1.mpr dj, q⟩⟩ nz
    · omega
  · have a := l1 x hx
    have b := (pv_pe h hx).1
    have g := hga x hx
    unfold pv_na
    by_cases q : naN x = H
    · rw [if_pos q, tu_p (P := fun x => na x = nI H) hx ((ena x hx).mpr q)]
      refine ⟨?_, by omega⟩
      show nI H + pe x + ga x = _
      rw [b.1, g.1, nI_add, nI_add]
    · rw [if_neg q, tu_q (P := fun x => na x = nI H) (fun w => q ((ena x hx).mp w))]
      exact ⟨a.1, by omega⟩
  · rcases m3 x hx with z | ⟨s, hs, z1, z2, z3, z4⟩
    · exact Or.inl z
    · refine Or.inr ⟨s, hs, (pv_xx h hs hx).mp z1, z2, ((ecp s hs).mp z3).1, ((ecp s hs).mp z3).2, ?_⟩
      rw [z4, ea x hx]
end
end
section
/-! the law's invariant over the component's state; tick, run, reset, analyse keep it -/
section
variable {n c H : Nat} {tx : Nat → Nat} {rs pr pd nx : Nat → Int32} {C T G : Nat → Nat} {na fl aa rm d : Nat → Nat → Nat} {fr : Nat → Int32}
theorem tk_frpos (hf : tk_Cf n c tx pd nx C) (h : tk_Rn n c H tx rs pr pd nx C T G na fl aa rm d fr) {f : Nat} (hfn : f < n) (e : fr H = nI f) : 0 < tk_ro tx pd C H (na H) (fl H) (rm H) f := by
  have hn := hf.1
  have hC := hf.2.2.1 f hfn
  have pos : 0 < rm H f := by
    cases H with
    | zero =>
      rw [h.1.2.2] at e
      exact absurd e.symm (bs_ne (by omega))
    | succ u =>
      have st := h.2 u (by omega)
      have a := st.2.2.2.2.2.2.2.2.2.2 f hfn e
      have b := st.2.2.1 f hfn
      by_cases z : ¬ pd f = -1 ∧ d u (pd f).toNatClampNeg = 1 ∧ tk_ro tx pd C u (na u) (fl u) (rm u) (pd f).toNatClampNeg = 1
      · rw [b.1 z]; exact hC
      · rw [b.2 z]; omega
  unfold tk_ro
  split
  · exact hC
  · exact pos
end
/-- a finite fixpoint -/
def pv_G (n : Nat) (pe dl tx rs cs pr pd : Nat → Int32) (R : Nat → Nat) : Prop := (∀ s, s < n → R s ≤ 200) ∧ ∀ s, s < n → an_F n pe dl tx rs cs pr pd R s (R s)
/-- what the simulation has seen is within every finite fixpoint -/
def pv_S (c n : Nat) (pe dl tl tx rs cs pr pd ov mx : Nat → Int32) : Prop := ∀ R, pv_G n pe dl tx rs cs pr pd R → ∀ x, x < c → ov x = 0 ∧ (mx x = -1 ∨ ∃ k, mx x = nI k ∧ k ≤ R (an_C tl x) ∧ k ≤ 200)
def pv_T (c n : Nat) (tM fR : Int32) (tx rs cs pr pd nx pe ga na fl aa rm : Nat → Int32) (H : Nat) : Prop :=
  ∃ (naT flT aaT rmT dT : Nat → Nat → Nat) (frT : Nat → Int32), H ≤ 100000 ∧ tM = nI H ∧ tk_Rn n c H (an_C tx) rs pr pd nx (an_C cs) (an_C pe) (an_C ga) naT flT aaT rmT dT frT ∧ pv_L c n H na fl aa rm (naT H) (flT H) (aaT H) (rmT H) ∧ frT H = fR
def pv_I (c n : Nat) (tM fR : Int32) (pe dl tl os ga tx rs cs pr pd nx na fl aa ov mx rm : Nat → Int32) : Prop :=
  (∀ x, x < c → os x = nI (an_C os x) ∧ an_C os x ≤ 200) ∧ (∀ x, x < c → ga x = nI (an_C ga x) ∧ an_C ga x ≤ 200) ∧
  (fR = -1 ∨ ∃ f, f < n ∧ fR = nI f ∧ rs f = 8) ∧ (∃ H, pv_T c n tM fR tx rs cs pr pd nx pe ga na fl aa rm H) ∧ pv_S c n pe dl tl tx rs cs pr pd ov mx
section
variable {pN pK sT tM fR tC sC : Int32} {c n p kk : Nat} {pe dl hd tl os ga tx rs cs pr pd nx bX na fl aa co ov mx rm sX lX : Nat → Int32} {H : Nat}
theorem pv_tl (h : pv_C c n p pe dl hd tl tx rs cs pr pd nx) {s x : Nat} (hs : s < n) (hx : x < c) (e : an_C tx s = x) (en : nx s = -1) : tl x = nI s ∧ an_C tl x = s := by
  have hn := h.1.2.2.1
  have et := (pv_xx h hs hx).mpr e
  have key : tl x = nI s := by
    rw [h.2.2.2.2.2.1.2.1 x hx]
    rcases sn_L_some tx (nI x) n with ⟨_, b⟩ | ⟨l, hl, a, b, d⟩
    · exact absurd et (b s hs)
    · by_cases z : l = s
      · rw [a, z]
      · by_cases w : s < l
        · exfalso
          rw [h.2.2.2.2.2.1.2.2.2 s hs] at en
          rcases sn_F_some tx (tx s) (n - (s + 1)) (s + 1) with ⟨_, q⟩ | ⟨j, _, j2, j3, _, _⟩
          · exact q l (by omega) (by omega) (b.trans et.symm)
          · rw [j3] at en
            exact bs_ne (by omega) en
        · exact absurd et (d s (by omega) hs)
  refine ⟨key, ?_⟩
  unfold an_C
  rw [key, nI_clamp (by omega)]
theorem pv_tick {post : St2 → Prop} (h : pv_C c n p pe dl hd tl tx rs cs pr pd nx) (hH : H < 100000) (hI : pv_I c n (nI H) fR pe dl tl os ga tx rs cs pr pd nx na fl aa ov mx rm) (hT : pv_T c n (nI H) fR tx rs cs pr pd nx pe ga na fl aa rm H)
    (hp : ∀ (fR' : Int32) (na' fl' aa' co' ov' mx' rm' sX' lX' : Nat → Int32), pv_I c n (nI (H + 1)) fR' pe dl tl os ga tx rs cs pr pd nx na' fl' aa' ov' mx' rm' → pv_T c n (nI (H + 1)) fR' tx rs cs pr pd nx pe ga na' fl' aa' rm' (H + 1) → post (nI p, pK, nI c, nI n, sT, nI (H + 1), fR', pe, dl, hd, tl, os, ga, tx, rs, cs, pr, pd, nx, bX, na', fl', aa', co', ov', mx', rm', sX', lX')) :
    wpX_tick post (nI p, pK, nI c, nI n, sT, nI H, fR, pe, dl, hd, tl, os, ga, tx, rs, cs, pr, pd, nx, bX, na, fl, aa, co, ov, mx, rm, sX, lX) := by
  obtain ⟨i1, i2, i3, _, i5⟩ := hI
  obtain ⟨naT, flT, aaT, rmT, dT, frT, _, _, hrn, hl, hfr⟩ := hT
  have hcc := h.1
  have tkf := pv_tk h
  have hr := tk_of hrn
  have K := tk_Kall tkf hr H (Nat.le_refl H)
  have M := tk_KM tkf K
  have hrob : ∀ s, s < n → tk_ro (an_C tx) pd (an_C cs) H (naT H) (flT H) (rmT H) s ≤ an_C cs s := fun s hs => M.2.2.1 s hs
  have hro2 : ∀ s, s < n → tk_ro (an_C tx) pd (an_C cs) H (naT H) (flT H) (rmT H) s < 2 ^ 31 := fun s hs => by
    have a := hrob s hs
    have b := (pv_cs h hs).2.2
    omega
  have hfr' : fR = -1 ∨ ∃ f, f < n ∧ fR = nI f ∧ rs f = 8 ∧ 0 < tk_ro (an_C tx) pd (an_C cs) H (naT H) (flT H) (rmT H) f := by
    rcases i3 with z | ⟨f, hf, e, e8⟩
    · exact Or.inl z
    · exact Or.inr ⟨f, hf, e, e8, tk_frpos tkf hrn hf (by rw [hfr, e])⟩
  have htx : ∀ s, s < n → ∃ y, y < c ∧ tx s = nI y := h.2.1
  have hpdc : ∀ s, s < n → ¬ pd s = -1 → (pd s).toNatClampNeg < s ∧ tx (pd s).toNatClampNeg = tx s ∧ nx (pd s).toNatClampNeg = nI s := by
    intro s hs e
    rcases pv_pd h hs with a | ⟨q, hq, a, b, d⟩
    · exact absurd a.1 e
    · rw [a, nI_clamp (by omega)]
      exact ⟨hq, b, d⟩
  have hnxc : ∀ s, s < n → nx s = -1 ∨ ∃ m, m < n ∧ nx s = nI m ∧ pd m = nI s := by
    intro s hs
    rcases pv_nx h hs with a | ⟨m, hm, a, b, _⟩
    · exact Or.inl a
    · exact Or.inr ⟨m, hm, a, b⟩
  have hcs0 : ∀ s, s < n → ¬ cs s = 0 := by
    intro s hs
    obtain ⟨a, b, d⟩ := pv_cs h hs
    rw [a]
    exact nI_ne0 (by omega) (by omega)
  unfold wpX_tick
  refine ⟨c + 1, tu_arr0 hcc.2.1 hcc.2.2.1 (pv_hd h) htx (fun rm1 hra => ?_)⟩
  have hro := pv_mid h (by omega) hl K.1 hra
  refine ⟨p + 1, tu_exe (rm1 := rm1) hcc.2.2.2.2 hcc.2.2.1 (fun rm2 lX2 hex => ?_) p 0 rm1 lX (by omega) ⟨fun q hq => by omega, fun s hs => ⟨fun ⟨q, hq, _⟩ => by omega, fun _ => rfl⟩⟩⟩
  refine tu_bus hcc.2.2.2.2 hcc.2.2.1 h.2.2.1 i3 hex (fun f1 rm3 lX3 hef => ?_)
  obtain ⟨w1, _, _, _, w5⟩ := pv_who h hro hro2 hef hfr'
  refine ⟨n + 1, tu_cmp (f1 := f1) (rm2 := rm3) (fl1 := tu_mk (fun x => na x = nI H ∧ fl x = 0) (fun _ => 1) fl c) (mx1 := mx) hcc.2.1 hcc.2.2.1 hcc.2.2.2.2 htx h.2.2.1 hcs0 hpdc hnxc (fun s q hs hq e d1 d2 => M.2.1 s q hs hq ((pv_xe h hs hq).mpr e) (w1 s hs d1) (w1 q hq d2)) (fun fR' fl' co' mx' rm' sX' hcm => ?_) n 0 f1 _ co mx rm3 sX (by omega) ⟨fun s hs => ⟨fun w => by have := w.2.1; omega, fun _ => rfl⟩, fun x hx => ⟨fun ⟨s, hs, _⟩ => by omega, fun _ => rfl⟩, fun x hx => Or.inl rfl, fun ⟨s, hs, _⟩ => by omega, fun _ => rfl⟩⟩
  obtain ⟨st, hl', hmx⟩ := pv_step (fR' := fR') (rm' := rm') (fl' := fl') (mx' := mx') (mx := mx) h (by omega) i2 hl K.1 hrob hfr' hra hef hcm
  have hfok : fR' = -1 ∨ ∃ f, f < n ∧ fR' = nI f ∧ rs f = 8 := by
    by_cases q : ∃ s, s < n ∧ nI s = f1 ∧ tu_cp rs lX3 rm3 s
    · exact Or.inl (hcm.2.2.2.1 q)
    · rw [hcm.2.2.2.2 q]
      by_cases e : fR = -1
      · rw [hef.2.2.1 e]
        rcases sn_mu_some rs pr rm1 8 n with a | ⟨j, hj, a, b⟩
        · exact Or.inl a
        · exact Or.inr ⟨j, hj, a, b⟩
      · rw [hef.2.2.2.1 e]; exact i3
  have hrn' := tk_ext hrn (by rw [hfr]; exact st)
  have hr' := tk_of hrn'
  have hT' : pv_T c n (nI (H + 1)) fR' tx rs cs pr pd nx pe ga (tu_mk (fun x => na x = nI H) (fun x => nI H + pe x + ga x) na c) fl' (tu_mk (fun x => na x = nI H ∧ fl x = 0) (fun _ => nI H) aa c) rm' (H + 1) :=
    ⟨_, _, _, _, _, _, by omega, rfl, hrn', by rw [tk_ad_s, tk_ad_s, tk_ad_s, tk_ad_s]; exact hl', tk_ad_s⟩
  refine nm_r (nI_1 H) (hp _ _ _ _ _ _ _ _ _ _ ⟨i1, i2, hfok, ⟨H + 1, hT'⟩, ?_⟩ hT')
  -- within every finite fixpoint
  intro R hG x hx
  obtain ⟨s1, s2⟩ := i5 R hG x hx
  have hcf := an_cf (pv_H h)
  have hTp : ∀ x, x < c → 1 ≤ an_C pe x := fun x hx => (pv_pe h hx).1.2.1
  have hRT : ∀ s, s < n → R s ≤ an_C pe (an_C tx s) := by
    intro s hs
    have a := pv_pe h (pv_x h hs).2
    have b := hG.1 s hs
    rcases hG.2 s hs with ⟨_, q⟩ | ⟨_, ⟨w, _, _, q, e⟩ | ⟨_, q⟩⟩
    · omega
    · have : an_T dl tx s = an_C dl (an_C tx s) := rfl
      omega
    · omega
  have e1 : tk_ad (H + 1) naT (pv_na pe ga H (naT H)) H = naT H := tk_ad_n (by omega)
  have e2 : tk_ad (H + 1) flT (pv_fl fl') H = flT H := tk_ad_n (by omega)
  have e3 : tk_ad (H + 1) aaT (pv_aa H (naT H) (flT H) (aaT H)) H = aaT H := tk_ad_n (by omega)
  have e4 : tk_ad (H + 1) rmT (pv_rm rm') H = rmT H := tk_ad_n (by omega)
  refine ⟨?_, ?_⟩
  · have nd := tk_noov hcf tkf hr' h.2.2.2.2.2.2.2 hTp hG.1 hRT hG.2 (t := H) (by omega) hx
    rw [e1, e2] at nd
    rw [tu_q (P := fun x => na x = nI H ∧ ¬ fl x = 0) (fun w => nd ?_)]
    · exact s1
    · have a := hl.1 x hx
      have b := hl.2.1 x hx
      have k := K.1 x hx
      refine ⟨?_, ?_⟩
      · have := w.1
        rw [a.1, nI_eq (by omega) (by omega)] at this
        exact this
      · have nz : ¬ flT H x = 0 := fun q => w.2 (by rw [b, q]; rfl)
        omega
  · rcases hmx x hx with q | ⟨s, hs, et, en, dd, ro1, q⟩
    · rw [q]; exact s2
    · have main := tk_main hcf tkf hr' h.2.2.2.2.2.2.2 hTp hG.1 hG.2 (t := H) (s := s) (by omega) hs (by
        unfold tk_rho
        rw [e1, e2, e4]
        show 0 < tk_ro (an_C tx) pd (an_C cs) H (naT H) (flT H) (rmT H) s
        omega)
      unfold tk_rho tk_al at main
      rw [e1, e2, e3, e4] at main
      have er : (if (naT H (an_C tx s) = H ∧ flT H (an_C tx s) = 0) ∧ pd s = -1 then an_C cs s else rmT H s) = 1 := ro1
      have ea : (if naT H (an_C tx s) = H ∧ flT H (an_C tx s) = 0 then H else aaT H (an_C tx s)) = pv_aa H (naT H) (flT H) (aaT H) x := by rw [et]; rfl
      rw [er, ea] at main
      have hal : pv_aa H (naT H) (flT H) (aaT H) x ≤ H := by
        unfold pv_aa
        by_cases y : naT H x = H ∧ flT H x = 0
        · rw [if_pos y]; exact Nat.le_refl H
        · rw [if_neg y]
          rcases M.1 s hs (by show 0 < tk_ro (an_C tx) pd (an_C cs) H (naT H) (flT H) (rmT H) s; omega) with v | v
          · rw [et] at v; exact absurd v y
          · rw [et] at v
            have := K.2.2.2.2.2 x hx v
            omega
      have etl := (pv_tl h hs hx et en).2
      have hR := hG.1 s hs
      rw [q, nI_1, pk_sub (by omega), etl]
      rcases s2 with y | ⟨k, y1, y2, y3⟩
      · rw [y, ti_gr2 (fun w => ?_)]
        · exact Or.inr ⟨_, rfl, by omega, by omega⟩
        · exact absurd (Int32.le_trans (nI_pos' (by omega)) w) (by decide)
      · rw [y1]
        by_cases w : nI (H + 1 - pv_aa H (naT H) (flT H) (aaT H) x) ≤ nI k
        · rw [ti_gr1 w]
          rw [etl] at y2
          exact Or.inr ⟨k, rfl, y2, y3⟩
        · rw [ti_gr2 w]
          exact Or.inr ⟨_, rfl, by omega, by omega⟩
theorem pv_run {post : Int32 → St2 → Prop} (h : pv_C c n p pe dl hd tl tx rs cs pr pd nx) {w : Nat} (hw : w ≤ 1000)
    (hp : ∀ (r tM' fR' : Int32) (na' fl' aa' co' ov' mx' rm' sX' lX' : Nat → Int32), pv_I c n tM' fR' pe dl tl os ga tx rs cs pr pd nx na' fl' aa' ov' mx' rm' → post r (nI p, pK, nI c, nI n, sT, tM', fR', pe, dl, hd, tl, os, ga, tx, rs, cs, pr, pd, nx, bX, na', fl', aa', co', ov', mx', rm', sX', lX')) :
    ∀ (d i H : Nat) (fR : Int32) (na fl aa co ov mx rm sX lX : Nat → Int32), i + d = w → H ≤ 100000 → pv_I c n (nI H) fR pe dl tl os ga tx rs cs pr pd nx na fl aa ov mx rm → pv_T c n (nI H) fR tx rs cs pr pd nx pe ga na fl aa rm H → wX_run_21 post (nI w) (d + 1) (nI i) (nI p) pK (nI c) (nI n) sT (nI H) fR pe dl hd tl os ga tx rs cs pr pd nx bX na fl aa co ov mx rm sX lX := by
  intro d
  induction d with
  | zero =>
    intro i H fR na fl aa co ov mx rm sX lX hi hH hI hT
    exact br_t (nI_le (by omega) (by omega)) (hp _ _ _ _ _ _ _ _ _ _ _ _ hI)
  | succ d ih =>
    intro i H fR na fl aa co ov mx rm sX lX hi hH hI hT
    refine br_f (nI_ge (by omega) (by omega)) ?_
    by_cases z : H < 100000
    · refine br_f (nI_ge (a := H) (b := 100000) z (by omega)) (pv_tick h z hI hT (fun fR' na' fl' aa' co' ov' mx' rm' sX' lX' hI' hT' => ?_))
      exact nm_r (nI_1 i) (ih (i + 1) (H + 1) fR' na' fl' aa' co' ov' mx' rm' sX' lX' (by omega) (by omega) hI' hT')
    · exact br_t (nI_le (a := 100000) (b := H) (by omega) (by omega)) (hp _ _ _ _ _ _ _ _ _ _ _ _ hI)
/-- a reset: a trace of no tick -/
theorem pv_rst (h1 : ∀ x, x < c → os x = nI (an_C os x) ∧ an_C os x ≤ 200) (h2 : ∀ x, x < c → ga x = nI (an_C ga x) ∧ an_C ga x ≤ 200) {aaN : Nat → Nat} (h3 : ∀ x, x < c → aa x = nI (aaN x)) :
    pv_I c n 0 (-1) pe dl tl os ga tx rs cs pr pd nx (bs_mz na os c) (bs_mz fl (fun _ => 0) c) aa (bs_mz ov (fun _ => 0) c) (bs_mz mx (fun _ => -1) c) (bs_mz rm (fun _ => 0) n) := by
  refine ⟨h1, h2, Or.inl rfl, ⟨0, fun _ => an_C os, fun _ _ => 0, fun _ => aaN, fun _ _ => 0, fun _ _ => 0, fun _ => -1, by omega, rfl, ⟨⟨fun _ _ => rfl, fun _ _ => rfl, rfl⟩, fun t ht => by omega⟩, ⟨fun x hx => ?_, fun x hx => ?_, h3, fun s hs => ?_⟩, rfl⟩, fun R hR x hx => ?_⟩
  · rw [bs_mz_lt hx]
    exact ⟨(h1 x hx).1, Nat.le_trans (h1 x hx).2 (by omega)⟩
  · rw [bs_mz_lt hx]; rfl
  · rw [bs_mz_lt hs]; rfl
  · rw [bs_mz_lt hx, bs_mz_lt hx]
    exact ⟨rfl, Or.inl rfl⟩
theorem pv_aaN (hI : pv_I c n tM fR pe dl tl os ga tx rs cs pr pd nx na fl aa ov mx rm) : ∃ aaN : Nat → Nat, ∀ x, x < c → aa x = nI (aaN x) := by
  obtain ⟨_, _, _, ⟨H, naT, flT, aaT, rmT, dT, frT, _, _, _, hl, _⟩, _⟩ := hI
  exact ⟨_, hl.2.2.1⟩
end
end
section
/-! the component's calls keep the law's invariant -/
def pv_A (n : Nat) (sT : Int32) (pe dl tx rs cs pr pd bX : Nat → Int32) : Prop := sT = 1 → ∃ R, pv_G n pe dl tx rs cs pr pd R ∧ ∀ s, s < n → bX s = nI (R s)
section
variable {pN pK sT tM fR tC sC : Int32} {c n p kk : Nat} {pe dl hd tl os ga tx rs cs pr pd nx bX na fl aa co ov mx rm sX lX : Nat → Int32}
theorem pv_ana {post : Int32 → St2 → Prop} (h : pv_C c n p pe dl hd tl tx rs cs pr pd nx) (hp : ∀ (r sT' : Int32) (bX' : Nat → Int32), pv_A n sT' pe dl tx rs cs pr pd bX' → post r (nI p, pK, nI c, nI n, sT', tM, fR, pe, dl, hd, tl, os, ga, tx, rs, cs, pr, pd, nx, bX', na, fl, aa, co, ov, mx, rm, sX, lX)) : wpX_analyse post (nI p, pK, nI c, nI n, sT, tM, fR, pe, dl, hd, tl, os, ga, tx, rs, cs, pr, pd, nx, bX, na, fl, aa, co, ov, mx, rm, sX, lX) := by
  unfold wpX_analyse
  refine sm_xc h.1.2.1 (fun h0 hcm => br_f sm_1 (an_xana (pv_H h) (fun R b hI hF hb => ⟨fun z => hp _ _ _ (fun _ => ⟨R, ⟨fun s hs => ?_, hF⟩, fun s hs => ?_⟩), fun z => hp _ _ _ (fun w => absurd w (by decide))⟩))) (fun z => absurd ⟨h.1.1, h.2.2.2.2.2.2.1⟩ z)
  · have a := hI.1 s hs
    have b := z s hs
    omega
  · have a := hI.1 s hs
    have b' := z s hs
    rw [hb s hs]
    exact an_fin (by omega)
theorem pv_runc {post : Int32 → St2 → Prop} (h : pv_C c n p pe dl hd tl tx rs cs pr pd nx) (hI : pv_I c n tM fR pe dl tl os ga tx rs cs pr pd nx na fl aa ov mx rm) (v : Int32)
    (hp : ∀ (r tM' fR' : Int32) (na' fl' aa' co' ov' mx' rm' sX' lX' : Nat → Int32), pv_I c n tM' fR' pe dl tl os ga tx rs cs pr pd nx na' fl' aa' ov' mx' rm' → post r (nI p, pK, nI c, nI n, sT, tM', fR', pe, dl, hd, tl, os, ga, tx, rs, cs, pr, pd, nx, bX, na', fl', aa', co', ov', mx', rm', sX', lX')) :
    wpX_run post (nI p, pK, nI c, nI n, sT, tM, fR, pe, dl, hd, tl, os, ga, tx, rs, cs, pr, pd, nx, bX, na, fl, aa, co, ov, mx, rm, sX, lX) v := by
  obtain ⟨_, _, _, ⟨H, hT⟩, _⟩ := id hI
  obtain ⟨_, _, _, _, _, _, hH, eM, _⟩ := id hT
  subst eM
  unfold wpX_run
  refine sm_xc h.1.2.1 (fun h0 hcm => br_f sm_1 ?_) (fun z => absurd ⟨h.1.1, h.2.2.2.2.2.2.1⟩ z)
  have go : ∀ w, w ≤ 1000 → ∃ m, wX_run_21 post (nI w) m 0 (nI p) pK (nI c) (nI n) sT (nI H) fR pe dl hd tl os ga tx rs cs pr pd nx bX na fl aa co ov mx rm sX lX := fun w hw => ⟨w + 1, pv_run h hw hp w 0 H fR na fl aa co ov mx rm sX lX (by omega) hH hI hT⟩
  rcases sm_in3 v 0 1000 (by omega) (by omega) with z | ⟨z, z'⟩ | ⟨a, h1, h4, rfl⟩
  · exact br_f (sm_nle z) (go 0 (by omega))
  · exact br_t (Int32.not_lt.mp z) (br_f (sm_nle z') (go 1000 (by omega)))
  · exact br_t (nI_pos' (by omega)) (br_t (nI_le (a := a) (b := 1000) h4 (by omega)) (go a h4))
theorem pv_upd {f : Nat → Int32} {j a : Nat} (ha : a ≤ 200) (h : ∀ x, x < c → f x = nI (an_C f x) ∧ an_C f x ≤ 200) : ∀ x, x < c → upd f j (nI a) x = nI (an_C (upd f j (nI a)) x) ∧ an_C (upd f j (nI a)) x ≤ 200 := by
  intro x hx
  unfold an_C
  by_cases e : x = j
  · rw [e, pk_us, nI_clamp (by omega)]
    exact ⟨rfl, ha⟩
  · rw [pk_un e]
    exact h x hx
theorem pv_set {post : Int32 → St2 → Prop} (hc : c ≤ 8) (hn : n ≤ 16) (hI : pv_I c n tM fR pe dl tl os ga tx rs cs pr pd nx na fl aa ov mx rm) (v1 v2 v3 : Int32)
    (hp : ∀ (r tM' fR' : Int32) (os' ga' na' fl' co' ov' mx' rm' sX' lX' : Nat → Int32), pv_I c n tM' fR' pe dl tl os' ga' tx rs cs pr pd nx na' fl' aa ov' mx' rm' → post r (nI p, pK, nI c, nI n, sT, tM', fR', pe, dl, hd, tl, os', ga', tx, rs, cs, pr, pd, nx, bX, na', fl', aa, co', ov', mx', rm', sX', lX')) :
    wpX_setArrivals post (nI p, pK, nI c, nI n, sT, tM, fR, pe, dl, hd, tl, os, ga, tx, rs, cs, pr, pd, nx, bX, na, fl, aa, co, ov, mx, rm, sX, lX) v1 v2 v3 := by
  have ref : ∀ r, post r (nI p, pK, nI c, nI n, sT, tM, fR, pe, dl, hd, tl, os, ga, tx, rs, cs, pr, pd, nx, bX, na, fl, aa, co, ov, mx, rm, sX, lX) := fun r => hp r _ _ _ _ _ _ _ _ _ _ _ _ hI
  unfold wpX_setArrivals
  rcases pk_ix v1 (n := c) (by omega) with z | z | ⟨j, hj, rfl⟩
  · exact sm_t0 z (br_t rfl (ref _))
  · by_cases z0 : v1 < 0
    · exact sm_t0 z0 (br_t rfl (ref _))
    · exact sm_t2 z0 z (br_t rfl (ref _))
  · refine sm_t1 hj (by omega) (br_f sm_1 ?_)
    rcases sm_in3 v2 0 200 (by omega) (by omega) with z | ⟨z, z'⟩ | ⟨a, h1, h2, rfl⟩
    · exact sm_w0 z (br_t rfl (ref _))
    · exact sm_w2 z z' (br_t rfl (ref _))
    · refine sm_w1 (lo := 0) (hi := 200) h1 h2 (by omega) (br_f sm_1 ?_)
      rcases sm_in3 v3 0 200 (by omega) (by omega) with z | ⟨z, z'⟩ | ⟨b, k1, k2, rfl⟩
      · exact sm_w0 z (br_t rfl (ref _))
      · exact sm_w2 z z' (br_t rfl (ref _))
      · have hi : vp_in (nI j) 8 := vp_in_nI (by omega) (by omega)
        refine sm_w1 (lo := 0) (hi := 200) k1 k2 (by omega) (br_f sm_1 ⟨hi, nm_r (cf_up (by omega)) ⟨hi, nm_r (cf_up (by omega)) ?_⟩⟩)
        obtain ⟨aaN, haa⟩ := pv_aaN hI
        exact rs_x hc hn (hp _ _ _ _ _ _ _ _ _ _ _ _ _ (pv_rst (pv_upd h2 hI.1) (pv_upd k2 hI.2.1) haa))
/-! the setup -/
theorem pv_addt {post : Int32 → St2 → Prop} (hc : c < 8) (hn : n ≤ 16) {a b : Nat} (h1 : 1 ≤ b) (h2 : b ≤ a) (h3 : a ≤ 200) (hp : post (nI c) (pN, pK, nI (c + 1), nI n, 0, 0, -1, upd pe c (nI a), upd dl c (nI b), upd hd c (-1), upd tl c (-1), upd os c 0, upd ga c 0, tx, rs, cs, pr, pd, nx, bX, bs_mz na (upd os c 0) (c + 1), bs_mz fl (fun _ => 0) (c + 1), aa, bs_mz co (fun _ => 0) (c + 1), bs_mz ov (fun _ => 0) (c + 1), bs_mz mx (fun _ => -1) (c + 1), bs_mz rm (fun _ => 0) n, bs_mz sX (fun _ => -1) n, bs_mz lX (fun _ => -1) 9)) : wpX_addTransaction post (pN, pK, nI c, nI n, sT, tM, fR, pe, dl, hd, tl, os, ga, tx, rs, cs, pr, pd, nx, bX, na, fl, aa, co, ov, mx, rm, sX, lX) (nI a) (nI b) := by
  have hi : vp_in (nI c) 8 := vp_in_nI (by omega) (by omega)
  unfold wpX_addTransaction
  refine br_t (nI_lt (a := c) (b := 8) hc (by omega)) (sm_w1 (lo := 1) (hi := 200) (by omega) h3 (by omega) (br_f sm_1 (sm_w1 (lo := 1) (hi := a) h1 h2 (by omega) (br_f sm_1 ?_))))
  refine ⟨hi, nm_r (cf_up (by omega)) ⟨hi, nm_r (cf_up (by omega)) ⟨hi, nm_r (cf_up (by omega)) ⟨hi, nm_r (cf_up (by omega)) ⟨hi, nm_r (cf_up (by omega)) ⟨hi, nm_r (cf_up (by omega)) (nm_r (nI_1 c) ?_)⟩⟩⟩⟩⟩⟩
  exact cf_cc (by omega) (by omega) hp
theorem pv_res {post : Int32 → Prop} {x : Int32} (hp4 : p ≤ 4) (hx : x = 8 ∨ ∃ q, q < p ∧ x = nI q) (hp : post 1) : wpX_isResource post (nI p, pK, tC, sC, sT, tM, fR, pe, dl, hd, tl, os, ga, tx, rs, cs, pr, pd, nx, bX, na, fl, aa, co, ov, mx, rm, sX, lX) x := by
  rcases hx with rfl | ⟨q, hq, rfl⟩
  · exact br_t rfl hp
  · refine br_f (fun z => ?_) (br_f (nI_pos (by omega)) (br_f (nI_ge hq (by omega)) hp))
    have := (nI_eq (a := q) (b := 8) (by omega) (by omega)).mp z
    omega
theorem pv_adds {post : Int32 → St2 → Prop} (hc : c ≤ 8) (hn : n < 16) (hp4 : p ≤ 4) {x v q : Nat} {r : Int32} (hx : x < c) (hr : r = 8 ∨ ∃ q, q < p ∧ r = nI q) (h1 : 1 ≤ v) (h2 : v ≤ 20) (k1 : 1 ≤ q) (k2 : q ≤ 100) (hnt : ¬ ∃ j, j < n ∧ rs j = r ∧ pr j = nI q) (hch : sn_Ch tx hd tl pd nx c n)
    (hp : ∀ hd' tl' pd' nx' : Nat → Int32, sn_Ch (upd tx n (nI x)) hd' tl' pd' nx' c (n + 1) → post (nI n) (nI p, nI 16, nI c, nI (n + 1), 0, 0, -1, pe, dl, hd', tl', os, ga, upd tx n (nI x), upd rs n r, upd cs n (nI v), upd pr n (nI q), pd', nx', bX, bs_mz na os c, bs_mz fl (fun _ => 0) c, aa, bs_mz co (fun _ => 0) c, bs_mz ov (fun _ => 0) c, bs_mz mx (fun _ => -1) c, bs_mz rm (fun _ => 0) (n + 1), bs_mz sX (fun _ => -1) (n + 1), bs_mz lX (fun _ => -1) 9)) :
    wpX_addStep post (nI p, nI 16, nI c, nI n, sT, tM, fR, pe, dl, hd, tl, os, ga, tx, rs, cs, pr, pd, nx, bX, na, fl, aa, co, ov, mx, rm, sX, lX) (nI x) r (nI v) (nI q) := by
  have hin : vp_in (nI n) 16 := vp_in_nI (by omega) (by omega)
  unfold wpX_addStep
  refine sm_t1 hx (by omega) (br_f sm_1 (br_t (nI_lt hn (by omega)) (pv_res hp4 hr (br_f sm_1 (sm_w1 (lo := 1) (hi := 20) h1 h2 (by omega) (br_f sm_1 (sm_w1 (lo := 1) (hi := 100) k1 k2 (by omega) (br_f sm_1 ?_))))))))
  refine cf_xt (by omega) (fun z => absurd z hnt) (fun _ => br_t rfl ⟨hin, nm_r (cf_up (by omega)) ⟨hin, nm_r (cf_up (by omega)) ⟨hin, nm_r (cf_up (by omega)) ⟨hin, nm_r (cf_up (by omega)) (nm_r (nI_1 n) ?_)⟩⟩⟩⟩)
  rcases sn_Ch_step hch hn hx hc with ⟨etl, hch'⟩ | ⟨l, hl, etl, hch'⟩
  · exact cf_ap1 (by omega) hn etl (cf_cc hc (by omega) (hp _ _ _ _ hch'))
  · exact cf_ap2 (by omega) hn hl etl (cf_cc hc (by omega) (hp _ _ _ _ hch'))
end
end
section
/-! the law's own small methods -/
def sl_ce (L : Nat) (xs : Nat → Int32) (k : Nat) : Int32 := if k < L then xs k else 0
def sl_md (v : Int32) (k : Nat) : Nat := (v.toInt.tmod k + k).toNat % k
theorem sl_md_lt {v : Int32} {k : Nat} (h : 1 ≤ k) : sl_md v k < k := Nat.mod_lt _ h
theorem sl_md_nI {a k : Nat} (ha : a < 2 ^ 31) (h : 1 ≤ k) : sl_md (nI a) k = a % k := by
  unfold sl_md
  rw [nI_toInt ha, Int.tmod_eq_emod_of_nonneg (by omega), ← Int.natCast_emod, show ((a % k : Nat) : Int) + (k : Int) = ((a % k + k : Nat) : Int) from by omega, Int.toNat_natCast, Nat.add_mod_right, Nat.mod_mod]
theorem sl_v {P : Int32 → Prop} {a b : Int32} (e : a = b) (h : P b) : P a := by rw [e]; exact h
theorem sl_m {post : Int32 → Prop} {v : Int32} {k : Nat} (h1 : 1 ≤ k) (h2 : k ≤ 1000) (hp : post (nI (sl_md v k))) : wpL_m post () v (nI k) := by
  have k0 : ¬ nI k = 0 := nI_ne0 (by omega) (by omega)
  refine ⟨k0, k0, ?_⟩
  have tb := tmod_bounds (a := v.toInt) (M := (k : Int)) (by omega)
  have e : (v - v / nI k * nI k) + nI k = nI (v.toInt.tmod k + k).toNat := by
    apply Int32.toInt_inj.mp
    rw [Int32.toInt_add, rem_toInt, nI_toInt (by omega), nI_toInt (by omega), Int.bmod_eq_of_le (by omega) (by omega)]
    omega
  rw [e, pk_rem (by omega) (by omega) (by omega)]
  exact hp
def sl_nt (L : Nat) (xs : Nat → Int32) : Nat := 1 + sl_md (sl_ce L xs 1) 3
def sl_ns (L : Nat) (xs : Nat → Int32) : Nat := sl_nt L xs + sl_md (sl_ce L xs 2) 6
def sl_p (L : Nat) (xs : Nat → Int32) : Nat := 1 + sl_md (sl_ce L xs 0) 4
def sl_pe (L : Nat) (xs : Nat → Int32) (x : Nat) : Nat := 20 + sl_md (sl_ce L xs (4 + 2 * x)) 181
def sl_dl (L : Nat) (xs : Nat → Int32) (x : Nat) : Nat := sl_pe L xs x - sl_md (sl_ce L xs (5 + 2 * x)) (sl_pe L xs x / 2 + 1)
def sl_tx (L : Nat) (xs : Nat → Int32) (i : Nat) : Nat := if i < sl_nt L xs then i else sl_md (sl_ce L xs (10 + 3 * i)) (sl_nt L xs)
def sl_rs (L : Nat) (xs : Nat → Int32) (i : Nat) : Int32 := if sl_md (sl_ce L xs (11 + 3 * i)) (sl_p L xs + 1) = sl_p L xs then 8 else nI (sl_md (sl_ce L xs (11 + 3 * i)) (sl_p L xs + 1))
def sl_cs (L : Nat) (xs : Nat → Int32) (i : Nat) : Nat := 1 + sl_md (sl_ce L xs (12 + 3 * i)) 4
def sl_pr (L : Nat) (xs : Nat → Int32) (i : Nat) : Nat := 1 + (7 * i + sl_md (sl_ce L xs 3) 16) % 16
section
variable {L : Nat} {xs : Nat → Int32}
theorem sl_nt_b : 1 ≤ sl_nt L xs ∧ sl_nt L xs ≤ 3 := by
  have := sl_md_lt (v := sl_ce L xs 1) (k := 3) (by omega)
  unfold sl_nt
  omega
theorem sl_ns_b : sl_nt L xs ≤ sl_ns L xs ∧ sl_ns L xs ≤ 8 := by
  have := sl_md_lt (v := sl_ce L xs 2) (k := 6) (by omega)
  have := sl_nt_b (L := L) (xs := xs)
  unfold sl_ns
  omega
theorem sl_p_b : 1 ≤ sl_p L xs ∧ sl_p L xs ≤ 4 := by
  have := sl_md_lt (v := sl_ce L xs 0) (k := 4) (by omega)
  unfold sl_p
  omega
theorem sl_pe_b {x : Nat} : 20 ≤ sl_pe L xs x ∧ sl_pe L xs x ≤ 200 := by
  have := sl_md_lt (v := sl_ce L xs (4 + 2 * x)) (k := 181) (by omega)
  unfold sl_pe
  omega
theorem sl_dl_b {x : Nat} : 1 ≤ sl_dl L xs x ∧ sl_dl L xs x ≤ sl_pe L xs x := by
  have a := sl_md_lt (v := sl_ce L xs (5 + 2 * x)) (k := sl_pe L xs x / 2 + 1) (by omega)
  have b := sl_pe_b (L := L) (xs := xs) (x := x)
  unfold sl_dl
  omega
theorem sl_tx_b {i : Nat} : sl_tx L xs i < sl_nt L xs := by
  unfold sl_tx
  by_cases e : i < sl_nt L xs
  · rw [if_pos e]; exact e
  · rw [if_neg e]; exact sl_md_lt sl_nt_b.1
theorem sl_rs_b {i : Nat} : sl_rs L xs i = 8 ∨ ∃ q, q < sl_p L xs ∧ sl_rs L xs i = nI q := by
  have a := sl_md_lt (v := sl_ce L xs (11 + 3 * i)) (k := sl_p L xs + 1) (by omega)
  unfold sl_rs
  by_cases e : sl_md (sl_ce L xs (11 + 3 * i)) (sl_p L xs + 1) = sl_p L xs
  · rw [if_pos e]; exact Or.inl rfl
  · rw [if_neg e]; exact Or.inr ⟨_, by omega, rfl⟩
theorem sl_cs_b {i : Nat} : 1 ≤ sl_cs L xs i ∧ sl_cs L xs i ≤ 4 := by
  have := sl_md_lt (v := sl_ce L xs (12 + 3 * i)) (k := 4) (by omega)
  unfold sl_cs
  omega
theorem sl_pr_b {i : Nat} : 1 ≤ sl_pr L xs i ∧ sl_pr L xs i ≤ 16 := by
  unfold sl_pr
  omega
theorem sl_pr_inj {i j : Nat} (hi : i < 8) (hj : j < 8) (e : sl_pr L xs i = sl_pr L xs j) : i = j := by
  unfold sl_pr at e
  omega
theorem sl_cell {post : Int32 → Prop} {v : Int32} (hL : L ≤ 260) (k : Nat) (hk : k < 2 ^ 31) (e : v = nI k) (hp : post (sl_ce L xs k)) : wpL_cell post L xs () v := by
  subst e
  unfold sl_ce at hp
  by_cases z : k < L
  · rw [if_pos z] at hp
    refine br_f (nI_ge z (by omega)) ⟨vp_in_nI z (by omega), ?_⟩
    rw [nI_clamp hk]
    exact hp
  · rw [if_neg z] at hp
    exact br_t (nI_le (by omega) hk) hp
theorem sl_ix (a b i : Nat) : nI a + nI b * nI i = nI (a + b * i) := by rw [pk_mul, nI_add]
theorem sl_ntw {post : Int32 → Prop} (hL : L ≤ 260) (hp : post (nI (sl_nt L xs))) : wpL_nt post L xs () :=
  sl_cell hL 1 (by omega) rfl (sl_m (k := 3) (by omega) (by omega) (sl_v (P := post) (nI_add 1 _) hp))
theorem sl_nsw {post : Int32 → Prop} (hL : L ≤ 260) (hp : post (nI (sl_ns L xs))) : wpL_ns post L xs () :=
  sl_ntw hL (sl_cell hL 2 (by omega) rfl (sl_m (k := 6) (by omega) (by omega) (sl_v (P := post) (nI_add _ _) hp)))
theorem sl_pw {post : Int32 → Prop} (hL : L ≤ 260) (hp : post (nI (sl_p L xs))) : wpL_procs post L xs () :=
  sl_cell hL 0 (by omega) rfl (sl_m (k := 4) (by omega) (by omega) (sl_v (P := post) (nI_add 1 _) hp))
theorem sl_pew {post : Int32 → Prop} {x : Nat} (hL : L ≤ 260) (hx : x < 100) (hp : post (nI (sl_pe L xs x))) : wpL_period post L xs () (nI x) :=
  sl_cell hL (4 + 2 * x) (by omega) (sl_ix 4 2 x) (sl_m (k := 181) (by omega) (by omega) (sl_v (P := post) (nI_add 20 _) hp))
theorem sl_dlw {post : Int32 → Prop} {x : Nat} (hL : L ≤ 260) (hx : x < 100) (hp : post (nI (sl_dl L xs x))) : wpL_deadline post L xs () (nI x) := by
  have b := sl_pe_b (L := L) (xs := xs) (x := x)
  have a := sl_md_lt (v := sl_ce L xs (5 + 2 * x)) (k := sl_pe L xs x / 2 + 1) (by omega)
  unfold wpL_deadline
  refine sl_pew hL hx (sl_cell hL (5 + 2 * x) (by omega) (sl_ix 5 2 x) ⟨by decide, ?_⟩)
  have e : nI (sl_pe L xs x) / 2 + 1 = nI (sl_pe L xs x / 2 + 1) := by
    rw [show (2 : Int32) = nI 2 from rfl, pk_div (by omega) (by omega) (by omega), nI_1]
  rw [e]
  exact sl_m (by omega) (by omega) (sl_v (P := post) (pk_sub (by omega)) hp)
theorem sl_txw {post : Int32 → Prop} {i : Nat} (hL : L ≤ 260) (hi : i < 100) (hp : post (nI (sl_tx L xs i))) : wpL_txOf post L xs () (nI i) := by
  have b := sl_nt_b (L := L) (xs := xs)
  unfold sl_tx at hp
  unfold wpL_txOf
  refine sl_ntw hL ?_
  by_cases e : i < sl_nt L xs
  · rw [if_pos e] at hp
    exact br_f (nI_ge e (by omega)) hp
  · rw [if_neg e] at hp
    exact br_t (nI_le (by omega) (by omega)) (sl_cell hL (10 + 3 * i) (by omega) (sl_ix 10 3 i) (sl_ntw hL (sl_m b.1 (by omega) hp)))
theorem sl_rsw {post : Int32 → Prop} {i : Nat} (hL : L ≤ 260) (hi : i < 100) (hp : post (sl_rs L xs i)) : wpL_resOf post L xs () (nI i) := by
  have b := sl_p_b (L := L) (xs := xs)
  have a := sl_md_lt (v := sl_ce L xs (11 + 3 * i)) (k := sl_p L xs + 1) (by omega)
  unfold sl_rs at hp
  unfold wpL_resOf
  refine sl_pw hL (sl_cell hL (11 + 3 * i) (by omega) (sl_ix 11 3 i) ?_)
  rw [nI_1]
  refine sl_m (by omega) (by omega) ?_
  by_cases e : sl_md (sl_ce L xs (11 + 3 * i)) (sl_p L xs + 1) = sl_p L xs
  · rw [if_pos e] at hp
    exact br_t (by rw [e]) hp
  · rw [if_neg e] at hp
    exact br_f (fun z => e ((nI_eq (by omega) (by omega)).mp z)) hp
theorem sl_csw {post : Int32 → Prop} {i : Nat} (hL : L ≤ 260) (hi : i < 100) (hp : post (nI (sl_cs L xs i))) : wpL_costOf post L xs () (nI i) :=
  sl_cell hL (12 + 3 * i) (by omega) (sl_ix 12 3 i) (sl_m (k := 4) (by omega) (by omega) (sl_v (P := post) (nI_add 1 _) hp))
theorem sl_prw {post : Int32 → Prop} {i : Nat} (hL : L ≤ 260) (hi : i < 100) (hp : post (nI (sl_pr L xs i))) : wpL_prioOf post L xs () (nI i) := by
  have a := sl_md_lt (v := sl_ce L xs 3) (k := 16) (by omega)
  unfold wpL_prioOf
  refine sl_cell hL 3 (by omega) rfl (sl_m (k := 16) (by omega) (by omega) ?_)
  rw [show (7 : Int32) * nI i + nI (sl_md (sl_ce L xs 3) 16) = nI (7 * i + sl_md (sl_ce L xs 3) 16) from by rw [show (7 : Int32) = nI 7 from rfl, pk_mul, nI_add]]
  refine sl_m (k := 16) (by omega) (by omega) ?_
  rw [sl_md_nI (by omega) (by omega)]
  exact sl_v (P := post) (nI_add 1 _) hp
theorem sl_pr4 {post : Int32 → Prop} {i : Nat} (hL : L ≤ 260) (hi : i < 16) : ∀ d j, j + d = i → post (sn_L (fun s => nI (sl_tx L xs s)) (nI (sl_tx L xs i)) i) → wL_pred_4 post L xs (nI i) (d + 1) (sn_L (fun s => nI (sl_tx L xs s)) (nI (sl_tx L xs i)) j) (nI j) := by
  intro d
  induction d with
  | zero =>
    intro j hj hp
    have e : j = i := by omega
    subst e
    exact br_t (nI_le (by omega) (by omega)) hp
  | succ d ih =>
    intro j hj hp
    have z := ih (j + 1) (by omega) hp
    simp only [sn_L] at z
    refine br_f (nI_ge (by omega) (by omega)) (sl_txw hL (by omega) (sl_txw hL (by omega) ?_))
    by_cases e : nI (sl_tx L xs j) = nI (sl_tx L xs i)
    · rw [if_pos e] at z
      exact br_t e (nm_r (nI_1 j) z)
    · rw [if_neg e] at z
      exact br_f e (nm_r (nI_1 j) z)
theorem sl_prd {post : Int32 → Prop} {i : Nat} (hL : L ≤ 260) (hi : i < 16) (hp : post (sn_L (fun s => nI (sl_tx L xs s)) (nI (sl_tx L xs i)) i)) : wpL_pred post L xs () (nI i) := ⟨i + 1, sl_pr4 hL hi i 0 (by omega) hp⟩
end
end
section
/-! the law reckons a bound anew -/
/-- the component's arrays hold what the script says -/
def sl_Z (L : Nat) (xs : Nat → Int32) (c n : Nat) (pe dl tx rs cs pr : Nat → Int32) : Prop :=
  (∀ x, x < c → pe x = nI (sl_pe L xs x) ∧ dl x = nI (sl_dl L xs x)) ∧ ∀ s, s < n → tx s = nI (sl_tx L xs s) ∧ rs s = sl_rs L xs s ∧ cs s = nI (sl_cs L xs s) ∧ pr s = nI (sl_pr L xs s)
theorem sl_l0 : (0 : Int32).toInt64 = lN 0 := by decide
theorem sl_l1 : (1 : Int32).toInt64 = lN 1 := by decide
theorem sl_ldiv {a t : Nat} (ha : a ≤ 5000) (h1 : 1 ≤ t) (ht : t ≤ 200) : (lN a + lN t - 1) / lN t = lN ((a + t - 1) / t) := by
  rw [lN_add, show (1 : Int64) = lN 1 from rfl, lN_sub (by omega), pk_lDiv (by omega) (by omega) (by omega)]
section
variable {pN pK sT tM fR tC sC : Int32} {c n p kk : Nat} {pe dl hd tl os ga tx rs cs pr pd nx bX na fl aa co ov mx rm sX lX : Nat → Int32} {L : Nat} {xs : Nat → Int32} {R : Nat → Nat}
theorem sl_sb {post : Int32 → Prop} {q : Nat} (hn : n ≤ 16) (hb : ∀ s, s < n → bX s = nI (R s)) (hq : q < n) (hp : post (nI (R q))) : wpX_stepBound post (pN, pK, tC, nI n, 1, tM, fR, pe, dl, hd, tl, os, ga, tx, rs, cs, pr, pd, nx, bX, na, fl, aa, co, ov, mx, rm, sX, lX) (nI q) := by
  unfold wpX_stepBound
  refine sm_s1 hq (by omega) (br_f sm_1 (br_f sm_1 ⟨vp_in_nI (by omega) (by omega), ?_⟩))
  rw [nI_clamp (by omega), hb q hq]
  exact hp
theorem sl_jw {post : Int64 → Prop} {i : Nat} (hL : L ≤ 260) (h : pv_C c n p pe dl hd tl tx rs cs pr pd nx) (hz : sl_Z L xs c n pe dl tx rs cs pr) (hb : ∀ s, s < n → bX s = nI (R s)) (hR : ∀ s, s < n → R s ≤ 200) (hi : i < n) (hp : post (lN (fx_J pd R i))) : wpL_jit post L xs (pN, pK, tC, nI n, 1, tM, fR, pe, dl, hd, tl, os, ga, tx, rs, cs, pr, pd, nx, bX, na, fl, aa, co, ov, mx, rm, sX, lX) (nI i) := by
  have hn := h.1.2.2.1
  unfold wpL_jit
  refine sl_prd hL (by omega) ?_
  have e : sn_L (fun s => nI (sl_tx L xs s)) (nI (sl_tx L xs i)) i = pd i := by
    rw [h.2.2.2.2.2.1.2.2.1 i hi, (hz.2 i hi).1]
    exact sn_L_eq _ i (fun j hj => ((hz.2 j (by omega)).1).symm)
  rw [e]
  unfold fx_J at hp
  by_cases z : pd i = -1
  · rw [if_pos z] at hp
    exact br_f (by rw [z]; decide) hp
  · rw [if_neg z] at hp
    rcases pv_pd h hi with a | ⟨q, hq, a, _⟩
    · exact absurd a.1 z
    · rw [a] at hp ⊢
      rw [nI_clamp (by omega)] at hp
      refine br_t (nI_pos' (by omega)) (sl_sb hn hb (by omega) ?_)
      have := hR q (by omega)
      rw [nI_l (by omega)]
      exact hp
theorem sl_57 {post : Int64 → Prop} {i : Nat} {x4 : Int64} {x7 : Int32} (hL : L ≤ 260) (h : pv_C c n p pe dl hd tl tx rs cs pr pd nx) (hz : sl_Z L xs c n pe dl tx rs cs pr) (hi : i < n) : ∀ d k, k + d = n → (∃ m, wL_raw_128 post L xs (nI i) (nI n) x4 (rs i) x7 (pr i) (lN (fx_bl rs pr (an_C cs) i n)) 0 pN pK tC (nI n) 1 tM fR pe dl hd tl os ga tx rs cs pr pd nx bX na fl aa co ov mx rm sX lX m 0 0) → wL_raw_57 post L xs (nI i) (nI n) x4 (rs i) x7 (pr i) pN pK tC (nI n) 1 tM fR pe dl hd tl os ga tx rs cs pr pd nx bX na fl aa co ov mx rm sX lX (d + 1) (lN (fx_bl rs pr (an_C cs) i k)) (nI k) := by
  have hn := h.1.2.2.1
  have hH := pv_H h
  intro d
  induction d with
  | zero =>
    intro k hk hp
    have e : k = n := by omega
    subst e
    exact br_t (nI_le (by omega) (by omega)) hp
  | succ d ih =>
    intro k hk hp
    have z := ih (k + 1) (by omega) hp
    simp only [fx_bl] at z
    obtain ⟨_, z2, z3, z4⟩ := hz.2 k (by omega)
    have hck := pv_cs h (by omega : k < n)
    have ec : sl_cs L xs k = an_C cs k := by
      have b := sl_cs_b (L := L) (xs := xs) (i := k)
      unfold an_C
      rw [z3, nI_clamp (by omega)]
    have hbl := an_bl (rs := rs) (pr := pr) hH hi k (by omega)
    refine br_f (nI_ge (by omega) (by omega)) ?_
    by_cases q : k = i
    · rw [if_neg (fun w => Int32.lt_irrefl (by have := w.2; rw [q] at this; exact this))] at z
      exact br_t (by rw [q]) (nm_r (nI_1 k) z)
    · refine br_f (fun w => q ((nI_eq (by omega) (by omega)).mp w)) (sl_rsw hL (by omega) ?_)
      rw [← z2]
      by_cases e : rs k = rs i
      · refine br_t e (sl_prw hL (by omega) ?_)
        rw [← z4]
        by_cases g : pr i ≤ pr k
        · rw [if_neg (fun w => Int32.not_lt.mpr g w.2)] at z
          exact br_t g (nm_r (nI_1 k) z)
        · rw [if_pos ⟨e, Int32.not_le.mp g⟩] at z
          refine br_f g (sl_csw hL (by omega) ?_)
          rw [ec, nI_l (by omega)]
          by_cases w : fx_bl rs pr (an_C cs) i k < an_C cs k
          · rw [if_pos w] at z
            refine br_f (fun y => ?_) (sl_csw hL (by omega) ?_)
            · have := (lN_le (by omega) (by omega)).mp y
              omega
            · rw [ec, nI_l (by omega)]
              exact nm_r (nI_1 k) z
          · rw [if_neg w] at z
            exact br_t ((lN_le (by omega) (by omega)).mpr (by omega)) (nm_r (nI_1 k) z)
      · rw [if_neg (fun w => e w.1)] at z
        exact br_f e (nm_r (nI_1 k) z)
theorem sl_152 {post : Int64 → Prop} {J : Int64 → Int32 → Prop} {i w it B ld : Nat} {x4 : Int64} {x7 : Int32} (hL : L ≤ 260) (h : pv_C c n p pe dl hd tl tx rs cs pr pd nx) (hz : sl_Z L xs c n pe dl tx rs cs pr) (hb : ∀ s, s < n → bX s = nI (R s)) (hR : ∀ s, s < n → R s ≤ 200) (hi : i < n) (hw : w ≤ 200) (hB : B ≤ 20) (hld : (x7 = 0 ∧ ld = 0) ∨ (¬ x7 = 0 ∧ ld = 1)) (hit : it ≤ 1000)
    (hp1 : B + fx_sm rs pr (an_C cs) (an_T pe tx) (fx_J pd R) i (w + ld) n = w → wL_raw_265 post L xs (nI i) x4 x7 (lN w) 1 pN pK tC (nI n) 1 tM fR pe dl hd tl os ga tx rs cs pr pd nx bX na fl aa co ov mx rm sX lX)
    (hp0 : ¬ B + fx_sm rs pr (an_C cs) (an_T pe tx) (fx_J pd R) i (w + ld) n = w → J (lN (B + fx_sm rs pr (an_C cs) (an_T pe tx) (fx_J pd R) i (w + ld) n)) (nI (it + 1))) :
    ∀ d j, j + d = n → wL_raw_152 post L xs J (nI i) (nI n) x4 (rs i) x7 (pr i) (lN B) (lN w) 0 (nI it) pN pK tC (nI n) 1 tM fR pe dl hd tl os ga tx rs cs pr pd nx bX na fl aa co ov mx rm sX lX (d + 1) (lN (B + fx_sm rs pr (an_C cs) (an_T pe tx) (fx_J pd R) i (w + ld) j)) (nI j) := by
  have hn := h.1.2.2.1
  have hH := pv_H h
  have hJ : ∀ j, j < n → fx_J pd R j ≤ 200 := by
    intro j hj
    rcases an_J hH (fun s hs => Or.inl (hR s hs)) hj with z | z
    · exact z
    · unfold fx_J at z
      by_cases e : pd j = -1
      · rw [if_pos e] at z; omega
      · rw [if_neg e] at z
        rcases hH.2.1 j hj with y | ⟨q, hq, y⟩
        · exact absurd y e
        · rw [y, nI_clamp (by omega)] at z
          have := hR q hq
          omega
  intro d
  induction d with
  | zero =>
    intro j hj
    have e : j = n := by omega
    subst e
    have b := an_sm (rs := rs) (pr := pr) (s := i) (sp := w + ld) hH (by omega) (fun k hk _ => hJ k hk) j (Nat.le_refl j)
    refine br_t (nI_le (by omega) (by omega)) ?_
    by_cases q : B + fx_sm rs pr (an_C cs) (an_T pe tx) (fx_J pd R) i (w + ld) j = w
    · exact br_t (by rw [q]) (hp1 q)
    · exact br_f (fun z => q ((lN_eq (by omega) (by omega)).mp z)) (nm_r (nI_1 it) (hp0 q))
  | succ d ih =>
    intro j hj
    have z := ih (j + 1) (by omega)
    simp only [fx_sm] at z
    obtain ⟨z1, z2, z3, z4⟩ := hz.2 j (by omega)
    have hcj := pv_cs h (by omega : j < n)
    have ec : sl_cs L xs j = an_C cs j := by
      have b := sl_cs_b (L := L) (xs := xs) (i := j)
      unfold an_C
      rw [z3, nI_clamp (by omega)]
    have et : sl_pe L xs (sl_tx L xs j) = an_T pe tx j := by
      have b := sl_pe_b (L := L) (xs := xs) (x := sl_tx L xs j)
      have b2 := sl_tx_b (L := L) (xs := xs) (i := j)
      have b3 := sl_nt_b (L := L) (xs := xs)
      have hx := (pv_x h (by omega : j < n)).2
      have ex : an_C tx j = sl_tx L xs j := by unfold an_C; rw [z1, nI_clamp (by omega)]
      unfold an_T
      have e2 : (tx j).toNatClampNeg = sl_tx L xs j := ex
      rw [e2, (hz.1 _ (by rw [← ex]; exact hx)).1, nI_clamp (by omega)]
    have htj := hH.2.2.2.2.1 j (by omega)
    refine br_f (nI_ge (by omega) (by omega)) ?_
    by_cases q : j = i
    · rw [if_neg (fun w => Int32.lt_irrefl (by have := w.2; rw [q] at this; exact this))] at z
      exact br_t (by rw [q]) (nm_r (nI_1 j) z)
    · refine br_f (fun w => q ((nI_eq (by omega) (by omega)).mp w)) (sl_rsw hL (by omega) ?_)
      rw [← z2]
      by_cases e : rs j = rs i
      · refine br_t e (sl_prw hL (by omega) ?_)
        rw [← z4]
        by_cases g : pr j ≤ pr i
        · rw [if_neg (fun w => Int32.not_lt.mpr g w.2)] at z
          exact br_t g (nm_r (nI_1 j) z)
        · rw [if_pos ⟨e, Int32.not_le.mp g⟩, ← Nat.add_assoc] at z
          refine br_f g (sl_jw hL h hz hb hR (by omega : j < n) ?_)
          have hJj := hJ j (by omega)
          have b2 := sl_tx_b (L := L) (xs := xs) (i := j)
          have b3 := sl_nt_b (L := L) (xs := xs)
          have fin : ∀ (z0 : Int32), z0.toInt64 = lN ld → wL_raw_208 post L xs J (wL_raw_152 post L xs J (nI i) (nI n) x4 (rs i) x7 (pr i) (lN B) (lN w) 0 (nI it) pN pK tC (nI n) 1 tM fR pe dl hd tl os ga tx rs cs pr pd nx bX na fl aa co ov mx rm sX lX (d + 1)) (nI i) (nI n) x4 (rs i) x7 (pr i) (lN B) (lN w) 0 (nI it) (nI j) z0 (lN w + lN (fx_J pd R j)) (lN (B + fx_sm rs pr (an_C cs) (an_T pe tx) (fx_J pd R) i (w + ld) j)) pN pK tC (nI n) 1 tM fR pe dl hd tl os ga tx rs cs pr pd nx bX na fl aa co ov mx rm sX lX := by
            intro z0 e0
            unfold wL_raw_208
            refine sl_txw hL (by omega) (sl_pew hL (by omega) ?_)
            rw [et, nI_l (by omega), e0, lN_add, lN_add]
            refine ⟨fun y => ?_, ?_⟩
            · have := (lN_eq (a := an_T pe tx j) (b := 0) (by omega) (by omega)).mp y
              omega
            · rw [sl_ldiv (by omega) htj.2.1 htj.2.2]
              refine sl_csw hL (by omega) ?_
              rw [ec, nI_l (by omega), lN_mul, lN_add, show w + fx_J pd R j + ld = w + ld + fx_J pd R j from by omega]
              exact nm_e (nm_r (nI_1 j) z)
          rcases hld with ⟨h3, hl⟩ | ⟨h3, hl⟩
          · exact br_t h3 (fin 0 (by rw [hl]; exact sl_l0))
          · exact br_f h3 (fin 1 (by rw [hl]; exact sl_l1))
      · rw [if_neg (fun w => e w.1)] at z
        exact br_f e (nm_r (nI_1 j) z)
theorem sl_128 {post : Int64 → Prop} {i W B ld : Nat} {x4 : Int64} {x7 : Int32} (hL : L ≤ 260) (h : pv_C c n p pe dl hd tl tx rs cs pr pd nx) (hz : sl_Z L xs c n pe dl tx rs cs pr) (hb : ∀ s, s < n → bX s = nI (R s)) (hR : ∀ s, s < n → R s ≤ 200) (hi : i < n) (hB : B ≤ 20) (hld : (x7 = 0 ∧ ld = 0) ∨ (¬ x7 = 0 ∧ ld = 1)) (hW : W ≤ 200)
    (hm : ∀ a b, a ≤ b → B + fx_sm rs pr (an_C cs) (an_T pe tx) (fx_J pd R) i (a + ld) n ≤ B + fx_sm rs pr (an_C cs) (an_T pe tx) (fx_J pd R) i (b + ld) n)
    (hWf : B + fx_sm rs pr (an_C cs) (an_T pe tx) (fx_J pd R) i (W + ld) n = W) (hWl : ∀ u, u < W → B + fx_sm rs pr (an_C cs) (an_T pe tx) (fx_J pd R) i (u + ld) n ≠ u)
    (hp : wL_raw_265 post L xs (nI i) x4 x7 (lN W) 1 pN pK tC (nI n) 1 tM fR pe dl hd tl os ga tx rs cs pr pd nx bX na fl aa co ov mx rm sX lX) :
    ∀ f w it, W < w + f → w ≤ W → it ≤ w → w ≤ B + fx_sm rs pr (an_C cs) (an_T pe tx) (fx_J pd R) i (w + ld) n → wL_raw_128 post L xs (nI i) (nI n) x4 (rs i) x7 (pr i) (lN B) 0 pN pK tC (nI n) 1 tM fR pe dl hd tl os ga tx rs cs pr pd nx bX na fl aa co ov mx rm sX lX f (lN w) (nI it) := by
  intro f
  induction f with
  | zero => intro w it h1 h2; omega
  | succ f ih =>
    intro w it h1 h2 hit hle
    refine br_f (nI_ge (a := it) (b := 2000) (by omega) (by omega)) (br_f (fun y => ?_) ⟨n + 1, sl_152 hL h hz hb hR hi (by omega) hB hld (by omega) (fun e => ?_) (fun e => ?_) n 0 (by omega)⟩)
    · have := (lN_lt (a := 1000) (b := w) (by omega) (by omega)).mp y
      omega
    · have : w = W := by
        by_cases q : w < W
        · exact absurd e (hWl w q)
        · omega
      rw [this]; exact hp
    · have le := hm w W (by omega)
      rw [hWf] at le
      have up := hm w (B + fx_sm rs pr (an_C cs) (an_T pe tx) (fx_J pd R) i (w + ld) n) (by omega)
      exact ih _ _ (by omega) le (by omega) up
theorem sl_raw {post : Int64 → Prop} {i : Nat} (hL : L ≤ 260) (h : pv_C c n p pe dl hd tl tx rs cs pr pd nx) (hz : sl_Z L xs c n pe dl tx rs cs pr) (hns : sl_ns L xs = n) (hb : ∀ s, s < n → bX s = nI (R s)) (hG : pv_G n pe dl tx rs cs pr pd R) (hi : i < n) (hp : post (lN (R i))) : wpL_raw post L xs (pN, pK, tC, nI n, 1, tM, fR, pe, dl, hd, tl, os, ga, tx, rs, cs, pr, pd, nx, bX, na, fl, aa, co, ov, mx, rm, sX, lX) (nI i) := by
  have hn := h.1.2.2.1
  have hH := pv_H h
  have hci := pv_cs h hi
  have hRi := hG.1 i hi
  obtain ⟨_, z2, z3, z4⟩ := hz.2 i hi
  have ec : sl_cs L xs i = an_C cs i := by
    have b := sl_cs_b (L := L) (xs := xs) (i := i)
    unfold an_C
    rw [z3, nI_clamp (by omega)]
  have mono : ∀ B ld a b, a ≤ b → B + fx_sm rs pr (an_C cs) (an_T pe tx) (fx_J pd R) i (a + ld) n ≤ B + fx_sm rs pr (an_C cs) (an_T pe tx) (fx_J pd R) i (b + ld) n := fun B ld a b hab => Nat.add_le_add_left (fx_sm_le (by omega) n (fun j _ => Nat.le_refl _)) B
  obtain ⟨W, eW, lW, hW, er⟩ : ∃ w, fx_f n rs pr pd (an_C cs) (an_T pe tx) R i w = w ∧ (∀ u, u < w → fx_f n rs pr pd (an_C cs) (an_T pe tx) R i u ≠ u) ∧ fx_out rs pd (an_C cs) R i + w ≤ an_T dl tx i ∧ R i = fx_out rs pd (an_C cs) R i + w := by
    rcases hG.2 i hi with ⟨_, q⟩ | ⟨_, q | ⟨_, q⟩⟩
    · omega
    · exact q
    · omega
  unfold wpL_raw
  refine sl_nsw hL ?_
  rw [hns]
  refine sl_jw hL h hz hb hG.1 hi (sl_rsw hL (by omega) ?_)
  rw [← z2]
  by_cases e8 : rs i = 8
  · refine br_t e8 ?_
    unfold wL_raw_32
    refine sl_prw hL (by omega) (sl_csw hL (by omega) ?_)
    rw [← z4, ec, nI_l (by omega)]
    have ef : ∀ w, fx_f n rs pr pd (an_C cs) (an_T pe tx) R i w = fx_bl rs pr (an_C cs) i n + fx_sm rs pr (an_C cs) (an_T pe tx) (fx_J pd R) i (w + 1) n := by
      intro w
      unfold fx_f fx_base fx_lead
      rw [if_pos e8, if_pos e8]
    have eo : fx_out rs pd (an_C cs) R i = fx_J pd R i + an_C cs i := by unfold fx_out; rw [if_pos e8]
    refine br_f sm_1 ⟨n + 1, sl_57 hL h hz hi n 0 (by omega) ⟨W + 1, sl_128 (W := W) (ld := 1) hL h hz hb hG.1 hi (an_bl hH hi n (Nat.le_refl n)) (Or.inr ⟨sm_1, rfl⟩) (by omega) (mono _ 1) (by rw [← ef]; exact eW) (fun u hu => by rw [← ef]; exact lW u hu) ?_ (W + 1) 0 0 (by omega) (by omega) (by omega) (by omega)⟩⟩
    refine br_f sm_1 (br_f sm_1 (sl_csw hL (by omega) ?_))
    rw [ec, nI_l (by omega), lN_add, lN_add, show fx_J pd R i + W + an_C cs i = R i from by omega]
    exact hp
  · refine br_f e8 ?_
    unfold wL_raw_32
    refine sl_prw hL (by omega) (sl_csw hL (by omega) ?_)
    rw [← z4, ec, nI_l (by omega)]
    have ef : ∀ w, fx_f n rs pr pd (an_C cs) (an_T pe tx) R i w = an_C cs i + fx_sm rs pr (an_C cs) (an_T pe tx) (fx_J pd R) i (w + 0) n := by
      intro w
      unfold fx_f fx_base fx_lead
      rw [if_neg e8, if_neg e8]
    have eo : fx_out rs pd (an_C cs) R i = fx_J pd R i := by unfold fx_out; rw [if_neg e8]; rfl
    refine br_t rfl ⟨W + 1, sl_128 (W := W) (ld := 0) hL h hz hb hG.1 hi hci.2.2 (Or.inl ⟨rfl, rfl⟩) (by omega) (mono _ 0) (by rw [← ef]; exact eW) (fun u hu => by rw [← ef]; exact lW u hu) ?_ (W + 1) 0 0 (by omega) (by omega) (by omega) (by omega)⟩
    refine br_f sm_1 (br_t rfl ?_)
    rw [sl_l0, lN_add, lN_add, show fx_J pd R i + W + 0 = R i from by omega]
    exact hp
end
end
section
/-! the law's check passes -/
section
variable {pN pK sT tM fR tC sC : Int32} {c n p kk : Nat} {pe dl hd tl os ga tx rs cs pr pd nx bX na fl aa co ov mx rm sX lX : Nat → Int32} {L : Nat} {xs : Nat → Int32} {R : Nat → Nat}
theorem ck_112 {post : Int32 → Prop} (hL : L ≤ 260) (h : pv_C c n p pe dl hd tl tx rs cs pr pd nx) (hz : sl_Z L xs c n pe dl tx rs cs pr) (hns : sl_ns L xs = n) (hb : ∀ s, s < n → bX s = nI (R s)) (hG : pv_G n pe dl tx rs cs pr pd R) (hp : post 1) : ∀ d i, i + d = n → wL_check_112 post L xs (nI n) pN pK tC (nI n) 1 tM fR pe dl hd tl os ga tx rs cs pr pd nx bX na fl aa co ov mx rm sX lX (d + 1) (nI i) := by
  have hn := h.1.2.2.1
  intro d
  induction d with
  | zero =>
    intro i hi
    exact br_t (nI_le (by omega) (by omega)) hp
  | succ d ih =>
    intro i hi
    refine br_f (nI_ge (by omega) (by omega)) (sl_sb hn hb (by omega) (sl_raw hL h hz hns hb hG (by omega) ?_))
    have hR := hG.1 i (by omega)
    exact br_t (nI_l (by omega)) (nm_r (nI_1 i) (ih (i + 1) (by omega)))
theorem ck_R (h : pv_C c n p pe dl hd tl tx rs cs pr pd nx) (hG : pv_G n pe dl tx rs cs pr pd R) {s : Nat} (hs : s < n) : 1 ≤ R s ∧ R s ≤ an_T dl tx s := by
  have hc := pv_cs h hs
  have hR := hG.1 s hs
  rcases hG.2 s hs with ⟨_, q⟩ | ⟨_, ⟨w, ew, _, hw, er⟩ | ⟨_, q⟩⟩
  · omega
  · refine ⟨?_, by omega⟩
    have hb : 1 ≤ fx_base n rs pr (an_C cs) s := by
      unfold fx_base
      split
      · exact Nat.le_trans hc.2.1 (tq_bl_self (an_C cs) n)
      · exact hc.2.1
    have : 1 ≤ w := by
      rw [← ew]
      unfold fx_f
      omega
    omega
  · omega
theorem ck_66 {post : Int32 → Prop} (hL : L ≤ 260) (h : pv_C c n p pe dl hd tl tx rs cs pr pd nx) (hz : sl_Z L xs c n pe dl tx rs cs pr) (hns : sl_ns L xs = n) (hb : ∀ s, s < n → bX s = nI (R s)) (hG : pv_G n pe dl tx rs cs pr pd R) (hp : post 1) : ∀ d i, i + d = n → wL_check_66 post L xs (nI n) pN pK tC (nI n) 1 tM fR pe dl hd tl os ga tx rs cs pr pd nx bX na fl aa co ov mx rm sX lX (d + 1) (nI i) := by
  have hn := h.1.2.2.1
  intro d
  induction d with
  | zero =>
    intro i hi
    exact br_t (nI_le (by omega) (by omega)) ⟨n + 1, ck_112 hL h hz hns hb hG hp n 0 (by omega)⟩
  | succ d ih =>
    intro i hi
    obtain ⟨z1, _, _, _⟩ := hz.2 i (by omega)
    obtain ⟨r1, r2⟩ := ck_R h hG (by omega : i < n)
    have hR := hG.1 i (by omega)
    have b2 := sl_tx_b (L := L) (xs := xs) (i := i)
    have b3 := sl_nt_b (L := L) (xs := xs)
    have b4 := sl_pe_b (L := L) (xs := xs) (x := sl_tx L xs i)
    have b5 := sl_dl_b (L := L) (xs := xs) (x := sl_tx L xs i)
    have ed : an_T dl tx i = sl_dl L xs (sl_tx L xs i) := by
      have hx := (pv_x h (by omega : i < n)).2
      have ex : an_C tx i = sl_tx L xs i := by unfold an_C; rw [z1, nI_clamp (by omega)]
      have e2 : (tx i).toNatClampNeg = sl_tx L xs i := ex
      unfold an_T
      rw [e2, (hz.1 _ (by rw [← ex]; exact hx)).2, nI_clamp (by omega)]
    refine br_f (nI_ge (by omega) (by omega)) (sl_sb hn hb (by omega) (br_f (nI_nlt (a := R i) (b := 1) r1 (by omega)) (sl_txw hL (by omega) (sl_dlw hL (by omega) ?_))))
    exact br_t (nI_le (by omega) (by omega)) (nm_r (nI_1 i) (ih (i + 1) (by omega)))
theorem ck_tl (h : pv_C c n p pe dl hd tl tx rs cs pr pd nx) {x : Nat} (hx : x < c) : tl x = nI (an_C tl x) ∧ an_C tl x < n := by
  have hn := h.1.2.2.1
  have hh := h.2.2.2.2.2.2.1 x hx
  obtain ⟨c1, c2, _, _⟩ := h.2.2.2.2.2.1
  rcases sn_L_some tx (nI x) n with ⟨_, b⟩ | ⟨l, hl, a, b, d⟩
  · exfalso
    rcases sn_F_some tx (nI x) n 0 with ⟨a, _⟩ | ⟨m, _, hm, _, e, _⟩
    · exact hh (by rw [c1 x hx, a])
    · exact b m (by omega) e
  · have e : tl x = nI l := by rw [c2 x hx, a]
    unfold an_C
    rw [e, nI_clamp (by omega)]
    exact ⟨rfl, hl⟩
theorem ck_23 {post : Int32 → Prop} (hL : L ≤ 260) (h : pv_C c n p pe dl hd tl tx rs cs pr pd nx) (hz : sl_Z L xs c n pe dl tx rs cs pr) (hns : sl_ns L xs = n) (hb : ∀ s, s < n → bX s = nI (R s)) (hG : pv_G n pe dl tx rs cs pr pd R) (hS : pv_S c n pe dl tl tx rs cs pr pd ov mx) (hp : post 1) : ∀ d i, i + d = c → wL_check_23 post L xs (nI c) (nI n) pN pK (nI c) (nI n) 1 tM fR pe dl hd tl os ga tx rs cs pr pd nx bX na fl aa co ov mx rm sX lX (d + 1) (nI i) := by
  have hcc := h.1
  intro d
  induction d with
  | zero =>
    intro i hi
    exact br_t (nI_le (by omega) (by omega)) ⟨n + 1, ck_66 hL h hz hns hb hG hp n 0 (by omega)⟩
  | succ d ih =>
    intro i hi
    have k8 : vp_in (nI i) 8 := vp_in_nI (by omega) (by omega)
    have cl : (nI i).toNatClampNeg = i := nI_clamp (by omega)
    obtain ⟨s1, s2⟩ := hS R hG i (by omega)
    obtain ⟨t1, t2⟩ := ck_tl h (by omega : i < c)
    have hR := hG.1 _ t2
    have tb : ∀ post : Int32 → Prop, post (nI (R (an_C tl i))) → wpX_transactionBound post (pN, pK, nI c, nI n, 1, tM, fR, pe, dl, hd, tl, os, ga, tx, rs, cs, pr, pd, nx, bX, na, fl, aa, co, ov, mx, rm, sX, lX) (nI i) := by
      intro post hq
      unfold wpX_transactionBound
      refine sm_t1 (by omega) (by omega) (br_f sm_1 (br_f sm_1 ⟨k8, ?_⟩))
      rw [cl, t1, nI_clamp (by omega), hb _ t2]
      exact ⟨vp_in_nI (by omega) (by omega), hq⟩
    have om : ∀ post : Int32 → Prop, post (mx i) → wpX_observedMax post (pN, pK, nI c, nI n, 1, tM, fR, pe, dl, hd, tl, os, ga, tx, rs, cs, pr, pd, nx, bX, na, fl, aa, co, ov, mx, rm, sX, lX) (nI i) := by
      intro post hq
      unfold wpX_observedMax
      refine sm_t1 (by omega) (by omega) (br_f sm_1 ⟨k8, ?_⟩)
      rw [cl]; exact hq
    have oc : ∀ post : Int32 → Prop, post 0 → wpX_overrunCount post (pN, pK, nI c, nI n, 1, tM, fR, pe, dl, hd, tl, os, ga, tx, rs, cs, pr, pd, nx, bX, na, fl, aa, co, ov, mx, rm, sX, lX) (nI i) := by
      intro post hq
      unfold wpX_overrunCount
      refine sm_t1 (by omega) (by omega) (br_f sm_1 ⟨k8, ?_⟩)
      rw [cl, s1]; exact hq
    refine br_f (nI_ge (by omega) (by omega)) (oc _ (br_t rfl (om _ (tb _ (br_t ?_ (nm_r (nI_1 i) (ih (i + 1) (by omega))))))))
    rcases s2 with q | ⟨k, q, q2, q3⟩
    · rw [q]
      exact Int32.le_trans (by decide : (-1 : Int32) ≤ 0) (nI_pos' (by omega))
    · rw [q]
      exact nI_le q2 (by omega)
theorem ck_all {post : Int32 → Prop} (hL : L ≤ 260) (h : pv_C c n p pe dl hd tl tx rs cs pr pd nx) (hz : sl_Z L xs c n pe dl tx rs cs pr) (hnt : sl_nt L xs = c) (hns : sl_ns L xs = n) (hA : pv_A n sT pe dl tx rs cs pr pd bX) (hS : pv_S c n pe dl tl tx rs cs pr pd ov mx) (hp : post 1) : wpL_check post L xs (pN, pK, nI c, nI n, sT, tM, fR, pe, dl, hd, tl, os, ga, tx, rs, cs, pr, pd, nx, bX, na, fl, aa, co, ov, mx, rm, sX, lX) := by
  unfold wpL_check
  show wpX_analysisState _ _
  by_cases e : sT = 1
  · subst e
    obtain ⟨R, hG, hb⟩ := hA rfl
    refine br_t rfl (sl_ntw hL (sl_nsw hL ?_))
    rw [hnt, hns]
    exact ⟨c + 1, ck_23 hL h hz hns hb hG hS hp c 0 (by omega)⟩
  · exact br_f e hp
end
end
section
/-! the law's loops -/
section
variable {pN pK sT tM fR tC sC : Int32} {c n p kk : Nat} {pe dl hd tl os ga tx rs cs pr pd nx bX na fl aa co ov mx rm sX lX : Nat → Int32} {L kc ks : Nat} {xs : Nat → Int32}
theorem la_169 (hL : L ≤ 260) (h : pv_C c n p pe dl hd tl tx rs cs pr pd nx) (hz : sl_Z L xs c n pe dl tx rs cs pr) (hnt : sl_nt L xs = c) (hns : sl_ns L xs = n) :
    ∀ (f k : Nat) (sT tM fR : Int32) (os ga bX na fl aa co ov mx rm sX lX : Nat → Int32), L ≤ k + f → k ≤ 264 → pv_I c n tM fR pe dl tl os ga tx rs cs pr pd nx na fl aa ov mx rm → pv_A n sT pe dl tx rs cs pr pd bX →
      wL_law_169 (fun r => r = 1) L xs (nI c) kc ks (f + 1) (nI k) (nI p) pK (nI c) (nI n) sT tM fR pe dl hd tl os ga tx rs cs pr pd nx bX na fl aa co ov mx rm sX lX := by
  have hcc := h.1
  intro f
  induction f with
  | zero =>
    intro k sT tM fR os ga bX na fl aa co ov mx rm sX lX h1 h2 hI hA
    exact br_t (nI_le (a := L) (b := k) (by omega) (by omega)) rfl
  | succ f ih =>
    intro k sT tM fR os ga bX na fl aa co ov mx rm sX lX h1 h2 hI hA
    by_cases e : L ≤ k
    · exact br_t (nI_le (a := L) (b := k) e (by omega)) rfl
    · have step : ∀ (sT tM fR : Int32) (os ga bX na fl aa co ov mx rm sX lX : Nat → Int32), pv_I c n tM fR pe dl tl os ga tx rs cs pr pd nx na fl aa ov mx rm → pv_A n sT pe dl tx rs cs pr pd bX → wL_law_302 (fun r => r = 1) L xs (wL_law_169 (fun r => r = 1) L xs (nI c) kc ks (f + 1)) (nI c) (nI k) kc ks (nI p) pK (nI c) (nI n) sT tM fR pe dl hd tl os ga tx rs cs pr pd nx bX na fl aa co ov mx rm sX lX := by
        intro sT tM fR os ga bX na fl aa co ov mx rm sX lX hI hA
        unfold wL_law_302
        exact ck_all hL h hz hnt hns hA hI.2.2.2.2 (br_f sm_1 (nm_r (nI_add k 4) (ih (k + 4) _ _ _ _ _ _ _ _ _ _ _ _ _ _ _ (by omega) (by omega) hI hA)))
      refine br_f (nI_ge (a := k) (b := L) (by omega) (by omega)) (sl_cell hL k (by omega) rfl (sl_m (k := 4) (by omega) (by omega) (sl_cell hL (k + 1) (by omega) (nI_1 k) (sl_cell hL (k + 2) (by omega) (nI_add k 2) (sl_cell hL (k + 3) (by omega) (nI_add k 3) ?_)))))
      refine br_c (fun _ => ?_) (fun _ => br_c (fun _ => ?_) (fun _ => br_c (fun _ => ?_) (fun _ => ?_)))
      · exact pv_ana h (fun r sT' bX' hA' => step _ _ _ _ _ _ _ _ _ _ _ _ _ _ _ hI hA')
      · exact sl_m (by omega) (by omega) (sl_m (k := 60) (by omega) (by omega) (sl_m (k := 60) (by omega) (by omega) (pv_set hcc.2.1 hcc.2.2.1 hI _ _ _ (fun r tM' fR' os' ga' na' fl' co' ov' mx' rm' sX' lX' hI' => step _ _ _ _ _ _ _ _ _ _ _ _ _ _ _ hI' hA))))
      · exact sl_m (k := 400) (by omega) (by omega) (pv_runc h hI _ (fun r tM' fR' na' fl' aa' co' ov' mx' rm' sX' lX' hI' => step _ _ _ _ _ _ _ _ _ _ _ _ _ _ _ hI' hA))
      · exact pv_set hcc.2.1 hcc.2.2.1 hI _ _ _ (fun r tM' fR' os' ga' na' fl' co' ov' mx' rm' sX' lX' hI' => step _ _ _ _ _ _ _ _ _ _ _ _ _ _ _ hI' hA)
/-- the configuration that the law has built -/
theorem la_C (hnt : sl_nt L xs = c) (hns : sl_ns L xs = n) (hp : sl_p L xs = p) (hz : sl_Z L xs c n pe dl tx rs cs pr) (hch : sn_Ch tx hd tl pd nx c n) : pv_C c n p pe dl hd tl tx rs cs pr pd nx := by
  have b1 := sl_nt_b (L := L) (xs := xs)
  have b2 := sl_ns_b (L := L) (xs := xs)
  have b3 := sl_p_b (L := L) (xs := xs)
  refine ⟨⟨by omega, by omega, by omega, by omega, by omega⟩, fun s hs => ⟨sl_tx L xs s, by rw [← hnt]; exact sl_tx_b, (hz.2 s hs).1⟩, fun s hs => ?_, fun s hs => ?_, fun x hx => ?_, hch, fun x hx => ?_, fun i j hi hj e1 e2 => ?_⟩
  · rw [(hz.2 s hs).2.1, ← hp]; exact sl_rs_b
  · have b := sl_cs_b (L := L) (xs := xs) (i := s)
    exact ⟨_, b.1, by omega, (hz.2 s hs).2.2.1⟩
  · have b := sl_pe_b (L := L) (xs := xs) (x := x)
    have b' := sl_dl_b (L := L) (xs := xs) (x := x)
    exact ⟨_, _, b'.1, b'.2, b.2, (hz.1 x hx).1, (hz.1 x hx).2⟩
  · rw [hch.1 x hx]
    rcases sn_F_some tx (nI x) n 0 with ⟨_, q⟩ | ⟨m, _, hm, q, _, _⟩
    · exfalso
      refine q x (by omega) (by omega) ?_
      rw [(hz.2 x (by omega)).1]
      unfold sl_tx
      rw [if_pos (by omega)]
    · rw [q]; exact bs_ne (by omega)
  · rw [(hz.2 i hi).2.2.2, (hz.2 j hj).2.2.2] at e2
    have bi := sl_pr_b (L := L) (xs := xs) (i := i)
    have bj := sl_pr_b (L := L) (xs := xs) (i := j)
    exact sl_pr_inj (by omega) (by omega) ((nI_eq (by omega) (by omega)).mp e2)
theorem la_69 (hL : L ≤ 260) (hnt : sl_nt L xs = c) (hns : sl_ns L xs = n) (hpp : sl_p L xs = p) :
    ∀ (d i : Nat) (tM fR : Int32) (hd tl os ga tx rs cs pr pd nx bX na fl aa co ov mx rm sX lX : Nat → Int32), i + d = n → sl_Z L xs c i pe dl tx rs cs pr → sn_Ch tx hd tl pd nx c i → pv_I c i tM fR pe dl tl os ga tx rs cs pr pd nx na fl aa ov mx rm → (∀ x, x < 8 → aa x = 0) →
      wL_law_69 (fun r => r = 1) L xs (nI c) (nI n) kc ks (d + 1) (nI i) (nI p) (nI 16) (nI c) (nI i) 0 tM fR pe dl hd tl os ga tx rs cs pr pd nx bX na fl aa co ov mx rm sX lX := by
  have b1 := sl_nt_b (L := L) (xs := xs)
  have b2 := sl_ns_b (L := L) (xs := xs)
  have b3 := sl_p_b (L := L) (xs := xs)
  intro d
  induction d with
  | zero =>
    intro i tM fR hd tl os ga tx rs cs pr pd nx bX na fl aa co ov mx rm sX lX hi hz hch hI haa
    have e : i = n := by omega
    subst e
    have h := la_C hnt hns hpp hz hch
    refine br_t (nI_le (by omega) (by omega)) (ck_all hL h hz hnt hns (fun z => absurd z (by decide)) hI.2.2.2.2 (br_f sm_1 (pv_ana h (fun r sT' bX' hA => ?_))))
    refine ck_all hL h hz hnt hns hA hI.2.2.2.2 (br_f sm_1 (pv_runc h hI _ (fun r' tM' fR' na' fl' aa' co' ov' mx' rm' sX' lX' hI' => ?_)))
    exact ck_all hL h hz hnt hns hA hI'.2.2.2.2 (br_f sm_1 ⟨L + 1, la_169 hL h hz hnt hns L 34 _ _ _ _ _ _ _ _ _ _ _ _ _ _ _ (by omega) (by omega) hI' hA⟩)
  | succ d ih =>
    intro i tM fR hd tl os ga tx rs cs pr pd nx bX na fl aa co ov mx rm sX lX hi hz hch hI haa
    have bc := sl_cs_b (L := L) (xs := xs) (i := i)
    have bp := sl_pr_b (L := L) (xs := xs) (i := i)
    have bt := sl_tx_b (L := L) (xs := xs) (i := i)
    refine br_f (nI_ge (by omega) (by omega)) (sl_txw hL (by omega) (sl_rsw hL (by omega) (sl_csw hL (by omega) (sl_prw hL (by omega) (pv_adds (by omega) (by omega) (by omega) (by omega) (by rw [← hpp]; exact sl_rs_b) bc.1 (by omega) bp.1 (by omega) (fun z => ?_) hch (fun hd' tl' pd' nx' hch' => br_t rfl (nm_r (nI_1 i) (ih (i + 1) _ _ _ _ _ _ _ _ _ _ _ _ _ _ _ _ _ _ _ _ _ _ (by omega) ⟨hz.1, fun s hs => ?_⟩ hch' (pv_rst (aaN := fun _ => 0) hI.1 hI.2.1 (fun x hx => haa x (by omega))) haa))))))))
    · obtain ⟨j, hj, _, e⟩ := z
      rw [(hz.2 j hj).2.2.2] at e
      have bj := sl_pr_b (L := L) (xs := xs) (i := j)
      have := sl_pr_inj (L := L) (xs := xs) (i := j) (j := i) (by omega) (by omega) ((nI_eq (by omega) (by omega)).mp e)
      omega
    · by_cases q : s = i
      · subst q
        rw [pk_us, pk_us, pk_us, pk_us]
        exact ⟨rfl, rfl, rfl, rfl⟩
      · rw [pk_un q, pk_un q, pk_un q, pk_un q]
        exact hz.2 s (by omega)
theorem la_30 (hL : L ≤ 260) (hnt : sl_nt L xs = c) (hns : sl_ns L xs = n) (hpp : sl_p L xs = p) :
    ∀ (d i : Nat) (tM fR : Int32) (pe dl hd tl os ga tx rs cs pr pd nx bX na fl aa co ov mx rm sX lX : Nat → Int32), i + d = c → (∀ x, x < i → pe x = nI (sl_pe L xs x) ∧ dl x = nI (sl_dl L xs x)) → sn_Ch tx hd tl pd nx i 0 → pv_I i 0 tM fR pe dl tl os ga tx rs cs pr pd nx na fl aa ov mx rm → (∀ x, x < 8 → aa x = 0) →
      wL_law_30 (fun r => r = 1) L xs (nI c) (nI n) kc ks (d + 1) (nI i) (nI p) (nI 16) (nI i) (nI 0) 0 tM fR pe dl hd tl os ga tx rs cs pr pd nx bX na fl aa co ov mx rm sX lX := by
  have b1 := sl_nt_b (L := L) (xs := xs)
  intro d
  induction d with
  | zero =>
    intro i tM fR pe dl hd tl os ga tx rs cs pr pd nx bX na fl aa co ov mx rm sX lX hi hz hch hI haa
    have e : i = c := by omega
    subst e
    exact br_t (nI_le (by omega) (by omega)) ⟨n + 1, la_69 hL hnt hns hpp n 0 _ _ _ _ _ _ _ _ _ _ _ _ _ _ _ _ _ _ _ _ _ _ (by omega) ⟨hz, fun s hs => by omega⟩ hch hI haa⟩
  | succ d ih =>
    intro i tM fR pe dl hd tl os ga tx rs cs pr pd nx bX na fl aa co ov mx rm sX lX hi hz hch hI haa
    have bp := sl_pe_b (L := L) (xs := xs) (x := i)
    have bd := sl_dl_b (L := L) (xs := xs) (x := i)
    have zero : ∀ f : Nat → Int32, (∀ x, x < i → f x = nI (an_C f x) ∧ an_C f x ≤ 200) → ∀ x, x < i + 1 → upd f i 0 x = nI (an_C (upd f i 0) x) ∧ an_C (upd f i 0) x ≤ 200 := by
      intro f hf x hx
      unfold an_C
      by_cases q : x = i
      · rw [q, pk_us]
        exact ⟨by decide, by decide⟩
      · rw [pk_un q]
        exact hf x (by omega)
    refine br_f (nI_ge (by omega) (by omega)) (sl_pew hL (by omega) (sl_dlw hL (by omega) (pv_addt (n := 0) (by omega) (by omega) bd.1 bd.2 bp.2 (br_t rfl (nm_r (nI_1 i) (ih (i + 1) _ _ _ _ _ _ _ _ _ _ _ _ _ _ _ _ _ _ _ _ _ _ _ _ (by omega) (fun x hx => ?_) (sn_Ch_tx hch (fun s hs => by omega) (by omega)) (pv_rst (aaN := fun _ => 0) (zero os hI.1) (zero ga hI.2.1) (fun x hx => haa x (by omega))) haa))))))
    by_cases q : x = i
    · subst q
      rw [pk_us, pk_us]
      exact ⟨rfl, rfl⟩
    · rw [pk_un q, pk_un q]
      exact hz x (by omega)
end
end
section
/-! the law -/
theorem i_vc (xs : Nat → Int32) (L : Nat) (hL : L ≤ 260) : wpL_law (fun r => r = 1) L xs := by
  have b3 := sl_p_b (L := L) (xs := xs)
  unfold wpL_law
  refine sl_ntw hL (sl_nsw hL (sl_pw hL ⟨22, 249, by omega, by omega, ?_⟩))
  unfold wpX_init
  refine ⟨by omega, by omega, by omega, by omega, by omega, by omega, by omega, by omega, by omega, by omega, by omega, by omega, by omega, by omega, by omega, by omega, by omega, by omega, by omega, by omega, by omega, by omega, by omega, by omega, by omega, by omega, by omega, by omega, by omega, by omega, by omega, by omega, by omega, by omega, by omega, by omega, by omega, by omega, by omega, by omega, by omega, by omega, by omega, by omega, ?_⟩
  refine br_t (nI_le (a := 1) (b := sl_p L xs) b3.1 (by omega)) (br_t (nI_le (a := sl_p L xs) (b := 4) b3.2 (by omega)) (br_t (by decide) (br_t (by decide) ?_)))
  refine rs_x (c := 0) (n := 0) (by omega) (by omega) ?_
  exact ⟨sl_nt L xs + 1, la_30 hL rfl rfl rfl (sl_nt L xs) 0 _ _ _ _ _ _ _ _ _ _ _ _ _ _ _ _ _ _ _ _ _ _ _ _ (by omega) (fun x hx => by omega) ⟨fun x hx => by omega, fun x hx => by omega, fun x hx => by omega, fun x hx => by omega⟩ (pv_rst (c := 0) (n := 0) (aaN := fun _ => 0) (fun x hx => by omega) (fun x hx => by omega) (fun x hx => by omega)) (fun x hx => rfl)⟩
end
