/-! the analysis as pure mathematics: the operator F as a relation, monotone; its least fixpoint is unique; a measure of the rises.
    C, T, D: cost of a step, period and deadline of its transaction; pd: the step ahead of it in its chain, or -1; 1000000 is INF -/
section
variable (n : Nat) (rs pr pd : Nat → Int32) (C T D : Nat → Nat)
def fx_J (R : Nat → Nat) (j : Nat) : Nat := if pd j = -1 then 0 else R (pd j).toNatClampNeg
def fx_sm (J : Nat → Nat) (s sp : Nat) : Nat → Nat
  | 0 => 0
  | k + 1 => fx_sm J s sp k + (if rs k = rs s ∧ pr s < pr k then (sp + J k + T k - 1) / T k * C k else 0)
def fx_bl (s : Nat) : Nat → Nat
  | 0 => C s
  | k + 1 => if rs k = rs s ∧ pr k < pr s then (if fx_bl s k < C k then C k else fx_bl s k) else fx_bl s k
def fx_base (s : Nat) : Nat := if rs s = 8 then fx_bl rs pr C s n else C s
def fx_lead (s : Nat) : Nat := if rs s = 8 then 1 else 0
def fx_out (R : Nat → Nat) (s : Nat) : Nat := fx_J pd R s + (if rs s = 8 then C s else 0)
def fx_f (R : Nat → Nat) (s w : Nat) : Nat := fx_base n rs pr C s + fx_sm rs pr C T (fx_J pd R) s (w + fx_lead rs s) n
def fx_bad (R : Nat → Nat) (s : Nat) : Prop := ∃ j, j < n ∧ (j = s ∨ (rs j = rs s ∧ pr s < pr j)) ∧ fx_J pd R j = 1000000
def fx_Fr (R : Nat → Nat) (s r : Nat) : Prop :=
  (fx_bad n rs pr pd R s ∧ r = 1000000) ∨
  (¬ fx_bad n rs pr pd R s ∧
    ((∃ w, fx_f n rs pr pd C T R s w = w ∧ (∀ u, u < w → fx_f n rs pr pd C T R s u ≠ u) ∧ fx_out rs pd C R s + w ≤ D s ∧ r = fx_out rs pd C R s + w) ∨
     ((∀ w, fx_f n rs pr pd C T R s w = w → D s < fx_out rs pd C R s + w) ∧ r = 1000000)))
def fx_Fix (L : Nat → Nat) : Prop := (∀ s, s < n → L s ≤ 1000000) ∧ ∀ s, s < n → fx_Fr n rs pr pd C T D L s (L s)
def fx_VL (R : Nat → Nat) : Prop := ∀ s, s < n → R s ≤ 200 ∨ R s = 1000000
def fx_LB (R : Nat → Nat) : Prop := ∀ L, fx_Fix n rs pr pd C T D L → ∀ s, s < n → R s ≤ L s
def fx_PF (R : Nat → Nat) : Prop := ∀ Q : Nat → Nat, (∀ s, s < n → Q s ≤ 1000000) → (∀ s, s < n → R s ≤ Q s) → ∀ s, s < n → ∀ r, fx_Fr n rs pr pd C T D Q s r → R s ≤ r
def fx_Inv (R : Nat → Nat) : Prop := fx_VL n R ∧ fx_LB n rs pr pd C T D R ∧ fx_PF n rs pr pd C T D R
/-- what the configuration must keep -/
def fx_Cf : Prop := (∀ j, j < n → pd j = -1 ∨ (pd j).toNatClampNeg < n) ∧ ∀ s, s < n → D s ≤ 200
end
theorem fx_fixle {f : Nat → Nat} (hm : ∀ a b, a ≤ b → f a ≤ f b) : ∀ w, f w ≤ w → ∃ v, v ≤ w ∧ f v = v ∧ ∀ u, u < v → f u ≠ u := by
  intro w
  induction w using Nat.strongRecOn with
  | _ w ih =>
    intro h
    by_cases hx : ∃ u, u < w ∧ f u ≤ u
    · obtain ⟨u, hu, hf⟩ := hx
      obtain ⟨v, hv, e, hl⟩ := ih u hu hf
      exact ⟨v, by omega, e, hl⟩
    · have hn : ∀ u, u < w → ¬ f u ≤ u := fun u hu hf => hx ⟨u, hu, hf⟩
      refine ⟨w, Nat.le_refl w, ?_, fun u hu e => hn u hu (by omega)⟩
      by_cases he : f w < w
      · exact absurd (hm (f w) w h) (hn (f w) he)
      · omega
section
variable {n : Nat} {rs pr pd : Nat → Int32} {C T D : Nat → Nat}
theorem fx_J_le (hc : fx_Cf n pd D) {R R' : Nat → Nat} (h : ∀ t, t < n → R t ≤ R' t) {j : Nat} (hj : j < n) : fx_J pd R j ≤ fx_J pd R' j := by
  unfold fx_J
  by_cases e : pd j = -1
  · rw [if_pos e, if_pos e]; exact Nat.le_refl _
  · rw [if_neg e, if_neg e]
    cases hc.1 j hj with
    | inl z => exact absurd z e
    | inr z => exact h _ z
theorem fx_J_max (hc : fx_Cf n pd D) {R : Nat → Nat} (h : ∀ t, t < n → R t ≤ 1000000) {j : Nat} (hj : j < n) : fx_J pd R j ≤ 1000000 := by
  unfold fx_J
  by_cases e : pd j = -1
  · rw [if_pos e]; omega
  · rw [if_neg e]
    cases hc.1 j hj with
    | inl z => exact absurd z e
    | inr z => exact h _ z
theorem fx_sm_le {J J' : Nat → Nat} {s sp sp' : Nat} (hs : sp ≤ sp') : ∀ k, (∀ j, j < k → J j ≤ J' j) → fx_sm rs pr C T J s sp k ≤ fx_sm rs pr C T J' s sp' k := by
  intro k
  induction k with
  | zero => intro _; exact Nat.le_refl _
  | succ k ih =>
    intro h
    have a := ih (fun j hj => h j (by omega))
    have b := h k (by omega)
    simp only [fx_sm]
    by_cases e : rs k = rs s ∧ pr s < pr k
    · rw [if_pos e, if_pos e]
      exact Nat.add_le_add a (Nat.mul_le_mul_right _ (Nat.div_le_div_right (by omega)))
    · rw [if_neg e, if_neg e]; omega
theorem fx_f_le (hc : fx_Cf n pd D) {R R' : Nat → Nat} (h : ∀ t, t < n → R t ≤ R' t) {s a b : Nat} (hab : a ≤ b) : fx_f n rs pr pd C T R s a ≤ fx_f n rs pr pd C T R' s b := by
  unfold fx_f
  exact Nat.add_le_add_left (fx_sm_le (by omega) n (fun j hj => fx_J_le hc h hj)) _
theorem fx_val (hc : fx_Cf n pd D) {R : Nat → Nat} {s r : Nat} (hs : s < n) (h : fx_Fr n rs pr pd C T D R s r) : r ≤ 200 ∨ r = 1000000 := by
  have hd := hc.2 s hs
  rcases h with ⟨_, e⟩ | ⟨_, ⟨w, _, _, hw, e⟩ | ⟨_, e⟩⟩
  · exact Or.inr e
  · exact Or.inl (by omega)
  · exact Or.inr e
theorem fx_mono (hc : fx_Cf n pd D) {R R' : Nat → Nat} (hle : ∀ t, t < n → R t ≤ R' t) (hv : ∀ t, t < n → R' t ≤ 1000000) {s r r' : Nat} (hs : s < n) (h : fx_Fr n rs pr pd C T D R s r) (h' : fx_Fr n rs pr pd C T D R' s r') : r ≤ r' := by
  have hr := fx_val hc hs h
  rcases h' with ⟨_, e'⟩ | ⟨nb', ⟨w', ew', _, hw', e'⟩ | ⟨_, e'⟩⟩
  · omega
  · have nb : ¬ fx_bad n rs pr pd R s := by
      rintro ⟨j, hj, hcj, ej⟩
      have a := fx_J_le hc hle hj
      have b := fx_J_max hc hv hj
      exact nb' ⟨j, hj, hcj, by omega⟩
    have ho : fx_out rs pd C R s ≤ fx_out rs pd C R' s := Nat.add_le_add_right (fx_J_le hc hle hs) _
    have hf : fx_f n rs pr pd C T R s w' ≤ w' := Nat.le_trans (fx_f_le hc hle (Nat.le_refl w')) (Nat.le_of_eq ew')
    obtain ⟨v, hvw, ev, _⟩ := fx_fixle (f := fx_f n rs pr pd C T R s) (fun a b hab => fx_f_le hc (fun t _ => Nat.le_refl (R t)) hab) w' hf
    rcases h with ⟨b, _⟩ | ⟨_, ⟨w, ew, lw, hw, e⟩ | ⟨hno, _⟩⟩
    · exact absurd b nb
    · have hwv : w ≤ v := by
        by_cases c : w ≤ v
        · exact c
        · exact absurd ev (lw v (by omega))
      omega
    · have := hno v ev
      omega
  · omega
theorem fx_uniq (hc : fx_Cf n pd D) {R : Nat → Nat} (hv : ∀ t, t < n → R t ≤ 1000000) {s r r' : Nat} (hs : s < n) (h : fx_Fr n rs pr pd C T D R s r) (h' : fx_Fr n rs pr pd C T D R s r') : r = r' :=
  Nat.le_antisymm (fx_mono hc (fun t _ => Nat.le_refl (R t)) hv hs h h') (fx_mono hc (fun t _ => Nat.le_refl (R t)) hv hs h' h)
theorem fx_VL_le {R : Nat → Nat} (h : fx_VL n R) : ∀ t, t < n → R t ≤ 1000000 := fun t ht => by have := h t ht; omega
theorem fx_inv0 {R : Nat → Nat} (h : ∀ s, s < n → R s = 0) : fx_Inv n rs pr pd C T D R :=
  ⟨fun s hs => Or.inl (by rw [h s hs]; omega), fun _ _ s hs => by rw [h s hs]; omega, fun _ _ _ s hs _ _ => by rw [h s hs]; omega⟩
/-- one bound raised in place -/
theorem fx_step (hc : fx_Cf n pd D) {R : Nat → Nat} (I : fx_Inv n rs pr pd C T D R) {s r : Nat} (hs : s < n) (h : fx_Fr n rs pr pd C T D R s r) : R s ≤ r ∧ fx_Inv n rs pr pd C T D (fun t => if t = s then r else R t) := by
  obtain ⟨hV, hL, hP⟩ := I
  have hv := fx_VL_le hV
  have hsr : R s ≤ r := hP R hv (fun t _ => Nat.le_refl (R t)) s hs r h
  have hup : ∀ t, t < n → R t ≤ (if t = s then r else R t) := by
    intro t _
    by_cases e : t = s
    · rw [if_pos e, e]; exact hsr
    · rw [if_neg e]; exact Nat.le_refl _
  refine ⟨hsr, ?_, ?_, ?_⟩
  · intro t ht
    show (if t = s then r else R t) ≤ 200 ∨ (if t = s then r else R t) = 1000000
    by_cases e : t = s
    · rw [if_pos e]; exact fx_val hc hs h
    · rw [if_neg e]; exact hV t ht
  · intro L hF t ht
    show (if t = s then r else R t) ≤ L t
    by_cases e : t = s
    · rw [if_pos e, e]; exact fx_mono hc (hL L hF) hF.1 hs h (hF.2 s hs)
    · rw [if_neg e]; exact hL L hF t ht
  · intro Q hQ hRQ t ht q hq
    have hRQ' : ∀ t, t < n → R t ≤ Q t := fun t ht => Nat.le_trans (hup t ht) (hRQ t ht)
    show (if t = s then r else R t) ≤ q
    by_cases e : t = s
    · subst e
      rw [if_pos rfl]; exact fx_mono hc hRQ' hQ hs h hq
    · rw [if_neg e]; exact hP Q hQ hRQ' t ht q hq
/-- all bounds raised at once, each from the old ones -/
theorem fx_steps (hc : fx_Cf n pd D) {R Q : Nat → Nat} (I : fx_Inv n rs pr pd C T D R) (h : ∀ s, s < n → fx_Fr n rs pr pd C T D R s (Q s)) : (∀ s, s < n → R s ≤ Q s) ∧ fx_Inv n rs pr pd C T D Q := by
  obtain ⟨hV, hL, hP⟩ := I
  have hv := fx_VL_le hV
  have hup : ∀ t, t < n → R t ≤ Q t := fun t ht => hP R hv (fun t _ => Nat.le_refl (R t)) t ht (Q t) (h t ht)
  refine ⟨hup, fun t ht => fx_val hc ht (h t ht), ?_, ?_⟩
  · intro L hF t ht
    exact fx_mono hc (hL L hF) hF.1 ht (h t ht) (hF.2 t ht)
  · intro P hPm hQP t ht q hq
    exact fx_mono hc (fun a ha => Nat.le_trans (hup a ha) (hQP a ha)) hPm ht (h t ht) hq
theorem fx_end {R R' : Nat → Nat} (I : fx_Inv n rs pr pd C T D R) (I' : fx_Inv n rs pr pd C T D R') (h : ∀ s, s < n → fx_Fr n rs pr pd C T D R s (R s)) (h' : ∀ s, s < n → fx_Fr n rs pr pd C T D R' s (R' s)) : ∀ s, s < n → R s = R' s :=
  fun s hs => Nat.le_antisymm (I.2.1 R' ⟨fx_VL_le I'.1, h'⟩ s hs) (I'.2.1 R ⟨fx_VL_le I.1, h⟩ s hs)
end
def fx_rk (x : Nat) : Nat := if x ≤ 200 then x else 201
def fx_mu (R : Nat → Nat) : Nat → Nat
  | 0 => 0
  | k + 1 => fx_mu R k + fx_rk (R k)
theorem fx_rk_le (x : Nat) : fx_rk x ≤ 201 := by unfold fx_rk; split <;> omega
theorem fx_rk_mono {x y : Nat} (h : x ≤ y) : fx_rk x ≤ fx_rk y := by unfold fx_rk; split <;> split <;> omega
theorem fx_rk_lt {x y : Nat} (h : x < y) (hx : x ≤ 200 ∨ x = 1000000) (hy : y ≤ 200 ∨ y = 1000000) : fx_rk x < fx_rk y := by unfold fx_rk; split <;> split <;> omega
theorem fx_mu_max (R : Nat → Nat) : ∀ k, fx_mu R k ≤ 201 * k := by
  intro k
  induction k with
  | zero => exact Nat.le_refl _
  | succ k ih =>
    have := fx_rk_le (R k)
    simp only [fx_mu]
    omega
theorem fx_mu_le {R Q : Nat → Nat} : ∀ k, (∀ s, s < k → R s ≤ Q s) → fx_mu R k ≤ fx_mu Q k := by
  intro k
  induction k with
  | zero => intro _; exact Nat.le_refl _
  | succ k ih =>
    intro h
    have a := ih (fun s hs => h s (by omega))
    have b := fx_rk_mono (h k (by omega))
    simp only [fx_mu]
    omega
theorem fx_mu_lt {R Q : Nat → Nat} {n : Nat} (hR : fx_VL n R) (hQ : fx_VL n Q) : ∀ k, k ≤ n → (∀ s, s < k → R s ≤ Q s) → ∀ s, s < k → R s ≠ Q s → fx_mu R k < fx_mu Q k := by
  intro k
  induction k with
  | zero => intro _ _ s hs; omega
  | succ k ih =>
    intro hk h s hs hne
    have b := fx_rk_mono (h k (by omega))
    simp only [fx_mu]
    by_cases e : s = k
    · subst e
      have a := fx_mu_le s (fun t ht => h t (by omega))
      have c := fx_rk_lt (Nat.lt_of_le_of_ne (h s (by omega)) hne) (hR s (by omega)) (hQ s (by omega))
      omega
    · have a := ih (by omega) (fun t ht => h t (by omega)) s (by omega) hne
      omega
