section
/-! base: rows pasted from the kit's rows to paste (pk_), and small ones of my own (bs_) -/
theorem pk_us {f : Nat → Int32} {k : Nat} {x : Int32} : upd f k x k = x := if_pos rfl
theorem pk_un {f : Nat → Int32} {k j : Nat} {x : Int32} (h : j ≠ k) : upd f k x j = f j := if_neg h
theorem pk_sub {a b : Nat} (h : b ≤ a) : nI a - nI b = nI (a - b) := by
  obtain ⟨c, rfl⟩ : ∃ c, a = c + b := ⟨a - b, by omega⟩
  rw [← nI_add, Int32.add_sub_cancel, Nat.add_sub_cancel]
theorem pk_m1 (n : Nat) : nI (n + 1) + (-1) = nI n := by
  rw [← nI_1, Int32.add_assoc, show (1 : Int32) + (-1) = 0 from rfl, Int32.add_zero]
theorem pk_mul (a b : Nat) : nI a * nI b = nI (a * b) := (Int32.ofNat_mul a b).symm
theorem pk_div {a d : Nat} (ha : a < 2 ^ 31) (h0 : 0 < d) (hd : d < 2 ^ 31) : nI a / nI d = nI (a / d) := by
  apply Int32.toInt_inj.mp
  rw [lg_idiv_nonneg (by rw [nI_toInt ha]; omega) (by rw [nI_toInt hd]; omega), nI_toInt ha, nI_toInt hd, nI_toInt (Nat.lt_of_le_of_lt (Nat.div_le_self a d) ha)]
  first | rfl | exact (Int.natCast_ediv _ _).symm
theorem pk_sub_toInt {a b : Nat} (ha : a < 2 ^ 30) (hb : b < 2 ^ 30) : (nI a - nI b).toInt = (a : Int) - b := by
  rw [Int32.toInt_sub, nI_toInt (by omega), nI_toInt (by omega)]
  exact Int.bmod_eq_of_le (by omega) (by omega)
theorem pk_sneg {a b : Nat} (hb : b < 2 ^ 30) (h : a < b) : nI a - nI b < 0 := by
  rw [Int32.lt_iff_toInt_lt, pk_sub_toInt (by omega) hb, show (0 : Int32).toInt = 0 from by decide]
  omega
theorem pk_ix (x : Int32) {n : Nat} (hn : n < 2 ^ 31) : x < 0 ∨ nI n ≤ x ∨ ∃ j : Nat, j < n ∧ x = nI j := by
  by_cases h : x < 0
  · exact Or.inl h
  · obtain ⟨j, hj, rfl⟩ := nI_of h
    by_cases h2 : j < n
    · exact Or.inr (Or.inr ⟨j, h2, rfl⟩)
    · exact Or.inr (Or.inl (nI_le (by omega) hj))
theorem pk_le {x y : Int32} {A B : Prop} (a b : Nat) (f : a ≤ b → A) (g : b < a → B) (hx : x = nI a := by rfl) (hy : y = nI b := by rfl) (ha : a < 2 ^ 31 := by omega) (hb : b < 2 ^ 31 := by omega) : (x ≤ y → A) ∧ (¬ x ≤ y → B) := by
  subst hx hy
  rw [nI_leI ha hb]
  exact ⟨f, fun z => g (by omega)⟩
theorem pk_lt {x y : Int32} {A B : Prop} (a b : Nat) (f : a < b → A) (g : b ≤ a → B) (hx : x = nI a := by rfl) (hy : y = nI b := by rfl) (ha : a < 2 ^ 31 := by omega) (hb : b < 2 ^ 31 := by omega) : (x < y → A) ∧ (¬ x < y → B) := by
  subst hx hy
  rw [nI_ltI ha hb]
  exact ⟨f, fun z => g (by omega)⟩
theorem pk_eq {x y : Int32} {A B : Prop} (a b : Nat) (f : a = b → A) (g : a ≠ b → B) (hx : x = nI a := by rfl) (hy : y = nI b := by rfl) (ha : a < 2 ^ 31 := by omega) (hb : b < 2 ^ 31 := by omega) : (x = y → A) ∧ (¬ x = y → B) := by
  subst hx hy
  rw [nI_eq ha hb]
  exact ⟨f, g⟩
theorem pk_in {x : Int32} (n N : Nat) (h : n < N) (hx : x = nI n := by rfl) (hN : N < 2 ^ 31 := by omega) : vp_in x N := by
  subst hx
  exact vp_in_nI h hN
theorem pk_cl {x : Int32} (n : Nat) (hx : x = nI n := by rfl) (h : n < 2 ^ 31 := by omega) : x.toNatClampNeg = n := by
  subst hx
  exact nI_clamp h
theorem pk_loop {σ : Type} (W : Nat → Nat → σ → Prop) (I : Nat → σ → Prop) (e i0 : Nat) (s : σ) (hi : i0 ≤ e) (h0 : I i0 s) (hx : ∀ n s, I e s → W (n + 1) e s)
    (hs : ∀ n i s, i < e → I i s → (∀ s', I (i + 1) s' → W n (i + 1) s') → W (n + 1) i s) : ∃ n, W n i0 s :=
  ⟨e + 1, loop_i W I e hx hs (e + 1) i0 s hi (by omega) h0⟩
theorem bs_ne {i : Nat} (h : i < 2 ^ 31) : ¬ nI i = -1 := by
  intro e
  have a := nI_pos (n := i) h
  rw [e] at a
  exact a (by decide)
theorem bs_upd_self (f : Nat → Int32) (k : Nat) : upd f k (f k) = f := by
  funext j
  by_cases e : j = k
  · rw [e, pk_us]
  · rw [pk_un e]
theorem bs_b0 : vp_nar .boolean 0 = 0 := by decide
theorem bs_b1 : vp_nar .boolean 1 = 1 := by decide
/-- the first i places from g, the rest from f -/
def bs_mz (f g : Nat → Int32) (i : Nat) : Nat → Int32 := fun j => if j < i then g j else f j
theorem bs_mz0 (f g : Nat → Int32) : bs_mz f g 0 = f := by
  funext j
  exact if_neg (Nat.not_lt_zero j)
theorem bs_mzs (f g : Nat → Int32) (i : Nat) : upd (bs_mz f g i) i (g i) = bs_mz f g (i + 1) := by
  funext j
  by_cases e : j = i
  · subst e
    rw [pk_us]
    exact (if_pos (Nat.lt_succ_self j)).symm
  · rw [pk_un e]
    by_cases h : j < i
    · exact (if_pos h).trans (if_pos (by omega : j < i + 1)).symm
    · exact (if_neg h).trans (if_neg (by omega : ¬ j < i + 1)).symm
theorem bs_mz_lt {f g : Nat → Int32} {i j : Nat} (h : j < i) : bs_mz f g i j = g j := if_pos h
theorem bs_mz_ge {f g : Nat → Int32} {i j : Nat} (h : i ≤ j) : bs_mz f g i j = f j := if_neg (by omega)
theorem bs_mz_all {f : Nat → Int32} {v : Int32} {i : Nat} (h : ∀ j, i ≤ j → f j = v) : bs_mz f (fun _ => v) i = fun _ => v := by
  funext j
  by_cases e : j < i
  · exact if_pos e
  · exact (if_neg e).trans (h j (by omega))
theorem bs_mz_more {f : Nat → Int32} {v : Int32} {i k : Nat} (h : ∀ j, i ≤ j → f j = v) (hk : i ≤ k) : bs_mz f (fun _ => v) k = fun _ => v := bs_mz_all (fun j hj => h j (by omega))
end
section
/-! the analysis as pure mathematics: the operator F as a relation, monotone; its least fixpoint is unique; a measure of the rises.
    C, T, D: cost of a step, period and deadline of its transaction; pd: the step ahead of it in its chain, or -1; 1000000 is INF -/
section
variable (n : Nat) (rs pr pd : Nat → Int32) (C T D : Nat → Nat)
def fx_J (R : Nat → Nat) (j : Nat) : Nat := if pd j = -1 then 0 else R (pd j).toNatClampNeg
def fx_sm (J : Nat → Nat) (s sp : Nat) : Nat → Nat
  | 0 => 0
  | k + 1 => fx_sm J s sp k + (if rs k = rs s ∧ pr s < pr k then (sp + J k + T k - 1) / T k * C k else 0)
def fx_bl (s : Nat) : Nat → Nat
  | 0 => C s
  | k + 1 => if rs k = rs s ∧ pr k < pr s then (if fx_bl s k < C k then C k else fx_bl s k) else fx_bl s k
def fx_base (s : Nat) : Nat := if rs s = 8 then fx_bl rs pr C s n else C s
def fx_lead (s : Nat) : Nat := if rs s = 8 then 1 else 0
def fx_out (R : Nat → Nat) (s : Nat) : Nat := fx_J pd R s + (if rs s = 8 then C s else 0)
def fx_f (R : Nat → Nat) (s w : Nat) : Nat := fx_base n rs pr C s + fx_sm rs pr C T (fx_J pd R) s (w + fx_lead rs s) n
def fx_bad (R : Nat → Nat) (s : Nat) : Prop := ∃ j, j < n ∧ (j = s ∨ (rs j = rs s ∧ pr s < pr j)) ∧ fx_J pd R j = 1000000
def fx_Fr (R : Nat → Nat) (s r : Nat) : Prop :=
  (fx_bad n rs pr pd R s ∧ r = 1000000) ∨
  (¬ fx_bad n rs pr pd R s ∧
    ((∃ w, fx_f n rs pr pd C T R s w = w ∧ (∀ u, u < w → fx_f n rs pr pd C T R s u ≠ u) ∧ fx_out rs pd C R s + w ≤ D s ∧ r = fx_out rs pd C R s + w) ∨
     ((∀ w, fx_f n rs pr pd C T R s w = w → D s < fx_out rs pd C R s + w) ∧ r = 1000000)))
def fx_Fix (L : Nat → Nat) : Prop := (∀ s, s < n → L s ≤ 1000000) ∧ ∀ s, s < n → fx_Fr n rs pr pd C T D L s (L s)
def fx_VL (R : Nat → Nat) : Prop := ∀ s, s < n → R s ≤ 200 ∨ R s = 1000000
def fx_LB (R : Nat → Nat) : Prop := ∀ L, fx_Fix n rs pr pd C T D L → ∀ s, s < n → R s ≤ L s
def fx_PF (R : Nat → Nat) : Prop := ∀ Q : Nat → Nat, (∀ s, s < n → Q s ≤ 1000000) → (∀ s, s < n → R s ≤ Q s) → ∀ s, s < n → ∀ r, fx_Fr n rs pr pd C T D Q s r → R s ≤ r
def fx_Inv (R : Nat → Nat) : Prop := fx_VL n R ∧ fx_LB n rs pr pd C T D R ∧ fx_PF n rs pr pd C T D R
/-- what the configuration must keep -/
def fx_Cf : Prop := (∀ j, j < n → pd j = -1 ∨ (pd j).toNatClampNeg < n) ∧ ∀ s, s < n → D s ≤ 200
end
theorem fx_fixle {f : Nat → Nat} (hm : ∀ a b, a ≤ b → f a ≤ f b) : ∀ w, f w ≤ w → ∃ v, v ≤ w ∧ f v = v ∧ ∀ u, u < v → f u ≠ u := by
  intro w
  induction w using Nat.strongRecOn with
  | _ w ih =>
    intro h
    by_cases hx : ∃ u, u < w ∧ f u ≤ u
    · obtain ⟨u, hu, hf⟩ := hx
      obtain ⟨v, hv, e, hl⟩ := ih u hu hf
      exact ⟨v, by omega, e, hl⟩
    · have hn : ∀ u, u < w → ¬ f u ≤ u := fun u hu hf => hx ⟨u, hu, hf⟩
      refine ⟨w, Nat.le_refl w, ?_, fun u hu e => hn u hu (by omega)⟩
      by_cases he : f w < w
      · exact absurd (hm (f w) w h) (hn (f w) he)
      · omega
section
variable {n : Nat} {rs pr pd : Nat → Int32} {C T D : Nat → Nat}
theorem fx_J_le (hc : fx_Cf n pd D) {R R' : Nat → Nat} (h : ∀ t, t < n → R t ≤ R' t) {j : Nat} (hj : j < n) : fx_J pd R j ≤ fx_J pd R' j := by
  unfold fx_J
  by_cases e : pd j = -1
  · rw [if_pos e, if_pos e]; exact Nat.le_refl _
  · rw [if_neg e, if_neg e]
    cases hc.1 j hj with
    | inl z => exact absurd z e
    | inr z => exact h _ z
theorem fx_J_max (hc : fx_Cf n pd D) {R : Nat → Nat} (h : ∀ t, t < n → R t ≤ 1000000) {j : Nat} (hj : j < n) : fx_J pd R j ≤ 1000000 := by
  unfold fx_J
  by_cases e : pd j = -1
  · rw [if_pos e]; omega
  · rw [if_neg e]
    cases hc.1 j hj with
    | inl z => exact absurd z e
    | inr z => exact h _ z
theorem fx_sm_le {J J' : Nat → Nat} {s sp sp' : Nat} (hs : sp ≤ sp') : ∀ k, (∀ j, j < k → J j ≤ J' j) → fx_sm rs pr C T J s sp k ≤ fx_sm rs pr C T J' s sp' k := by
  intro k
  induction k with
  | zero => intro _; exact Nat.le_refl _
  | succ k ih =>
    intro h
    have a := ih (fun j hj => h j (by omega))
    have b := h k (by omega)
    simp only [fx_sm]
    by_cases e : rs k = rs s ∧ pr s < pr k
    · rw [if_pos e, if_pos e]
      exact Nat.add_le_add a (Nat.mul_le_mul_right _ (Nat.div_le_div_right (by omega)))
    · rw [if_neg e, if_neg e]; omega
theorem fx_f_le (hc : fx_Cf n pd D) {R R' : Nat → Nat} (h : ∀ t, t < n → R t ≤ R' t) {s a b : Nat} (hab : a ≤ b) : fx_f n rs pr pd C T R s a ≤ fx_f n rs pr pd C T R' s b := by
  unfold fx_f
  exact Nat.add_le_add_left (fx_sm_le (by omega) n (fun j hj => fx_J_le hc h hj)) _
theorem fx_val (hc : fx_Cf n pd D) {R : Nat → Nat} {s r : Nat} (hs : s < n) (h : fx_Fr n rs pr pd C T D R s r) : r ≤ 200 ∨ r = 1000000 := by
  have hd := hc.2 s hs
  rcases h with ⟨_, e⟩ | ⟨_, ⟨w, _, _, hw, e⟩ | ⟨_, e⟩⟩
  · exact Or.inr e
  · exact Or.inl (by omega)
  · exact Or.inr e
theorem fx_mono (hc : fx_Cf n pd D) {R R' : Nat → Nat} (hle : ∀ t, t < n → R t ≤ R' t) (hv : ∀ t, t < n → R' t ≤ 1000000) {s r r' : Nat} (hs : s < n) (h : fx_Fr n rs pr pd C T D R s r) (h' : fx_Fr n rs pr pd C T D R' s r') : r ≤ r' := by
  have hr := fx_val hc hs h
  rcases h' with ⟨_, e'⟩ | ⟨nb', ⟨w', ew', _, hw', e'⟩ | ⟨_, e'⟩⟩
  · omega
  · have nb : ¬ fx_bad n rs pr pd R s := by
      rintro ⟨j, hj, hcj, ej⟩
      have a := fx_J_le hc hle hj
      have b := fx_J_max hc hv hj
      exact nb' ⟨j, hj, hcj, by omega⟩
    have ho : fx_out rs pd C R s ≤ fx_out rs pd C R' s := Nat.add_le_add_right (fx_J_le hc hle hs) _
    have hf : fx_f n rs pr pd C T R s w' ≤ w' := Nat.le_trans (fx_f_le hc hle (Nat.le_refl w')) (Nat.le_of_eq ew')
    obtain ⟨v, hvw, ev, _⟩ := fx_fixle (f := fx_f n rs pr pd C T R s) (fun a b hab => fx_f_le hc (fun t _ => Nat.le_refl (R t)) hab) w' hf
    rcases h with ⟨b, _⟩ | ⟨_, ⟨w, ew, lw, hw, e⟩ | ⟨hno, _⟩⟩
    · exact absurd b nb
    · have hwv : w ≤ v := by
        by_cases c : w ≤ v
        · exact c
        · exact absurd ev (lw v (by omega))
      omega
    · have := hno v ev
      omega
  · omega
theorem fx_uniq (hc : fx_Cf n pd D) {R : Nat → Nat} (hv : ∀ t, t < n → R t ≤ 1000000) {s r r' : Nat} (hs : s < n) (h : fx_Fr n rs pr pd C T D R s r) (h' : fx_Fr n rs pr pd C T D R s r') : r = r' :=
  Nat.le_antisymm (fx_mono hc (fun t _ => Nat.le_refl (R t)) hv hs h h') (fx_mono hc (fun t _ => Nat.le_refl (R t)) hv hs h' h)
theorem fx_VL_le {R : Nat → Nat} (h : fx_VL n R) : ∀ t, t < n → R t ≤ 1000000 := fun t ht => by have := h t ht; omega
theorem fx_inv0 {R : Nat → Nat} (h : ∀ s, s < n → R s = 0) : fx_Inv n rs pr pd C T D R :=
  ⟨fun s hs => Or.inl (by rw [h s hs]; omega), fun _ _ s hs => by rw [h s hs]; omega, fun _ _ _ s hs _ _ => by rw [h s hs]; omega⟩
/-- one bound raised in place -/
theorem fx_step (hc : fx_Cf n pd D) {R : Nat → Nat} (I : fx_Inv n rs pr pd C T D R) {s r : Nat} (hs : s < n) (h : fx_Fr n rs pr pd C T D R s r) : R s ≤ r ∧ fx_Inv n rs pr pd C T D (fun t => if t = s then r else R t) := by
  obtain ⟨hV, hL, hP⟩ := I
  have hv := fx_VL_le hV
  have hsr : R s ≤ r := hP R hv (fun t _ => Nat.le_refl (R t)) s hs r h
  have hup : ∀ t, t < n → R t ≤ (if t = s then r else R t) := by
    intro t _
    by_cases e : t = s
    · rw [if_pos e, e]; exact hsr
    · rw [if_neg e]; exact Nat.le_refl _
  refine ⟨hsr, ?_, ?_, ?_⟩
  · intro t ht
    show (if t = s then r else R t) ≤ 200 ∨ (if t = s then r else R t) = 1000000
    by_cases e : t = s
    · rw [if_pos e]; exact fx_val hc hs h
    · rw [if_neg e]; exact hV t ht
  · intro L hF t ht
    show (if t = s then r else R t) ≤ L t
    by_cases e : t = s
    · rw [if_pos e, e]; exact fx_mono hc (hL L hF) hF.1 hs h (hF.2 s hs)
    · rw [if_neg e]; exact hL L hF t ht
  · intro Q hQ hRQ t ht q hq
    have hRQ' : ∀ t, t < n → R t ≤ Q t := fun t ht => Nat.le_trans (hup t ht) (hRQ t ht)
    show (if t = s then r else R t) ≤ q
    by_cases e : t = s
    · subst e
      rw [if_pos rfl]; exact fx_mono hc hRQ' hQ hs h hq
    · rw [if_neg e]; exact hP Q hQ hRQ' t ht q hq
/-- all bounds raised at once, each from the old ones -/
theorem fx_steps (hc : fx_Cf n pd D) {R Q : Nat → Nat} (I : fx_Inv n rs pr pd C T D R) (h : ∀ s, s < n → fx_Fr n rs pr pd C T D R s (Q s)) : (∀ s, s < n → R s ≤ Q s) ∧ fx_Inv n rs pr pd C T D Q := by
  obtain ⟨hV, hL, hP⟩ := I
  have hv := fx_VL_le hV
  have hup : ∀ t, t < n → R t ≤ Q t := fun t ht => hP R hv (fun t _ => Nat.le_refl (R t)) t ht (Q t) (h t ht)
  refine ⟨hup, fun t ht => fx_val hc ht (h t ht), ?_, ?_⟩
  · intro L hF t ht
    exact fx_mono hc (hL L hF) hF.1 ht (h t ht) (hF.2 t ht)
  · intro P hPm hQP t ht q hq
    exact fx_mono hc (fun a ha => Nat.le_trans (hup a ha) (hQP a ha)) hPm ht (h t ht) hq
theorem fx_end {R R' : Nat → Nat} (I : fx_Inv n rs pr pd C T D R) (I' : fx_Inv n rs pr pd C T D R') (h : ∀ s, s < n → fx_Fr n rs pr pd C T D R s (R s)) (h' : ∀ s, s < n → fx_Fr n rs pr pd C T D R' s (R' s)) : ∀ s, s < n → R s = R' s :=
  fun s hs => Nat.le_antisymm (I.2.1 R' ⟨fx_VL_le I'.1, h'⟩ s hs) (I'.2.1 R ⟨fx_VL_le I.1, h⟩ s hs)
end
def fx_rk (x : Nat) : Nat := if x ≤ 200 then x else 201
def fx_mu (R : Nat → Nat) : Nat → Nat
  | 0 => 0
  | k + 1 => fx_mu R k + fx_rk (R k)
theorem fx_rk_le (x : Nat) : fx_rk x ≤ 201 := by unfold fx_rk; split <;> omega
theorem fx_rk_mono {x y : Nat} (h : x ≤ y) : fx_rk x ≤ fx_rk y := by unfold fx_rk; split <;> split <;> omega
theorem fx_rk_lt {x y : Nat} (h : x < y) (hx : x ≤ 200 ∨ x = 1000000) (hy : y ≤ 200 ∨ y = 1000000) : fx_rk x < fx_rk y := by unfold fx_rk; split <;> split <;> omega
theorem fx_mu_max (R : Nat → Nat) : ∀ k, fx_mu R k ≤ 201 * k := by
  intro k
  induction k with
  | zero => exact Nat.le_refl _
  | succ k ih =>
    have := fx_rk_le (R k)
    simp only [fx_mu]
    omega
theorem fx_mu_le {R Q : Nat → Nat} : ∀ k, (∀ s, s < k → R s ≤ Q s) → fx_mu R k ≤ fx_mu Q k := by
  intro k
  induction k with
  | zero => intro _; exact Nat.le_refl _
  | succ k ih =>
    intro h
    have a := ih (fun s hs => h s (by omega))
    have b := fx_rk_mono (h k (by omega))
    simp only [fx_mu]
    omega
theorem fx_mu_lt {R Q : Nat → Nat} {n : Nat} (hR : fx_VL n R) (hQ : fx_VL n Q) : ∀ k, k ≤ n → (∀ s, s < k → R s ≤ Q s) → ∀ s, s < k → R s ≠ Q s → fx_mu R k < fx_mu Q k := by
  intro k
  induction k with
  | zero => intro _ _ s hs; omega
  | succ k ih =>
    intro hk h s hs hne
    have b := fx_rk_mono (h k (by omega))
    simp only [fx_mu]
    by_cases e : s = k
    · subst e
      have a := fx_mu_le s (fun t ht => h t (by omega))
      have c := fx_rk_lt (Nat.lt_of_le_of_ne (h s (by omega)) hne) (hR s (by omega)) (hQ s (by omega))
      omega
    · have a := ih (by omega) (fun t ht => h t (by omega)) s (by omega) hne
      omega
end
section
/-! scans: the first and the last step of a transaction within a stretch, the most urgent pending step of a resource; the chain arrays -/
theorem sn_ne {i : Nat} (h : i < 2 ^ 31) : ¬ nI i = -1 := bs_ne h
def sn_F (t : Nat → Int32) (x : Int32) : Nat → Nat → Int32
  | 0, _ => -1
  | k + 1, i => if t i = x then nI i else sn_F t x k (i + 1)
def sn_L (t : Nat → Int32) (x : Int32) : Nat → Int32
  | 0 => -1
  | k + 1 => if t k = x then nI k else sn_L t x k
theorem sn_F_some (t : Nat → Int32) (x : Int32) : ∀ k i, (sn_F t x k i = -1 ∧ ∀ j, i ≤ j → j < i + k → t j ≠ x) ∨ ∃ j, i ≤ j ∧ j < i + k ∧ sn_F t x k i = nI j ∧ t j = x ∧ ∀ m, i ≤ m → m < j → t m ≠ x := by
  intro k
  induction k with
  | zero => intro i; exact Or.inl ⟨rfl, fun j h1 h2 => by omega⟩
  | succ k ih =>
    intro i
    simp only [sn_F]
    by_cases e : t i = x
    · rw [if_pos e]
      exact Or.inr ⟨i, Nat.le_refl i, by omega, rfl, e, fun m h1 h2 => by omega⟩
    · rw [if_neg e]
      rcases ih (i + 1) with ⟨a, b⟩ | ⟨j, h1, h2, a, b, c⟩
      · refine Or.inl ⟨a, fun j h1 h2 => ?_⟩
        by_cases z : j = i
        · rw [z]; exact e
        · exact b j (by omega) (by omega)
      · refine Or.inr ⟨j, by omega, by omega, a, b, fun m h3 h4 => ?_⟩
        by_cases z : m = i
        · rw [z]; exact e
        · exact c m (by omega) h4
theorem sn_L_some (t : Nat → Int32) (x : Int32) : ∀ k, (sn_L t x k = -1 ∧ ∀ j, j < k → t j ≠ x) ∨ ∃ j, j < k ∧ sn_L t x k = nI j ∧ t j = x ∧ ∀ m, j < m → m < k → t m ≠ x := by
  intro k
  induction k with
  | zero => exact Or.inl ⟨rfl, fun j h => by omega⟩
  | succ k ih =>
    simp only [sn_L]
    by_cases e : t k = x
    · rw [if_pos e]
      exact Or.inr ⟨k, by omega, rfl, e, fun m h1 h2 => by omega⟩
    · rw [if_neg e]
      rcases ih with ⟨a, b⟩ | ⟨j, h1, a, b, c⟩
      · refine Or.inl ⟨a, fun j h => ?_⟩
        by_cases z : j = k
        · rw [z]; exact e
        · exact b j (by omega)
      · refine Or.inr ⟨j, by omega, a, b, fun m h3 h4 => ?_⟩
        by_cases z : m = k
        · rw [z]; exact e
        · exact c m h3 (by omega)
theorem sn_L_eq {t t' : Nat → Int32} (x : Int32) : ∀ k, (∀ j, j < k → t' j = t j) → sn_L t' x k = sn_L t x k := by
  intro k
  induction k with
  | zero => intro _; rfl
  | succ k ih =>
    intro h
    simp only [sn_L]
    rw [h k (by omega), ih (fun j hj => h j (by omega))]
theorem sn_F_t {t : Nat → Int32} {x : Int32} {k i : Nat} (e : t i = x) : sn_F t x (k + 1) i = nI i := if_pos e
theorem sn_F_n {t : Nat → Int32} {x : Int32} {k i : Nat} (e : ¬ t i = x) : sn_F t x (k + 1) i = sn_F t x k (i + 1) := if_neg e
theorem sn_F_up (t : Nat → Int32) (x y : Int32) (m : Nat) (hm : m < 2 ^ 31) : ∀ k i, i + k = m → sn_F (upd t m y) x (k + 1) i = if sn_F t x k i = -1 then (if y = x then nI m else -1) else sn_F t x k i := by
  intro k
  induction k with
  | zero =>
    intro i hi
    have e : i = m := by omega
    subst e
    have z : sn_F t x 0 i = -1 := rfl
    rw [z, if_pos rfl]
    have u : upd t i y i = y := if_pos rfl
    by_cases q : y = x
    · rw [sn_F_t (by rw [u]; exact q), if_pos q]
    · rw [sn_F_n (by rw [u]; exact q), if_neg q]; rfl
  | succ k ih =>
    intro i hi
    have u : upd t m y i = t i := if_neg (by omega)
    have a := ih (i + 1) (by omega)
    by_cases e : t i = x
    · rw [sn_F_t (by rw [u]; exact e), sn_F_t e, if_neg (sn_ne (by omega))]
    · rw [sn_F_n (by rw [u]; exact e), sn_F_n e, a]
/-- head, tail, pred and next are what scans of txOf find -/
def sn_Ch (t hd tl pd nx : Nat → Int32) (c n : Nat) : Prop :=
  (∀ x, x < c → hd x = sn_F t (nI x) n 0) ∧ (∀ x, x < c → tl x = sn_L t (nI x) n) ∧ (∀ s, s < n → pd s = sn_L t (t s) s) ∧ (∀ s, s < n → nx s = sn_F t (t s) (n - (s + 1)) (s + 1))
theorem sn_Ch_tx {t hd tl pd nx : Nat → Int32} {c n : Nat} (h : sn_Ch t hd tl pd nx c n) (ht : ∀ s, s < n → ∃ y, y < c ∧ t s = nI y) (hc : c < 8) : sn_Ch t (upd hd c (-1)) (upd tl c (-1)) pd nx (c + 1) n := by
  obtain ⟨h1, h2, h3, h4⟩ := h
  have hno : ∀ j, j < n → t j ≠ nI c := by
    intro j hj e
    obtain ⟨y, hy, ey⟩ := ht j hj
    rw [ey, nI_eq (by omega) (by omega)] at e
    omega
  refine ⟨fun x hx => ?_, fun x hx => ?_, h3, h4⟩
  · by_cases e : x = c
    · subst e
      rw [show upd hd x (-1) x = -1 from if_pos rfl]
      rcases sn_F_some t (nI x) n 0 with ⟨a, _⟩ | ⟨j, _, b, _, d, _⟩
      · exact a.symm
      · exact absurd d (hno j (by omega))
    · rw [show upd hd c (-1) x = hd x from if_neg e]
      exact h1 x (by omega)
  · by_cases e : x = c
    · subst e
      rw [show upd tl x (-1) x = -1 from if_pos rfl]
      rcases sn_L_some t (nI x) n with ⟨a, _⟩ | ⟨j, b, _, d, _⟩
      · exact a.symm
      · exact absurd d (hno j b)
    · rw [show upd tl c (-1) x = tl x from if_neg e]
      exact h2 x (by omega)
theorem sn_Ch_step {t hd tl pd nx : Nat → Int32} {c n x : Nat} (h : sn_Ch t hd tl pd nx c n) (hn : n < 16) (hx : x < c) (hc : c ≤ 8) :
    (tl x = -1 ∧ sn_Ch (upd t n (nI x)) (upd hd x (nI n)) (upd tl x (nI n)) (upd pd n (-1)) (upd nx n (-1)) c (n + 1)) ∨
    ∃ l, l < n ∧ tl x = nI l ∧ sn_Ch (upd t n (nI x)) hd (upd tl x (nI n)) (upd pd n (nI l)) (upd (upd nx n (-1)) l (nI n)) c (n + 1) := by
  obtain ⟨h1, h2, h3, h4⟩ := h
  have hT : ∀ y, y < c → upd tl x (nI n) y = sn_L (upd t n (nI x)) (nI y) (n + 1) := by
    intro y hy
    rw [sn_L, show upd t n (nI x) n = nI x from if_pos rfl]
    by_cases e : y = x
    · subst e
      rw [if_pos rfl]; exact if_pos rfl
    · have ne : ¬ nI x = nI y := by rw [nI_eq (by omega) (by omega)]; omega
      rw [if_neg ne, show upd tl x (nI n) y = tl y from if_neg e, h2 y hy]
      exact (sn_L_eq (nI y) n (fun j hj => if_neg (by omega))).symm
  have hP : ∀ p, p = tl x → ∀ s, s < n + 1 → upd pd n p s = sn_L (upd t n (nI x)) (upd t n (nI x) s) s := by
    intro p ep s hs
    by_cases e : s = n
    · subst e
      rw [show upd pd s p s = p from if_pos rfl, show upd t s (nI x) s = nI x from if_pos rfl, ep, h2 x hx]
      exact (sn_L_eq (nI x) s (fun j hj => if_neg (by omega))).symm
    · rw [show upd pd n p s = pd s from if_neg e, show upd t n (nI x) s = t s from if_neg e, h3 s (by omega)]
      exact (sn_L_eq (t s) s (fun j hj => if_neg (by omega))).symm
  have hH : ∀ y, y < c → sn_F (upd t n (nI x)) (nI y) (n + 1) 0 = if hd y = -1 then (if x = y then nI n else -1) else hd y := by
    intro y hy
    rw [sn_F_up t (nI y) (nI x) n (by omega) n 0 (by omega), ← h1 y hy]
    by_cases e : x = y
    · subst e
      rw [if_pos rfl, if_pos rfl]
    · have ne : ¬ nI x = nI y := by rw [nI_eq (by omega) (by omega)]; exact e
      rw [if_neg e, if_neg ne]
  have hN : ∀ s, s < n → sn_F (upd t n (nI x)) (upd t n (nI x) s) (n + 1 - (s + 1)) (s + 1) = if nx s = -1 then (if nI x = t s then nI n else -1) else nx s := by
    intro s hs
    rw [show n + 1 - (s + 1) = n - (s + 1) + 1 from by omega, show upd t n (nI x) s = t s from if_neg (by omega), sn_F_up t (t s) (nI x) n (by omega) (n - (s + 1)) (s + 1) (by omega), ← h4 s hs]
  have hNn : ∀ q : Int32, sn_F (upd t n (nI x)) q (n + 1 - (n + 1)) (n + 1) = -1 := by
    intro q
    rw [show n + 1 - (n + 1) = 0 from by omega]
    rfl
  rcases sn_L_some t (nI x) n with ⟨a, b⟩ | ⟨l, hl, a, b, d⟩
  · have etl : tl x = -1 := by rw [h2 x hx, a]
    refine Or.inl ⟨etl, ?_, hT, hP (-1) etl.symm, ?_⟩
    · intro y hy
      rw [hH y hy]
      by_cases e : x = y
      · subst e
        have hm : hd x = -1 := by
          rcases sn_F_some t (nI x) n 0 with ⟨p, _⟩ | ⟨j, _, q, _, r, _⟩
          · rw [h1 x hx, p]
          · exact absurd r (b j (by omega))
        rw [if_pos hm, if_pos rfl]; exact if_pos rfl
      · rw [if_neg e, show upd hd x (nI n) y = hd y from if_neg (fun z => e z.symm)]
        by_cases z : hd y = -1
        · rw [if_pos z, z]
        · rw [if_neg z]
    · intro s hs
      by_cases e : s = n
      · subst e
        rw [hNn]; exact if_pos rfl
      · rw [show upd nx n (-1) s = nx s from if_neg e, hN s (by omega)]
        have ne : ¬ nI x = t s := fun z => b s (by omega) z.symm
        rw [if_neg ne]
        by_cases z : nx s = -1
        · rw [if_pos z, z]
        · rw [if_neg z]
  · have etl : tl x = nI l := by rw [h2 x hx, a]
    refine Or.inr ⟨l, hl, etl, ?_, hT, hP (nI l) etl.symm, ?_⟩
    · intro y hy
      rw [hH y hy]
      by_cases e : x = y
      · subst e
        have hm : ¬ hd x = -1 := by
          rw [h1 x hx]
          rcases sn_F_some t (nI x) n 0 with ⟨_, q⟩ | ⟨j, _, q, r, _, _⟩
          · exact absurd b (q l (by omega) (by omega))
          · rw [r]; exact sn_ne (by omega)
        rw [if_neg hm]
      · rw [if_neg e]
        by_cases z : hd y = -1
        · rw [if_pos z, z]
        · rw [if_neg z]
    · intro s hs
      by_cases e : s = n
      · subst e
        rw [hNn, show upd (upd nx s (-1)) l (nI s) s = upd nx s (-1) s from if_neg (by omega)]; exact if_pos rfl
      · rw [hN s (by omega)]
        by_cases el : s = l
        · subst el
          have hm : nx s = -1 := by
            rw [h4 s (by omega)]
            rcases sn_F_some t (t s) (n - (s + 1)) (s + 1) with ⟨p, _⟩ | ⟨j, p, q, _, r, _⟩
            · exact p
            · exact absurd (r.trans b) (d j (by omega) (by omega))
          rw [if_pos hm, if_pos b.symm]; exact if_pos rfl
        · rw [show upd (upd nx n (-1)) l (nI n) s = upd nx n (-1) s from if_neg el, show upd nx n (-1) s = nx s from if_neg e]
          by_cases z : nx s = -1
          · have ne : ¬ nI x = t s := by
              intro w
              rw [h4 s (by omega)] at z
              rcases sn_F_some t (t s) (n - (s + 1)) (s + 1) with ⟨_, p⟩ | ⟨j, _, q, r, _, _⟩
              · by_cases sl : s < l
                · exact p l (by omega) (by omega) (b.trans w)
                · exact d s (by omega) (by omega) w.symm
              · rw [r] at z; exact sn_ne (by omega) z
            rw [if_pos z, if_neg ne, z]
          · rw [if_neg z]
def sn_mu (rs pr rm : Nat → Int32) (r : Int32) : Nat → Int32
  | 0 => -1
  | k + 1 => if (rs k = r ∧ 0 < rm k) ∧ (sn_mu rs pr rm r k = -1 ∨ pr (sn_mu rs pr rm r k).toNatClampNeg < pr k) then nI k else sn_mu rs pr rm r k
theorem sn_mu_some (rs pr rm : Nat → Int32) (r : Int32) : ∀ k, sn_mu rs pr rm r k = -1 ∨ ∃ j, j < k ∧ sn_mu rs pr rm r k = nI j ∧ rs j = r := by
  intro k
  induction k with
  | zero => exact Or.inl rfl
  | succ k ih =>
    rw [sn_mu]
    split
    · rename_i e
      exact Or.inr ⟨k, by omega, rfl, e.1.1⟩
    · rcases ih with a | ⟨j, hj, a, b⟩
      · exact Or.inl a
      · exact Or.inr ⟨j, by omega, a, b⟩
end
section
/-! the relation; both resets -/
def rl_Cf (c n p : Nat) (pe dl tx rs cs : Nat → Int32) : Prop :=
  (∀ s, s < n → ∃ y, y < c ∧ tx s = nI y) ∧ (∀ s, s < n → rs s = 8 ∨ ∃ q, q < p ∧ rs s = nI q) ∧ (∀ s, s < n → ∃ v, 1 ≤ v ∧ v ≤ 20 ∧ cs s = nI v) ∧ (∀ x, x < c → ∃ v, 1 ≤ v ∧ v ≤ 200 ∧ pe x = nI v) ∧ (∀ x, x < c → ∃ v, 1 ≤ v ∧ v ≤ 200 ∧ dl x = nI v)
def rl_Si (n : Nat) (fR : Int32) (rs rm sX lX sY lY : Nat → Int32) : Prop :=
  (∀ s, n ≤ s → rm s = 0) ∧ (fR = -1 ∨ ∃ f, f < n ∧ fR = nI f ∧ rs f = 8) ∧ (∀ s, s < n → sY s = sX s) ∧ (∀ q, q < 4 → lY q = lX q) ∧ lY 4 = lX 8
def rl_en (r : Nat) : Int32 := if r = 1000000 then -1 else nI r
def rl_An (c n : Nat) (sT : Int32) (hd bX bY : Nat → Int32) : Prop :=
  sT = 0 ∨ ((∀ x, x < c → ¬ hd x = -1) ∧ ∃ R : Nat → Nat, ∀ s, s < n → (R s ≤ 200 ∨ R s = 1000000) ∧ bX s = rl_en (R s) ∧ bY s = nI (R s))
/-- near equality: one function for what both sides keep alike -/
def i_Rel (_ : Nat) (u : SX) (v : SY) : Prop :=
  ∃ (c n p k : Nat) (sT tM fR : Int32) (pe dl hd tl os ga tx rs cs pr pd nx bX na fl aa co ov mx rm sX lX sY dY bY nY lY : Nat → Int32),
    u = (nI p, nI k, nI c, nI n, sT, tM, fR, pe, dl, hd, tl, os, ga, tx, rs, cs, pr, pd, nx, bX, na, fl, aa, co, ov, mx, rm, sX, lX) ∧ v = (nI p, nI k, nI c, nI n, sT, tM, fR, pe, dl, os, ga, na, aa, co, ov, mx, fl, tx, rs, cs, pr, rm, sY, dY, bY, nY, lY) ∧
    (c ≤ 8 ∧ n ≤ k ∧ k ≤ 16 ∧ 1 ≤ p ∧ p ≤ 4) ∧ rl_Cf c n p pe dl tx rs cs ∧ sn_Ch tx hd tl pd nx c n ∧ rl_Si n fR rs rm sX lX sY lY ∧ rl_An c n sT hd bX bY
theorem i_up {k : Nat} {u : SX} {v : SY} (h : i_Rel k u v) : i_Rel (k + 5) u v := h
theorem rs_st {f g : Nat → Int32} {i : Nat} (h : i < 2 ^ 31) : upd (bs_mz f g i) (nI i).toNatClampNeg (g (nI i).toNatClampNeg) = bs_mz f g (i + 1) := by
  rw [nI_clamp h]; exact bs_mzs f g i
theorem rs_sv {f : Nat → Int32} {v : Int32} {i : Nat} (h : i < 2 ^ 31) : upd (bs_mz f (fun _ => v) i) (nI i).toNatClampNeg v = bs_mz f (fun _ => v) (i + 1) := by
  rw [nI_clamp h]; exact bs_mzs f (fun _ => v) i
theorem rs_sb {f : Nat → Int32} {i : Nat} (h : i < 2 ^ 31) : upd (bs_mz f (fun _ => 0) i) (nI i).toNatClampNeg (vp_nar .boolean 0) = bs_mz f (fun _ => 0) (i + 1) := by
  rw [bs_b0]; exact rs_sv h
section
variable {pN pK sT tM fR : Int32} {c n : Nat} {pe dl hd tl os ga tx rs cs pr pd nx bX na fl aa co ov mx rm sX lX sY dY bY nY lY : Nat → Int32}
theorem rs_x98 {post : SX → Prop} {tC sC : Int32} : ∀ d i, i + d = 9 → post (pN, pK, tC, sC, sT, tM, fR, pe, dl, hd, tl, os, ga, tx, rs, cs, pr, pd, nx, bX, na, fl, aa, co, ov, mx, rm, sX, bs_mz lX (fun _ => -1) 9) → wX_resetSimulation_98 post pN pK tC sC sT tM fR (d + 1) (nI i) pe dl hd tl os ga tx rs cs pr pd nx bX na fl aa co ov mx rm sX (bs_mz lX (fun _ => -1) i) := by
  intro d
  induction d with
  | zero =>
    intro i hi hp
    have e : i = 9 := by omega
    subst e
    exact br_t (nI_le (a := 9) (b := 9) (by omega) (by omega)) hp
  | succ d ih =>
    intro i hi hp
    exact br_f (nI_ge (a := i) (b := 9) (by omega) (by omega)) ⟨vp_in_nI (by omega) (by omega), nm_r (rs_sv (by omega)) (nm_r (nI_1 i) (ih (i + 1) (by omega) hp))⟩
theorem rs_x63 {post : SX → Prop} {tC : Int32} (hn : n ≤ 16) : ∀ d i, i + d = n → post (pN, pK, tC, nI n, sT, tM, -1, pe, dl, hd, tl, os, ga, tx, rs, cs, pr, pd, nx, bX, na, fl, aa, co, ov, mx, bs_mz rm (fun _ => 0) n, bs_mz sX (fun _ => -1) n, bs_mz lX (fun _ => -1) 9) → wX_resetSimulation_63 post pN pK tC (nI n) sT tM fR (d + 1) (nI i) pe dl hd tl os ga tx rs cs pr pd nx bX na fl aa co ov mx (bs_mz rm (fun _ => 0) i) (bs_mz sX (fun _ => -1) i) lX := by
  intro d
  induction d with
  | zero =>
    intro i hi hp
    have e : i = n := by omega
    subst e
    refine br_t (nI_le (Nat.le_refl i) (by omega)) ⟨10, ?_⟩
    have h := rs_x98 (post := post) (lX := lX) 9 0 rfl hp
    rw [bs_mz0] at h
    exact h
  | succ d ih =>
    intro i hi hp
    exact br_f (nI_ge (a := i) (b := n) (by omega) (by omega)) ⟨vp_in_nI (by omega) (by omega), nm_r (rs_sv (by omega)) ⟨vp_in_nI (by omega) (by omega), nm_r (rs_sv (by omega)) (nm_r (nI_1 i) (ih (i + 1) (by omega) hp))⟩⟩
theorem rs_x7 {post : SX → Prop} (hc : c ≤ 8) (hn : n ≤ 16) : ∀ d i, i + d = c → post (pN, pK, nI c, nI n, sT, tM, -1, pe, dl, hd, tl, os, ga, tx, rs, cs, pr, pd, nx, bX, bs_mz na os c, bs_mz fl (fun _ => 0) c, aa, bs_mz co (fun _ => 0) c, bs_mz ov (fun _ => 0) c, bs_mz mx (fun _ => -1) c, bs_mz rm (fun _ => 0) n, bs_mz sX (fun _ => -1) n, bs_mz lX (fun _ => -1) 9) → wX_resetSimulation_7 post pN pK (nI c) (nI n) sT tM fR (d + 1) (nI i) pe dl hd tl os ga tx rs cs pr pd nx bX (bs_mz na os i) (bs_mz fl (fun _ => 0) i) aa (bs_mz co (fun _ => 0) i) (bs_mz ov (fun _ => 0) i) (bs_mz mx (fun _ => -1) i) rm sX lX := by
  intro d
  induction d with
  | zero =>
    intro i hi hp
    have e : i = c := by omega
    subst e
    refine br_t (nI_le (Nat.le_refl i) (by omega)) ⟨n + 1, ?_⟩
    have h := rs_x63 (post := post) (fR := fR) (rm := rm) (sX := sX) hn n 0 (by omega) hp
    rw [bs_mz0, bs_mz0] at h
    exact h
  | succ d ih =>
    intro i hi hp
    have k : vp_in (nI i) 8 := vp_in_nI (by omega) (by omega)
    exact br_f (nI_ge (a := i) (b := c) (by omega) (by omega)) ⟨k, k, nm_r (rs_st (by omega)) ⟨k, nm_r (rs_sb (by omega)) ⟨k, nm_r (rs_sv (by omega)) ⟨k, nm_r (rs_sv (by omega)) ⟨k, nm_r (rs_sv (by omega)) (nm_r (nI_1 i) (ih (i + 1) (by omega) hp))⟩⟩⟩⟩⟩
theorem rs_x {post : SX → Prop} (hc : c ≤ 8) (hn : n ≤ 16) (hp : post (pN, pK, nI c, nI n, sT, 0, -1, pe, dl, hd, tl, os, ga, tx, rs, cs, pr, pd, nx, bX, bs_mz na os c, bs_mz fl (fun _ => 0) c, aa, bs_mz co (fun _ => 0) c, bs_mz ov (fun _ => 0) c, bs_mz mx (fun _ => -1) c, bs_mz rm (fun _ => 0) n, bs_mz sX (fun _ => -1) n, bs_mz lX (fun _ => -1) 9)) : wpX_resetSimulation post (pN, pK, nI c, nI n, sT, tM, fR, pe, dl, hd, tl, os, ga, tx, rs, cs, pr, pd, nx, bX, na, fl, aa, co, ov, mx, rm, sX, lX) := by
  have h := rs_x7 (post := post) (tM := 0) (fR := fR) (na := na) (fl := fl) (co := co) (ov := ov) (mx := mx) hc hn c 0 (by omega) hp
  simp only [bs_mz0] at h
  exact ⟨c + 1, h⟩
theorem rs_y103 {post : SY → Prop} {tC sC : Int32} : ∀ d i, i + d = 5 → post (pN, pK, tC, sC, sT, tM, fR, pe, dl, os, ga, na, aa, co, ov, mx, fl, tx, rs, cs, pr, rm, sY, dY, bY, nY, bs_mz lY (fun _ => -1) 5) → wY_simReset_103 post pN pK tC sC sT tM fR (d + 1) (nI i) pe dl os ga na aa co ov mx fl tx rs cs pr rm sY dY bY nY (bs_mz lY (fun _ => -1) i) := by
  intro d
  induction d with
  | zero =>
    intro i hi hp
    have e : i = 5 := by omega
    subst e
    exact br_t (nI_le (a := 5) (b := 5) (by omega) (by omega)) hp
  | succ d ih =>
    intro i hi hp
    exact br_f (nI_ge (a := i) (b := 5) (by omega) (by omega)) ⟨vp_in_nI (by omega) (by omega), nm_r (rs_sv (by omega)) (nm_r (nI_1 i) (ih (i + 1) (by omega) hp))⟩
theorem rs_y63 {post : SY → Prop} {tC sC : Int32} : ∀ d i, i + d = 16 → post (pN, pK, tC, sC, sT, tM, -1, pe, dl, os, ga, na, aa, co, ov, mx, fl, tx, rs, cs, pr, bs_mz rm (fun _ => 0) 16, bs_mz sY (fun _ => -1) 16, bs_mz dY (fun _ => 0) 16, bY, nY, bs_mz lY (fun _ => -1) 5) → wY_simReset_63 post pN pK tC sC sT tM fR (d + 1) (nI i) pe dl os ga na aa co ov mx fl tx rs cs pr (bs_mz rm (fun _ => 0) i) (bs_mz sY (fun _ => -1) i) (bs_mz dY (fun _ => 0) i) bY nY lY := by
  intro d
  induction d with
  | zero =>
    intro i hi hp
    have e : i = 16 := by omega
    subst e
    refine br_t (nI_le (a := 16) (b := 16) (by omega) (by omega)) ⟨6, ?_⟩
    have h := rs_y103 (post := post) (lY := lY) 5 0 rfl hp
    rw [bs_mz0] at h
    exact h
  | succ d ih =>
    intro i hi hp
    have k : vp_in (nI i) 16 := vp_in_nI (by omega) (by omega)
    exact br_f (nI_ge (a := i) (b := 16) (by omega) (by omega)) ⟨k, nm_r (rs_sv (by omega)) ⟨k, nm_r (rs_sv (by omega)) ⟨k, nm_r (rs_sb (by omega)) (nm_r (nI_1 i) (ih (i + 1) (by omega) hp))⟩⟩⟩
theorem rs_y7 {post : SY → Prop} {sC : Int32} (hc : c ≤ 8) : ∀ d i, i + d = c → post (pN, pK, nI c, sC, sT, tM, -1, pe, dl, os, ga, bs_mz na os c, aa, bs_mz co (fun _ => 0) c, bs_mz ov (fun _ => 0) c, bs_mz mx (fun _ => -1) c, bs_mz fl (fun _ => 0) c, tx, rs, cs, pr, bs_mz rm (fun _ => 0) 16, bs_mz sY (fun _ => -1) 16, bs_mz dY (fun _ => 0) 16, bY, nY, bs_mz lY (fun _ => -1) 5) → wY_simReset_7 post pN pK (nI c) sC sT tM fR (d + 1) (nI i) pe dl os ga (bs_mz na os i) aa (bs_mz co (fun _ => 0) i) (bs_mz ov (fun _ => 0) i) (bs_mz mx (fun _ => -1) i) (bs_mz fl (fun _ => 0) i) tx rs cs pr rm sY dY bY nY lY := by
  intro d
  induction d with
  | zero =>
    intro i hi hp
    have e : i = c := by omega
    subst e
    refine br_t (nI_le (Nat.le_refl i) (by omega)) ⟨17, ?_⟩
    have h := rs_y63 (post := post) (fR := fR) (rm := rm) (sY := sY) (dY := dY) 16 0 rfl hp
    simp only [bs_mz0] at h
    exact h
  | succ d ih =>
    intro i hi hp
    have k : vp_in (nI i) 8 := vp_in_nI (by omega) (by omega)
    exact br_f (nI_ge (a := i) (b := c) (by omega) (by omega)) ⟨k, k, nm_r (rs_st (by omega)) ⟨k, nm_r (rs_sb (by omega)) ⟨k, nm_r (rs_sv (by omega)) ⟨k, nm_r (rs_sv (by omega)) ⟨k, nm_r (rs_sv (by omega)) (nm_r (nI_1 i) (ih (i + 1) (by omega) hp))⟩⟩⟩⟩⟩
theorem rs_y {post : SY → Prop} {sC : Int32} (hc : c ≤ 8) (hp : post (pN, pK, nI c, sC, sT, 0, -1, pe, dl, os, ga, bs_mz na os c, aa, bs_mz co (fun _ => 0) c, bs_mz ov (fun _ => 0) c, bs_mz mx (fun _ => -1) c, bs_mz fl (fun _ => 0) c, tx, rs, cs, pr, bs_mz rm (fun _ => 0) 16, bs_mz sY (fun _ => -1) 16, bs_mz dY (fun _ => 0) 16, bY, nY, bs_mz lY (fun _ => -1) 5)) : wpY_simReset post (pN, pK, nI c, sC, sT, tM, fR, pe, dl, os, ga, na, aa, co, ov, mx, fl, tx, rs, cs, pr, rm, sY, dY, bY, nY, lY) := by
  have h := rs_y7 (post := post) (tM := 0) (fR := fR) (na := na) (fl := fl) (co := co) (ov := ov) (mx := mx) hc c 0 (by omega) hp
  simp only [bs_mz0] at h
  exact ⟨c + 1, h⟩
/-- both resets end in related states -/
theorem rl_rst {k : Nat} {p q : Nat} (hs : c ≤ 8 ∧ n ≤ q ∧ q ≤ 16 ∧ 1 ≤ p ∧ p ≤ 4) (hf : rl_Cf c n p pe dl tx rs cs) (hch : sn_Ch tx hd tl pd nx c n) (hz : ∀ s, n ≤ s → rm s = 0) (ha : rl_An c n sT hd bX bY) :
    i_Rel k (nI p, nI q, nI c, nI n, sT, 0, -1, pe, dl, hd, tl, os, ga, tx, rs, cs, pr, pd, nx, bX, bs_mz na os c, bs_mz fl (fun _ => 0) c, aa, bs_mz co (fun _ => 0) c, bs_mz ov (fun _ => 0) c, bs_mz mx (fun _ => -1) c, bs_mz rm (fun _ => 0) n, bs_mz sX (fun _ => -1) n, bs_mz lX (fun _ => -1) 9)
      (nI p, nI q, nI c, nI n, sT, 0, -1, pe, dl, os, ga, bs_mz na os c, aa, bs_mz co (fun _ => 0) c, bs_mz ov (fun _ => 0) c, bs_mz mx (fun _ => -1) c, bs_mz fl (fun _ => 0) c, tx, rs, cs, pr, bs_mz rm (fun _ => 0) 16, bs_mz sY (fun _ => -1) 16, bs_mz dY (fun _ => 0) 16, bY, nY, bs_mz lY (fun _ => -1) 5) := by
  rw [bs_mz_all hz, bs_mz_more hz (by omega : n ≤ 16)]
  exact ⟨c, n, p, q, sT, 0, -1, pe, dl, hd, tl, os, ga, tx, rs, cs, pr, pd, nx, bX, _, _, aa, _, _, _, _, _, _, _, _, bY, nY, _, rfl, rfl, hs, hf, hch, ⟨fun _ _ => rfl, Or.inl rfl, fun s h => by rw [bs_mz_lt h, bs_mz_lt (by omega)], fun j h => by rw [bs_mz_lt (by omega), bs_mz_lt (by omega)], by rw [bs_mz_lt (by omega), bs_mz_lt (by omega)]⟩, ha⟩
end
end
section
/-! small methods, with general posts; the reference's scans -/
theorem sm_in3 (x : Int32) (lo hi : Nat) (hl : lo < 2 ^ 31) (hh : hi < 2 ^ 31) : x < nI lo ∨ (¬ x < nI lo ∧ nI hi < x) ∨ ∃ a, lo ≤ a ∧ a ≤ hi ∧ x = nI a := by
  by_cases h : x < nI lo
  · exact Or.inl h
  · have h0 : ¬ x < 0 := fun z => h (Int32.lt_of_lt_of_le z (nI_pos' hl))
    obtain ⟨j, hj, rfl⟩ := nI_of h0
    rw [nI_ltI hj hl] at h
    by_cases g : nI hi < nI j
    · exact Or.inr (Or.inl ⟨by rw [nI_ltI hj hl]; exact h, g⟩)
    · rw [nI_ltI hh hj] at g
      exact Or.inr (Or.inr ⟨j, by omega, by omega, rfl⟩)
theorem sm_nle {x y : Int32} (h : x < y) : ¬ y ≤ x := fun z => Int32.lt_irrefl (Int32.lt_of_lt_of_le h z)
theorem sm_1 : ¬ (1 : Int32) = 0 := by decide
section
variable {pN pK sT tM fR tC sC : Int32} {c n : Nat} {pe dl hd tl os ga tx rs cs pr pd nx bX na fl aa co ov mx rm sX lX sY dY bY nY lY : Nat → Int32}
theorem sm_w0 {post : Int32 → Prop} {x lo hi : Int32} (h : x < lo) (hp : post 0) : wpX_within post x lo hi := br_t h hp
theorem sm_w2 {post : Int32 → Prop} {x lo hi : Int32} (h : ¬ x < lo) (h' : hi < x) (hp : post 0) : wpX_within post x lo hi := br_f h (br_t h' hp)
theorem sm_w1 {post : Int32 → Prop} {a lo hi : Nat} (h : lo ≤ a) (h' : a ≤ hi) (hh : hi < 2 ^ 31) (hp : post 1) : wpX_within post (nI a) (nI lo) (nI hi) := br_f (nI_nlt h (by omega)) (br_f (nI_nlt h' hh) hp)
theorem sm_t0 {post : Int32 → Prop} {x : Int32} (h : x < 0) (hp : post 0) : wpX_isTransaction post (pN, pK, tC, sC, sT, tM, fR, pe, dl, hd, tl, os, ga, tx, rs, cs, pr, pd, nx, bX, na, fl, aa, co, ov, mx, rm, sX, lX) x := br_t h hp
theorem sm_t2 {post : Int32 → Prop} {x : Int32} (h : ¬ x < 0) (h' : tC ≤ x) (hp : post 0) : wpX_isTransaction post (pN, pK, tC, sC, sT, tM, fR, pe, dl, hd, tl, os, ga, tx, rs, cs, pr, pd, nx, bX, na, fl, aa, co, ov, mx, rm, sX, lX) x := br_f h (br_t h' hp)
theorem sm_t1 {post : Int32 → Prop} {j : Nat} (h : j < c) (hc : c < 2 ^ 31) (hp : post 1) : wpX_isTransaction post (pN, pK, nI c, sC, sT, tM, fR, pe, dl, hd, tl, os, ga, tx, rs, cs, pr, pd, nx, bX, na, fl, aa, co, ov, mx, rm, sX, lX) (nI j) := br_f (nI_pos (by omega)) (br_f (nI_ge h hc) hp)
theorem sm_s0 {post : Int32 → Prop} {x : Int32} (h : x < 0) (hp : post 0) : wpX_isStep post (pN, pK, tC, sC, sT, tM, fR, pe, dl, hd, tl, os, ga, tx, rs, cs, pr, pd, nx, bX, na, fl, aa, co, ov, mx, rm, sX, lX) x := br_t h hp
theorem sm_s2 {post : Int32 → Prop} {x : Int32} (h : ¬ x < 0) (h' : sC ≤ x) (hp : post 0) : wpX_isStep post (pN, pK, tC, sC, sT, tM, fR, pe, dl, hd, tl, os, ga, tx, rs, cs, pr, pd, nx, bX, na, fl, aa, co, ov, mx, rm, sX, lX) x := br_f h (br_t h' hp)
theorem sm_s1 {post : Int32 → Prop} {j : Nat} (h : j < n) (hn : n < 2 ^ 31) (hp : post 1) : wpX_isStep post (pN, pK, tC, nI n, sT, tM, fR, pe, dl, hd, tl, os, ga, tx, rs, cs, pr, pd, nx, bX, na, fl, aa, co, ov, mx, rm, sX, lX) (nI j) := br_f (nI_pos (by omega)) (br_f (nI_ge h hn) hp)
/-- a resource or not: one answer on both sides -/
theorem sm_res (p : Nat) (hp4 : p ≤ 4) (x : Int32) : (∃ z : Int32, z = 0 ∧ (∀ post : Int32 → Prop, post 0 → wpX_isResource post (nI p, pK, tC, sC, sT, tM, fR, pe, dl, hd, tl, os, ga, tx, rs, cs, pr, pd, nx, bX, na, fl, aa, co, ov, mx, rm, sX, lX) x) ∧ (∀ post : Int32 → Prop, post 0 → wpY_validRes post (nI p, pK, tC, sC, sT, tM, fR, pe, dl, os, ga, na, aa, co, ov, mx, fl, tx, rs, cs, pr, rm, sY, dY, bY, nY, lY) x)) ∨
    ((x = 8 ∨ ∃ q, q < p ∧ x = nI q) ∧ (∀ post : Int32 → Prop, post 1 → wpX_isResource post (nI p, pK, tC, sC, sT, tM, fR, pe, dl, hd, tl, os, ga, tx, rs, cs, pr, pd, nx, bX, na, fl, aa, co, ov, mx, rm, sX, lX) x) ∧ (∀ post : Int32 → Prop, post 1 → wpY_validRes post (nI p, pK, tC, sC, sT, tM, fR, pe, dl, os, ga, na, aa, co, ov, mx, fl, tx, rs, cs, pr, rm, sY, dY, bY, nY, lY) x)) := by
  by_cases h8 : x = 8
  · subst h8
    have h80 : ¬ (8 : Int32) < 0 := by decide
    have h8p : ¬ (8 : Int32) < nI p := nI_nlt (a := 8) (b := p) (by omega) (by omega)
    exact Or.inr ⟨Or.inl rfl, fun post hp => br_t rfl hp, fun post hp => br_f h80 (br_f h8p (br_t rfl hp))⟩
  · by_cases h0 : x < 0
    · exact Or.inl ⟨0, rfl, fun post hp => br_f h8 (br_t h0 hp), fun post hp => br_t h0 (br_f h8 hp)⟩
    · by_cases hx : nI p ≤ x
      · exact Or.inl ⟨0, rfl, fun post hp => br_f h8 (br_f h0 (br_t hx hp)), fun post hp => br_f h0 (br_f (Int32.not_lt.mpr hx) (br_f h8 hp))⟩
      · obtain ⟨j, hj, rfl⟩ := nI_of h0
        have hjp : j < p := by
          rw [nI_leI (by omega) hj] at hx
          omega
        exact Or.inr ⟨Or.inr ⟨j, hjp, rfl⟩, fun post hp => br_f h8 (br_f h0 (br_f hx hp)), fun post hp => br_f h0 (br_t (nI_lt hjp (by omega)) hp)⟩
/-! the reference's scans -/
theorem sm_yh2 {post : Int32 → Prop} {x : Int32} (hn : n ≤ 16) : ∀ d i, i + d = n → post (sn_F tx x d i) → wY_head_2 post x pN pK tC (nI n) sT tM fR pe dl os ga na aa co ov mx fl tx rs cs pr rm sY dY bY nY lY (d + 1) (nI i) := by
  intro d
  induction d with
  | zero =>
    intro i hi hp
    exact br_t (nI_le (by omega) (by omega)) hp
  | succ d ih =>
    intro i hi hp
    refine br_f (nI_ge (by omega) (by omega)) ⟨vp_in_nI (by omega) (by omega), ?_⟩
    rw [nI_clamp (by omega)]
    simp only [sn_F] at hp
    by_cases e : tx i = x
    · rw [if_pos e] at hp
      exact br_t e hp
    · rw [if_neg e] at hp
      exact br_f e (nm_r (nI_1 i) (ih (i + 1) (by omega) hp))
theorem sm_yh {post : Int32 → Prop} {x : Int32} (hn : n ≤ 16) (hp : post (sn_F tx x n 0)) : wpY_head post (pN, pK, tC, nI n, sT, tM, fR, pe, dl, os, ga, na, aa, co, ov, mx, fl, tx, rs, cs, pr, rm, sY, dY, bY, nY, lY) x := ⟨n + 1, sm_yh2 hn n 0 (by omega) hp⟩
theorem sm_yn4 {post : Int32 → Prop} {s : Nat} (hs : s < n) (hn : n ≤ 16) : ∀ d i, i + d = n → post (sn_F tx (tx s) d i) → wY_next_4 post (nI s) pN pK tC (nI n) sT tM fR pe dl os ga na aa co ov mx fl tx rs cs pr rm sY dY bY nY lY (d + 1) (nI i) := by
  intro d
  induction d with
  | zero =>
    intro i hi hp
    exact br_t (nI_le (by omega) (by omega)) hp
  | succ d ih =>
    intro i hi hp
    refine br_f (nI_ge (by omega) (by omega)) ⟨vp_in_nI (by omega) (by omega), vp_in_nI (by omega) (by omega), ?_⟩
    rw [nI_clamp (by omega), nI_clamp (by omega)]
    simp only [sn_F] at hp
    by_cases e : tx i = tx s
    · rw [if_pos e] at hp
      exact br_t e hp
    · rw [if_neg e] at hp
      exact br_f e (nm_r (nI_1 i) (ih (i + 1) (by omega) hp))
theorem sm_yn {post : Int32 → Prop} {s : Nat} (hs : s < n) (hn : n ≤ 16) (hp : post (sn_F tx (tx s) (n - (s + 1)) (s + 1))) : wpY_next post (pN, pK, tC, nI n, sT, tM, fR, pe, dl, os, ga, na, aa, co, ov, mx, fl, tx, rs, cs, pr, rm, sY, dY, bY, nY, lY) (nI s) :=
  nm_r (nI_1 s) ⟨_, sm_yn4 hs hn (n - (s + 1)) (s + 1) (by omega) hp⟩
theorem sm_yt4 {post : Int32 → Prop} {x : Int32} (hn : n ≤ 16) : ∀ d i, i + d = n → post (sn_L tx x n) → wY_tail_4 post x pN pK tC (nI n) sT tM fR pe dl os ga na aa co ov mx fl tx rs cs pr rm sY dY bY nY lY (d + 1) (sn_L tx x i) (nI i) := by
  intro d
  induction d with
  | zero =>
    intro i hi hp
    have e : i = n := by omega
    subst e
    exact br_t (nI_le (by omega) (by omega)) hp
  | succ d ih =>
    intro i hi hp
    refine br_f (nI_ge (by omega) (by omega)) ⟨vp_in_nI (by omega) (by omega), ?_⟩
    rw [nI_clamp (by omega)]
    have z := ih (i + 1) (by omega) hp
    simp only [sn_L] at z
    by_cases e : tx i = x
    · rw [if_pos e] at z
      exact br_t e (nm_r (nI_1 i) z)
    · rw [if_neg e] at z
      exact br_f e (nm_r (nI_1 i) z)
theorem sm_yt {post : Int32 → Prop} {x : Int32} (hn : n ≤ 16) (hp : post (sn_L tx x n)) : wpY_tail post (pN, pK, tC, nI n, sT, tM, fR, pe, dl, os, ga, na, aa, co, ov, mx, fl, tx, rs, cs, pr, rm, sY, dY, bY, nY, lY) x := ⟨n + 1, sm_yt4 hn n 0 (by omega) hp⟩
theorem sm_yp4 {post : Int32 → Prop} {s : Nat} (hs : s < 16) : ∀ d i, i + d = s → post (sn_L tx (tx s) s) → wY_pred_4 post (nI s) pN pK tC sC sT tM fR pe dl os ga na aa co ov mx fl tx rs cs pr rm sY dY bY nY lY (d + 1) (sn_L tx (tx s) i) (nI i) := by
  intro d
  induction d with
  | zero =>
    intro i hi hp
    have e : i = s := by omega
    subst e
    exact br_t (nI_le (by omega) (by omega)) hp
  | succ d ih =>
    intro i hi hp
    refine br_f (nI_ge (by omega) (by omega)) (br_f (nI_ge (b := 16) (by omega) (by omega)) ⟨vp_in_nI (by omega) (by omega), vp_in_nI (by omega) (by omega), ?_⟩)
    rw [nI_clamp (by omega), nI_clamp (by omega)]
    have z := ih (i + 1) (by omega) hp
    simp only [sn_L] at z
    by_cases e : tx i = tx s
    · rw [if_pos e] at z
      exact br_t e (nm_r (nI_1 i) z)
    · rw [if_neg e] at z
      exact br_f e (nm_r (nI_1 i) z)
theorem sm_yp {post : Int32 → Prop} {s : Nat} (hs : s < 16) (hp : post (sn_L tx (tx s) s)) : wpY_pred post (pN, pK, tC, sC, sT, tM, fR, pe, dl, os, ga, na, aa, co, ov, mx, fl, tx, rs, cs, pr, rm, sY, dY, bY, nY, lY) (nI s) := ⟨s + 1, sm_yp4 hs s 0 (by omega) hp⟩
/-! complete -/
theorem sm_xc2 {post : Int32 → Prop} (hc : c ≤ 8) (h1 : 0 < c → (∀ x, x < c → ¬ hd x = -1) → post 1) (h0 : ¬ (0 < c ∧ ∀ x, x < c → ¬ hd x = -1) → post 0) : ∀ d i, i + d = c → (∀ x, x < i → ¬ hd x = -1) → wX_isComplete_2 post pN pK (nI c) sC sT tM fR pe dl hd tl os ga tx rs cs pr pd nx bX na fl aa co ov mx rm sX lX (d + 1) (nI i) := by
  intro d
  induction d with
  | zero =>
    intro i hi ha
    have e : i = c := by omega
    subst e
    refine br_t (nI_le (by omega) (by omega)) ?_
    by_cases z : i = 0
    · subst z
      exact br_t (by decide) (h0 (fun k => by omega))
    · exact br_f (nI_nle (by omega) (by omega)) (h1 (by omega) ha)
  | succ d ih =>
    intro i hi ha
    refine br_f (nI_ge (by omega) (by omega)) ⟨vp_in_nI (by omega) (by omega), ?_⟩
    rw [nI_clamp (by omega)]
    by_cases e : hd i = -1
    · exact br_t e (h0 (fun k => k.2 i (by omega) e))
    · refine br_f e (nm_r (nI_1 i) (ih (i + 1) (by omega) (fun x hx => ?_)))
      by_cases z : x = i
      · rw [z]; exact e
      · exact ha x (by omega)
theorem sm_xc {post : Int32 → Prop} (hc : c ≤ 8) (h1 : 0 < c → (∀ x, x < c → ¬ hd x = -1) → post 1) (h0 : ¬ (0 < c ∧ ∀ x, x < c → ¬ hd x = -1) → post 0) : wpX_isComplete post (pN, pK, nI c, sC, sT, tM, fR, pe, dl, hd, tl, os, ga, tx, rs, cs, pr, pd, nx, bX, na, fl, aa, co, ov, mx, rm, sX, lX) := ⟨c + 1, sm_xc2 hc h1 h0 c 0 (by omega) (fun x hx => by omega)⟩
theorem sm_yc12 {post : Int32 → Prop} (hc : c ≤ 8) (hn : n ≤ 16) (hh : ∀ x, x < c → hd x = sn_F tx (nI x) n 0) (h1 : (∀ x, x < c → ¬ hd x = -1) → post 1) (h0 : (¬ ∀ x, x < c → ¬ hd x = -1) → post 0) : ∀ d i, i + d = c → (∀ x, x < i → ¬ hd x = -1) → wY_complete_12 post pN pK (nI c) (nI n) sT tM fR pe dl os ga na aa co ov mx fl tx rs cs pr rm sY dY bY nY lY (d + 1) (nI i) := by
  intro d
  induction d with
  | zero =>
    intro i hi ha
    have e : i = c := by omega
    subst e
    exact br_t (nI_le (by omega) (by omega)) (h1 ha)
  | succ d ih =>
    intro i hi ha
    refine br_f (nI_ge (by omega) (by omega)) (sm_yh hn ?_)
    rw [← hh i (by omega)]
    by_cases e : hd i = -1
    · exact br_t e (h0 (fun k => k i (by omega) e))
    · refine br_f e (nm_r (nI_1 i) (ih (i + 1) (by omega) (fun x hx => ?_)))
      by_cases z : x = i
      · rw [z]; exact e
      · exact ha x (by omega)
theorem sm_yc {post : Int32 → Prop} (hc : c ≤ 8) (hn : n ≤ 16) (hh : ∀ x, x < c → hd x = sn_F tx (nI x) n 0) (h1 : 0 < c → (∀ x, x < c → ¬ hd x = -1) → post 1) (h0 : ¬ (0 < c ∧ ∀ x, x < c → ¬ hd x = -1) → post 0) : wpY_complete post (pN, pK, nI c, nI n, sT, tM, fR, pe, dl, os, ga, na, aa, co, ov, mx, fl, tx, rs, cs, pr, rm, sY, dY, bY, nY, lY) := by
  by_cases z : 0 < c
  · exact br_t (nI_le (a := 1) (b := c) (by omega) (by omega)) ⟨c + 1, sm_yc12 hc hn hh (h1 z) (fun k => h0 (fun w => k w.2)) c 0 (by omega) (fun x hx => by omega)⟩
  · exact br_f (nI_ge (a := c) (b := 1) (by omega) (by omega)) (h0 (fun k => z k.1))
end
end
section
/-! the constructors; getters; what changes the configuration -/
section
variable {pN pK sT tM fR tC sC : Int32} {c n p kk : Nat} {pe dl hd tl os ga tx rs cs pr pd nx bX na fl aa co ov mx rm sX lX sY dY bY nY lY : Nat → Int32}
theorem cf_i0 (k0 : Int32) : ∃ p, 1 ≤ p ∧ p ≤ 4 ∧ (∀ post : Int32 → Prop, post (nI p) → wpX_clamp post k0 1 4) ∧ (∀ (post : SY → Prop) (k1 : Int32), wY_init_179 post k1 (nI p) 0 0 0 0 0 0 0 (fun _ => 0) (fun _ => 0) (fun _ => 0) (fun _ => 0) (fun _ => 0) (fun _ => 0) (fun _ => 0) (fun _ => 0) (fun _ => 0) (fun _ => 0) (fun _ => 0) (fun _ => 0) (fun _ => 0) (fun _ => 0) (fun _ => 0) (fun _ => 0) (fun _ => 0) (fun _ => 0) (fun _ => 0) (fun _ => 0) → wpY_init post k0 k1) := by
  rcases sm_in3 k0 1 4 (by omega) (by omega) with h | ⟨h, h'⟩ | ⟨a, h1, h4, rfl⟩
  · have g : ¬ (1 : Int32) ≤ k0 := sm_nle h
    exact ⟨1, by omega, by omega, fun post hp => br_f g hp, fun post k1 hp => br_f g (br_t (by decide) hp)⟩
  · have g : (1 : Int32) ≤ k0 := Int32.not_lt.mp h
    have g' : ¬ k0 ≤ (4 : Int32) := sm_nle h'
    exact ⟨4, by omega, by omega, fun post hp => br_t g (br_f g' hp), fun post k1 hp => br_t g (br_f g' hp)⟩
  · have g : (1 : Int32) ≤ nI a := nI_le (a := 1) (b := a) h1 (by omega)
    have g' : nI a ≤ (4 : Int32) := nI_le (a := a) (b := 4) h4 (by omega)
    exact ⟨a, h1, h4, fun post hp => br_t g (br_t g' hp), fun post k1 hp => br_t g (br_t g' hp)⟩
theorem cf_i1 (k1 : Int32) : ∃ k, 4 ≤ k ∧ k ≤ 16 ∧ (∀ post : Int32 → Prop, post (nI k) → wpX_clamp post k1 4 16) ∧ (∀ (post : SY → Prop) (x3 : Int32), wY_init_202 post x3 (nI k) pN pK tC sC sT tM fR pe dl os ga na aa co ov mx fl tx rs cs pr rm sY dY bY nY lY → wY_init_179 post k1 x3 pN pK tC sC sT tM fR pe dl os ga na aa co ov mx fl tx rs cs pr rm sY dY bY nY lY) := by
  rcases sm_in3 k1 4 16 (by omega) (by omega) with h | ⟨h, h'⟩ | ⟨a, h1, h4, rfl⟩
  · have g : ¬ (4 : Int32) ≤ k1 := sm_nle h
    exact ⟨4, by omega, by omega, fun post hp => br_f g hp, fun post x3 hp => br_f g (br_t (by decide) hp)⟩
  · have g : (4 : Int32) ≤ k1 := Int32.not_lt.mp h
    have g' : ¬ k1 ≤ (16 : Int32) := sm_nle h'
    exact ⟨16, by omega, by omega, fun post hp => br_t g (br_f g' hp), fun post x3 hp => br_t g (br_f g' hp)⟩
  · have g : (4 : Int32) ≤ nI a := nI_le (a := 4) (b := a) h1 (by omega)
    have g' : nI a ≤ (16 : Int32) := nI_le (a := a) (b := 16) h4 (by omega)
    exact ⟨a, h1, h4, fun post hp => br_t g (br_t g' hp), fun post x3 hp => br_t g (br_t g' hp)⟩
theorem i_vc0 (k0 : Int32) (k1 : Int32) : wpX_init (fun u => wpY_init (fun v => i_Rel 2 u v) k0 k1) k0 k1 := by
  obtain ⟨p, hp1, hp4, hpX, hpY⟩ := cf_i0 k0
  obtain ⟨k, hk4, hk16, hkX, hkY⟩ := cf_i1 (pN := 0) (pK := 0) (tC := 0) (sC := 0) (sT := 0) (tM := 0) (fR := 0) (pe := fun _ => 0) (dl := fun _ => 0) (os := fun _ => 0) (ga := fun _ => 0) (na := fun _ => 0) (aa := fun _ => 0) (co := fun _ => 0) (ov := fun _ => 0) (mx := fun _ => 0) (fl := fun _ => 0) (tx := fun _ => 0) (rs := fun _ => 0) (cs := fun _ => 0) (pr := fun _ => 0) (rm := fun _ => 0) (sY := fun _ => 0) (dY := fun _ => 0) (bY := fun _ => 0) (nY := fun _ => 0) (lY := fun _ => 0) k1
  unfold wpX_init
  refine hpX _ (hkX _ ?_)
  refine rs_x (c := 0) (n := 0) (by omega) (by omega) ?_
  refine hpY _ k1 (hkY _ _ ?_)
  unfold wY_init_202
  refine rs_y (c := 0) (by omega) ?_
  exact rl_rst (c := 0) (n := 0) (p := p) (q := k) ⟨by omega, by omega, by omega, hp1, hp4⟩ ⟨fun s h => absurd h (Nat.not_lt_zero s), fun s h => absurd h (Nat.not_lt_zero s), fun s h => absurd h (Nat.not_lt_zero s), fun s h => absurd h (Nat.not_lt_zero s), fun s h => absurd h (Nat.not_lt_zero s)⟩ ⟨fun s h => absurd h (Nat.not_lt_zero s), fun s h => absurd h (Nat.not_lt_zero s), fun s h => absurd h (Nat.not_lt_zero s), fun s h => absurd h (Nat.not_lt_zero s)⟩ (fun _ _ => rfl) (Or.inl rfl)
theorem i_vc_analysisState {k : Nat} {u : SX} {v : SY} (I : i_Rel k u v) (hk : k + 5 ≤ 2562) : wpX_analysisState (fun r => wpY_analysisState (fun r' => r' = r ∧ i_Rel (k + 5) u v) v) u := by
  have I' : i_Rel (k + 5) u v := I
  obtain ⟨c, n, p, kk, sT, tM, fR, pe, dl, hd, tl, os, ga, tx, rs, cs, pr, pd, nx, bX, na, fl, aa, co, ov, mx, rm, sX, lX, sY, dY, bY, nY, lY, rfl, rfl, hs, hf, hch, hsi, ha⟩ := I
  exact ⟨rfl, I'⟩
theorem i_vc_now {k : Nat} {u : SX} {v : SY} (I : i_Rel k u v) (hk : k + 5 ≤ 2562) : wpX_now (fun r => wpY_now (fun r' => r' = r ∧ i_Rel (k + 5) u v) v) u := by
  have I' : i_Rel (k + 5) u v := I
  obtain ⟨c, n, p, kk, sT, tM, fR, pe, dl, hd, tl, os, ga, tx, rs, cs, pr, pd, nx, bX, na, fl, aa, co, ov, mx, rm, sX, lX, sY, dY, bY, nY, lY, rfl, rfl, hs, hf, hch, hsi, ha⟩ := I
  exact ⟨rfl, I'⟩
theorem i_vc_observedMax {k : Nat} {u : SX} {v : SY} (I : i_Rel k u v) (hk : k + 5 ≤ 2562) (v1 : Int32) : wpX_observedMax (fun r => wpY_observedMax (fun r' => r' = r ∧ i_Rel (k + 5) u v) v v1) u v1 := by
  have I' : i_Rel (k + 5) u v := I
  obtain ⟨c, n, p, kk, sT, tM, fR, pe, dl, hd, tl, os, ga, tx, rs, cs, pr, pd, nx, bX, na, fl, aa, co, ov, mx, rm, sX, lX, sY, dY, bY, nY, lY, rfl, rfl, hs, hf, hch, hsi, ha⟩ := I
  unfold wpX_observedMax
  rcases pk_ix v1 (n := c) (by omega) with h | h | ⟨j, hj, rfl⟩
  · refine sm_t0 h (br_t rfl ?_)
    exact br_t h ⟨rfl, I'⟩
  · by_cases h0 : v1 < 0
    · refine sm_t0 h0 (br_t rfl ?_)
      exact br_t h0 ⟨rfl, I'⟩
    · refine sm_t2 h0 h (br_t rfl ?_)
      exact br_f h0 (br_f (Int32.not_lt.mpr h) ⟨rfl, I'⟩)
  · refine sm_t1 hj (by omega) (br_f sm_1 ⟨vp_in_nI (by omega) (by omega), ?_⟩)
    exact br_f (nI_pos (by omega)) (br_t (nI_lt hj (by omega)) ⟨vp_in_nI (by omega) (by omega), rfl, I'⟩)
theorem i_vc_completedCount {k : Nat} {u : SX} {v : SY} (I : i_Rel k u v) (hk : k + 5 ≤ 2562) (v1 : Int32) : wpX_completedCount (fun r => wpY_completedCount (fun r' => r' = r ∧ i_Rel (k + 5) u v) v v1) u v1 := by
  have I' : i_Rel (k + 5) u v := I
  obtain ⟨c, n, p, kk, sT, tM, fR, pe, dl, hd, tl, os, ga, tx, rs, cs, pr, pd, nx, bX, na, fl, aa, co, ov, mx, rm, sX, lX, sY, dY, bY, nY, lY, rfl, rfl, hs, hf, hch, hsi, ha⟩ := I
  unfold wpX_completedCount
  rcases pk_ix v1 (n := c) (by omega) with h | h | ⟨j, hj, rfl⟩
  · refine sm_t0 h (br_t rfl ?_)
    exact br_t h ⟨rfl, I'⟩
  · by_cases h0 : v1 < 0
    · refine sm_t0 h0 (br_t rfl ?_)
      exact br_t h0 ⟨rfl, I'⟩
    · refine sm_t2 h0 h (br_t rfl ?_)
      exact br_f h0 (br_f (Int32.not_lt.mpr h) ⟨rfl, I'⟩)
  · refine sm_t1 hj (by omega) (br_f sm_1 ⟨vp_in_nI (by omega) (by omega), ?_⟩)
    exact br_f (nI_pos (by omega)) (br_t (nI_lt hj (by omega)) ⟨vp_in_nI (by omega) (by omega), rfl, I'⟩)
theorem i_vc_overrunCount {k : Nat} {u : SX} {v : SY} (I : i_Rel k u v) (hk : k + 5 ≤ 2562) (v1 : Int32) : wpX_overrunCount (fun r => wpY_overrunCount (fun r' => r' = r ∧ i_Rel (k + 5) u v) v v1) u v1 := by
  have I' : i_Rel (k + 5) u v := I
  obtain ⟨c, n, p, kk, sT, tM, fR, pe, dl, hd, tl, os, ga, tx, rs, cs, pr, pd, nx, bX, na, fl, aa, co, ov, mx, rm, sX, lX, sY, dY, bY, nY, lY, rfl, rfl, hs, hf, hch, hsi, ha⟩ := I
  unfold wpX_overrunCount
  rcases pk_ix v1 (n := c) (by omega) with h | h | ⟨j, hj, rfl⟩
  · refine sm_t0 h (br_t rfl ?_)
    exact br_t h ⟨rfl, I'⟩
  · by_cases h0 : v1 < 0
    · refine sm_t0 h0 (br_t rfl ?_)
      exact br_t h0 ⟨rfl, I'⟩
    · refine sm_t2 h0 h (br_t rfl ?_)
      exact br_f h0 (br_f (Int32.not_lt.mpr h) ⟨rfl, I'⟩)
  · refine sm_t1 hj (by omega) (br_f sm_1 ⟨vp_in_nI (by omega) (by omega), ?_⟩)
    exact br_f (nI_pos (by omega)) (br_t (nI_lt hj (by omega)) ⟨vp_in_nI (by omega) (by omega), rfl, I'⟩)
theorem i_vc_stepObservedMax {k : Nat} {u : SX} {v : SY} (I : i_Rel k u v) (hk : k + 5 ≤ 2562) (v1 : Int32) : wpX_stepObservedMax (fun r => wpY_stepObservedMax (fun r' => r' = r ∧ i_Rel (k + 5) u v) v v1) u v1 := by
  have I' : i_Rel (k + 5) u v := I
  obtain ⟨c, n, p, kk, sT, tM, fR, pe, dl, hd, tl, os, ga, tx, rs, cs, pr, pd, nx, bX, na, fl, aa, co, ov, mx, rm, sX, lX, sY, dY, bY, nY, lY, rfl, rfl, hs, hf, hch, hsi, ha⟩ := I
  unfold wpX_stepObservedMax
  rcases pk_ix v1 (n := n) (by omega) with h | h | ⟨j, hj, rfl⟩
  · refine sm_s0 h (br_t rfl ?_)
    exact br_t h ⟨rfl, I'⟩
  · by_cases h0 : v1 < 0
    · refine sm_s0 h0 (br_t rfl ?_)
      exact br_t h0 ⟨rfl, I'⟩
    · refine sm_s2 h0 h (br_t rfl ?_)
      exact br_f h0 (br_f (Int32.not_lt.mpr h) ⟨rfl, I'⟩)
  · refine sm_s1 hj (by omega) (br_f sm_1 ⟨vp_in_nI (by omega) (by omega), ?_⟩)
    exact br_f (nI_pos (by omega)) (br_t (nI_lt hj (by omega)) ⟨vp_in_nI (by omega) (by omega), by rw [nI_clamp (by omega)]; exact hsi.2.2.1 j hj, I'⟩)
theorem i_vc_stepRemaining {k : Nat} {u : SX} {v : SY} (I : i_Rel k u v) (hk : k + 5 ≤ 2562) (v1 : Int32) : wpX_stepRemaining (fun r => wpY_stepRemaining (fun r' => r' = r ∧ i_Rel (k + 5) u v) v v1) u v1 := by
  have I' : i_Rel (k + 5) u v := I
  obtain ⟨c, n, p, kk, sT, tM, fR, pe, dl, hd, tl, os, ga, tx, rs, cs, pr, pd, nx, bX, na, fl, aa, co, ov, mx, rm, sX, lX, sY, dY, bY, nY, lY, rfl, rfl, hs, hf, hch, hsi, ha⟩ := I
  unfold wpX_stepRemaining
  rcases pk_ix v1 (n := n) (by omega) with h | h | ⟨j, hj, rfl⟩
  · refine sm_s0 h (br_t rfl ?_)
    exact br_t h ⟨rfl, I'⟩
  · by_cases h0 : v1 < 0
    · refine sm_s0 h0 (br_t rfl ?_)
      exact br_t h0 ⟨rfl, I'⟩
    · refine sm_s2 h0 h (br_t rfl ?_)
      exact br_f h0 (br_f (Int32.not_lt.mpr h) ⟨rfl, I'⟩)
  · refine sm_s1 hj (by omega) (br_f sm_1 ⟨vp_in_nI (by omega) (by omega), ?_⟩)
    exact br_f (nI_pos (by omega)) (br_t (nI_lt hj (by omega)) ⟨vp_in_nI (by omega) (by omega), rfl, I'⟩)
theorem i_vc_runningOn {k : Nat} {u : SX} {v : SY} (I : i_Rel k u v) (hk : k + 5 ≤ 2562) (v1 : Int32) : wpX_runningOn (fun r => wpY_runningOn (fun r' => r' = r ∧ i_Rel (k + 5) u v) v v1) u v1 := by
  have I' : i_Rel (k + 5) u v := I
  obtain ⟨c, n, p, kk, sT, tM, fR, pe, dl, hd, tl, os, ga, tx, rs, cs, pr, pd, nx, bX, na, fl, aa, co, ov, mx, rm, sX, lX, sY, dY, bY, nY, lY, rfl, rfl, hs, hf, hch, hsi, ha⟩ := I
  unfold wpX_runningOn wpY_runningOn
  rcases sm_res (sC := nI n) (tC := nI c) (pK := nI kk) (sT := sT) (tM := tM) (fR := fR) (pe := pe) (dl := dl) (hd := hd) (tl := tl) (os := os) (ga := ga) (tx := tx) (rs := rs) (cs := cs) (pr := pr) (pd := pd) (nx := nx) (bX := bX) (na := na) (fl := fl) (aa := aa) (co := co) (ov := ov) (mx := mx) (rm := rm) (sX := sX) (lX := lX) (sY := sY) (dY := dY) (bY := bY) (nY := nY) (lY := lY) p (by omega) v1 with ⟨z, _, hx, hy⟩ | ⟨hr, hx, hy⟩
  · exact hx _ (br_t rfl (hy _ (br_t rfl ⟨rfl, I'⟩)))
  · rcases hr with rfl | ⟨q, hq, rfl⟩
    · exact hx _ (br_f sm_1 ⟨vp_in_nI (n := 8) (by omega) (by omega), hy _ (br_f sm_1 (br_t rfl ⟨hsi.2.2.2.2, I'⟩))⟩)
    · have h8 : ¬ nI q = (8 : Int32) := fun z => by
        have := (nI_eq (a := q) (b := 8) (by omega) (by omega)).mp z
        omega
      exact hx _ (br_f sm_1 ⟨vp_in_nI (by omega) (by omega), hy _ (br_f sm_1 (br_f h8 ⟨vp_in_nI (by omega) (by omega), by rw [nI_clamp (by omega)]; exact hsi.2.2.2.1 q (by omega), I'⟩))⟩)
theorem rl_en_1 {r : Nat} (h : r ≤ 200 ∨ r = 1000000) : (r = 1000000 ∧ rl_en r = -1) ∨ (r ≤ 200 ∧ rl_en r = nI r) := by
  unfold rl_en
  by_cases e : r = 1000000
  · exact Or.inl ⟨e, if_pos e⟩
  · exact Or.inr ⟨by omega, if_neg e⟩
theorem rl_inf {r : Nat} (h : r ≤ 200 ∨ r = 1000000) : nI r = 1000000 ↔ r = 1000000 := nI_eq (a := r) (b := 1000000) (by omega) (by omega)
theorem i_vc_stepBound {k : Nat} {u : SX} {v : SY} (I : i_Rel k u v) (hk : k + 5 ≤ 2562) (v1 : Int32) : wpX_stepBound (fun r => wpY_stepBound (fun r' => r' = r ∧ i_Rel (k + 5) u v) v v1) u v1 := by
  have I' : i_Rel (k + 5) u v := I
  obtain ⟨c, n, p, kk, sT, tM, fR, pe, dl, hd, tl, os, ga, tx, rs, cs, pr, pd, nx, bX, na, fl, aa, co, ov, mx, rm, sX, lX, sY, dY, bY, nY, lY, rfl, rfl, hs, hf, hch, hsi, ha⟩ := I
  unfold wpX_stepBound
  rcases pk_ix v1 (n := n) (by omega) with h | h | ⟨j, hj, rfl⟩
  · refine sm_s0 h (br_t rfl ?_)
    exact br_t h ⟨rfl, I'⟩
  · by_cases h0 : v1 < 0
    · refine sm_s0 h0 (br_t rfl ?_)
      exact br_t h0 ⟨rfl, I'⟩
    · refine sm_s2 h0 h (br_t rfl ?_)
      exact br_f h0 (br_f (Int32.not_lt.mpr h) ⟨rfl, I'⟩)
  · refine sm_s1 hj (by omega) (br_f sm_1 ?_)
    have hj0 : ¬ nI j < 0 := nI_pos (by omega)
    have hjn : nI j < nI n := nI_lt hj (by omega)
    have hin : vp_in (nI j) 16 := vp_in_nI (by omega) (by omega)
    by_cases hT : sT = 0
    · exact br_t hT (br_f hj0 (br_t hjn (br_t hT ⟨rfl, I'⟩)))
    · rcases ha with z | ⟨_, R, hR⟩
      · exact absurd z hT
      · obtain ⟨r1, r2, r3⟩ := hR j hj
        refine br_f hT ⟨hin, br_f hj0 (br_t hjn (br_f hT ⟨hin, ?_⟩))⟩
        rw [nI_clamp (by omega), r3, r2]
        rcases rl_en_1 r1 with ⟨e, e'⟩ | ⟨e, e'⟩
        · rw [e']
          exact br_t ((rl_inf r1).mpr e) ⟨rfl, I'⟩
        · rw [e']
          exact br_f (fun z => by have := (rl_inf r1).mp z; omega) ⟨hin, rfl, I'⟩
theorem i_vc_transactionBound {k : Nat} {u : SX} {v : SY} (I : i_Rel k u v) (hk : k + 5 ≤ 2562) (v1 : Int32) : wpX_transactionBound (fun r => wpY_transactionBound (fun r' => r' = r ∧ i_Rel (k + 5) u v) v v1) u v1 := by
  have I' : i_Rel (k + 5) u v := I
  obtain ⟨c, n, p, kk, sT, tM, fR, pe, dl, hd, tl, os, ga, tx, rs, cs, pr, pd, nx, bX, na, fl, aa, co, ov, mx, rm, sX, lX, sY, dY, bY, nY, lY, rfl, rfl, hs, hf, hch, hsi, ha⟩ := I
  unfold wpX_transactionBound
  rcases pk_ix v1 (n := c) (by omega) with h | h | ⟨j, hj, rfl⟩
  · refine sm_t0 h (br_t rfl ?_)
    exact br_t h ⟨rfl, I'⟩
  · by_cases h0 : v1 < 0
    · refine sm_t0 h0 (br_t rfl ?_)
      exact br_t h0 ⟨rfl, I'⟩
    · refine sm_t2 h0 h (br_t rfl ?_)
      exact br_f h0 (br_f (Int32.not_lt.mpr h) ⟨rfl, I'⟩)
  · refine sm_t1 hj (by omega) (br_f sm_1 ?_)
    have hj0 : ¬ nI j < 0 := nI_pos (by omega)
    have hjn : nI j < nI c := nI_lt hj (by omega)
    have hin : vp_in (nI j) 8 := vp_in_nI (by omega) (by omega)
    by_cases hT : sT = 0
    · exact br_t hT (br_f hj0 (br_t hjn (br_t hT ⟨rfl, I'⟩)))
    · rcases ha with z | ⟨hh, R, hR⟩
      · exact absurd z hT
      · obtain ⟨c1, c2, _, _⟩ := hch
        have hhj := hh j hj
        rcases sn_L_some tx (nI j) n with ⟨_, b⟩ | ⟨l, hl, a, b, d⟩
        · exfalso
          rcases sn_F_some tx (nI j) n 0 with ⟨a, _⟩ | ⟨m, _, hm, _, e, _⟩
          · exact hhj (by rw [c1 j hj, a])
          · exact b m (by omega) e
        · have etl : tl j = nI l := by rw [c2 j hj, a]
          obtain ⟨r1, r2, r3⟩ := hR l hl
          have hil : vp_in (nI l) 16 := vp_in_nI (by omega) (by omega)
          refine br_f hT ⟨hin, ?_⟩
          rw [nI_clamp (by omega), etl, nI_clamp (by omega)]
          refine ⟨hil, br_f hj0 (br_t hjn (br_f hT (sm_yt (by omega) ?_)))⟩
          rw [a]
          refine br_f (bs_ne (by omega)) ⟨hil, ?_⟩
          rw [nI_clamp (by omega), r3, r2]
          rcases rl_en_1 r1 with ⟨e, e'⟩ | ⟨e, e'⟩
          · rw [e']
            exact br_t ((rl_inf r1).mpr e) ⟨rfl, I'⟩
          · rw [e']
            exact br_f (fun z => by have := (rl_inf r1).mp z; omega) ⟨hil, rfl, I'⟩
end
end
section
/-! what changes the configuration or the arrivals -/
section
variable {pN pK sT tM fR tC sC : Int32} {c n p kk : Nat} {pe dl hd tl os ga tx rs cs pr pd nx bX na fl aa co ov mx rm sX lX sY dY bY nY lY : Nat → Int32}
theorem cf_up {f : Nat → Int32} {v : Int32} {i : Nat} (h : i < 2 ^ 31) : upd f (nI i).toNatClampNeg v = upd f i v := by rw [nI_clamp h]
theorem cf_cc {post : SX → Prop} (hc : c ≤ 8) (hn : n ≤ 16) (hp : post (pN, pK, nI c, nI n, 0, 0, -1, pe, dl, hd, tl, os, ga, tx, rs, cs, pr, pd, nx, bX, bs_mz na os c, bs_mz fl (fun _ => 0) c, aa, bs_mz co (fun _ => 0) c, bs_mz ov (fun _ => 0) c, bs_mz mx (fun _ => -1) c, bs_mz rm (fun _ => 0) n, bs_mz sX (fun _ => -1) n, bs_mz lX (fun _ => -1) 9)) : wpX_configurationChanged post (pN, pK, nI c, nI n, sT, tM, fR, pe, dl, hd, tl, os, ga, tx, rs, cs, pr, pd, nx, bX, na, fl, aa, co, ov, mx, rm, sX, lX) := by
  unfold wpX_configurationChanged
  exact rs_x hc hn hp
theorem cf_Cf_tx (hf : rl_Cf c n p pe dl tx rs cs) {a b : Nat} (h1 : 1 ≤ a) (h2 : a ≤ 200) (k1 : 1 ≤ b) (k2 : b ≤ 200) : rl_Cf (c + 1) n p (upd pe c (nI a)) (upd dl c (nI b)) tx rs cs := by
  obtain ⟨f1, f2, f3, f4, f5⟩ := hf
  refine ⟨fun s hs => ?_, f2, f3, fun x hx => ?_, fun x hx => ?_⟩
  · obtain ⟨y, hy, e⟩ := f1 s hs
    exact ⟨y, by omega, e⟩
  · by_cases e : x = c
    · subst e
      exact ⟨a, h1, h2, pk_us⟩
    · rw [pk_un e]
      exact f4 x (by omega)
  · by_cases e : x = c
    · subst e
      exact ⟨b, k1, k2, pk_us⟩
    · rw [pk_un e]
      exact f5 x (by omega)
theorem cf_Cf_st (hf : rl_Cf c n p pe dl tx rs cs) {x v : Nat} {r : Int32} (hx : x < c) (hr : r = 8 ∨ ∃ q, q < p ∧ r = nI q) (h1 : 1 ≤ v) (h2 : v ≤ 20) : rl_Cf c (n + 1) p pe dl (upd tx n (nI x)) (upd rs n r) (upd cs n (nI v)) := by
  obtain ⟨f1, f2, f3, f4, f5⟩ := hf
  refine ⟨fun s hs => ?_, fun s hs => ?_, fun s hs => ?_, f4, f5⟩
  · by_cases e : s = n
    · subst e
      exact ⟨x, hx, pk_us⟩
    · rw [pk_un e]
      exact f1 s (by omega)
  · by_cases e : s = n
    · subst e
      rw [pk_us]; exact hr
    · rw [pk_un e]
      exact f2 s (by omega)
  · by_cases e : s = n
    · subst e
      exact ⟨v, h1, h2, pk_us⟩
    · rw [pk_un e]
      exact f3 s (by omega)
theorem i_vc_addTransaction {k : Nat} {u : SX} {v : SY} (I : i_Rel k u v) (hk : k + 5 ≤ 2562) (v1 : Int32) (v2 : Int32) : wpX_addTransaction (fun r u' => wpY_addTransaction (fun r' v' => r' = r ∧ i_Rel (k + 5) u' v') v v1 v2) u v1 v2 := by
  have I' : i_Rel (k + 5) u v := I
  obtain ⟨c, n, p, kk, sT, tM, fR, pe, dl, hd, tl, os, ga, tx, rs, cs, pr, pd, nx, bX, na, fl, aa, co, ov, mx, rm, sX, lX, sY, dY, bY, nY, lY, rfl, rfl, hs, hf, hch, hsi, ha⟩ := I
  unfold wpX_addTransaction
  by_cases hc : c < 8
  · have h8 : nI c < (8 : Int32) := nI_lt (a := c) (b := 8) hc (by omega)
    rcases sm_in3 v1 1 200 (by omega) (by omega) with h | ⟨h, h'⟩ | ⟨a, h1, h2, rfl⟩
    · refine br_t h8 (sm_w0 h (br_t rfl ?_))
      exact br_t h8 (br_t h ⟨rfl, I'⟩)
    · refine br_t h8 (sm_w2 h h' (br_t rfl ?_))
      exact br_t h8 (br_f h (br_f (sm_nle h') ⟨rfl, I'⟩))
    · have g1 : ¬ nI a < (1 : Int32) := nI_nlt (a := a) (b := 1) h1 (by omega)
      have g2 : nI a ≤ (200 : Int32) := nI_le (a := a) (b := 200) h2 (by omega)
      rcases sm_in3 v2 1 a (by omega) (by omega) with h | ⟨h, h'⟩ | ⟨b, k1, k2, rfl⟩
      · refine br_t h8 (sm_w1 (lo := 1) (hi := 200) h1 h2 (by omega) (br_f sm_1 (sm_w0 h (br_t rfl ?_))))
        exact br_t h8 (br_f g1 (br_t g2 (br_t h ⟨rfl, I'⟩)))
      · refine br_t h8 (sm_w1 (lo := 1) (hi := 200) h1 h2 (by omega) (br_f sm_1 (sm_w2 h h' (br_t rfl ?_))))
        exact br_t h8 (br_f g1 (br_t g2 (br_f h (br_f (sm_nle h') ⟨rfl, I'⟩))))
      · have g3 : ¬ nI b < (1 : Int32) := nI_nlt (a := b) (b := 1) k1 (by omega)
        have g4 : nI b ≤ nI a := nI_le k2 (by omega)
        have hi : vp_in (nI c) 8 := vp_in_nI (by omega) (by omega)
        refine br_t h8 (sm_w1 (lo := 1) (hi := 200) h1 h2 (by omega) (br_f sm_1 (sm_w1 (lo := 1) (hi := a) k1 k2 (by omega) (br_f sm_1 ?_))))
        refine ⟨hi, nm_r (cf_up (by omega)) ⟨hi, nm_r (cf_up (by omega)) ⟨hi, nm_r (cf_up (by omega)) ⟨hi, nm_r (cf_up (by omega)) ⟨hi, nm_r (cf_up (by omega)) ⟨hi, nm_r (cf_up (by omega)) (nm_r (nI_1 c) ?_)⟩⟩⟩⟩⟩⟩
        refine cf_cc (by omega) (by omega) ?_
        refine br_t h8 (br_f g1 (br_t g2 (br_f g3 (br_t g4 ?_))))
        refine ⟨hi, nm_r (cf_up (by omega)) ⟨hi, nm_r (cf_up (by omega)) ⟨hi, nm_r (cf_up (by omega)) ⟨hi, nm_r (cf_up (by omega)) (nm_r (nI_1 c) ?_)⟩⟩⟩⟩
        refine rs_y (by omega) ⟨rfl, ?_⟩
        exact rl_rst ⟨by omega, by omega, by omega, by omega, by omega⟩ (cf_Cf_tx hf h1 h2 k1 (by omega)) (sn_Ch_tx hch hf.1 hc) hsi.1 (Or.inl rfl)
  · have h8 : ¬ nI c < (8 : Int32) := nI_nlt (a := c) (b := 8) (by omega) (by omega)
    refine br_f h8 ?_
    exact br_f h8 ⟨rfl, I'⟩
theorem i_vc_setArrivals {k : Nat} {u : SX} {v : SY} (I : i_Rel k u v) (hk : k + 5 ≤ 2562) (v1 : Int32) (v2 : Int32) (v3 : Int32) : wpX_setArrivals (fun r u' => wpY_setArrivals (fun r' v' => r' = r ∧ i_Rel (k + 5) u' v') v v1 v2 v3) u v1 v2 v3 := by
  have I' : i_Rel (k + 5) u v := I
  obtain ⟨c, n, p, kk, sT, tM, fR, pe, dl, hd, tl, os, ga, tx, rs, cs, pr, pd, nx, bX, na, fl, aa, co, ov, mx, rm, sX, lX, sY, dY, bY, nY, lY, rfl, rfl, hs, hf, hch, hsi, ha⟩ := I
  unfold wpX_setArrivals
  rcases pk_ix v1 (n := c) (by omega) with h | h | ⟨j, hj, rfl⟩
  · refine sm_t0 h (br_t rfl ?_)
    exact br_t h ⟨rfl, I'⟩
  · by_cases h0 : v1 < 0
    · refine sm_t0 h0 (br_t rfl ?_)
      exact br_t h0 ⟨rfl, I'⟩
    · refine sm_t2 h0 h (br_t rfl ?_)
      exact br_f h0 (br_f (Int32.not_lt.mpr h) ⟨rfl, I'⟩)
  · have j0 : ¬ nI j < 0 := nI_pos (by omega)
    have jc : nI j < nI c := nI_lt hj (by omega)
    refine sm_t1 hj (by omega) (br_f sm_1 ?_)
    rcases sm_in3 v2 0 200 (by omega) (by omega) with h | ⟨h, h'⟩ | ⟨a, h1, h2, rfl⟩
    · refine sm_w0 h (br_t rfl ?_)
      exact br_f j0 (br_t jc (br_t h ⟨rfl, I'⟩))
    · refine sm_w2 h h' (br_t rfl ?_)
      exact br_f j0 (br_t jc (br_f h (br_f (sm_nle h') ⟨rfl, I'⟩)))
    · have g1 : ¬ nI a < (0 : Int32) := nI_pos (by omega)
      have g2 : nI a ≤ (200 : Int32) := nI_le (a := a) (b := 200) h2 (by omega)
      refine sm_w1 (lo := 0) (hi := 200) h1 h2 (by omega) (br_f sm_1 ?_)
      rcases sm_in3 v3 0 200 (by omega) (by omega) with h | ⟨h, h'⟩ | ⟨b, k1, k2, rfl⟩
      · refine sm_w0 h (br_t rfl ?_)
        exact br_f j0 (br_t jc (br_f g1 (br_t g2 (br_t h ⟨rfl, I'⟩))))
      · refine sm_w2 h h' (br_t rfl ?_)
        exact br_f j0 (br_t jc (br_f g1 (br_t g2 (br_f h (br_f (sm_nle h') ⟨rfl, I'⟩)))))
      · have g3 : ¬ nI b < (0 : Int32) := nI_pos (by omega)
        have g4 : nI b ≤ (200 : Int32) := nI_le (a := b) (b := 200) k2 (by omega)
        have hi : vp_in (nI j) 8 := vp_in_nI (by omega) (by omega)
        refine sm_w1 (lo := 0) (hi := 200) k1 k2 (by omega) (br_f sm_1 ⟨hi, nm_r (cf_up (by omega)) ⟨hi, nm_r (cf_up (by omega)) ?_⟩⟩)
        refine rs_x (by omega) (by omega) ?_
        refine br_f j0 (br_t jc (br_f g1 (br_t g2 (br_f g3 (br_t g4 ⟨hi, nm_r (cf_up (by omega)) ⟨hi, nm_r (cf_up (by omega)) ?_⟩⟩)))))
        refine rs_y (by omega) ⟨rfl, ?_⟩
        exact rl_rst hs hf hch hsi.1 ha
theorem cf_xt2 {post : Int32 → Prop} {r q : Int32} (hn : n ≤ 16) (h1 : (∃ j, j < n ∧ rs j = r ∧ pr j = q) → post 1) (h0 : (¬ ∃ j, j < n ∧ rs j = r ∧ pr j = q) → post 0) : ∀ d i, i + d = n → (∀ j, j < i → ¬ (rs j = r ∧ pr j = q)) → wX_isPriorityTaken_2 post r q pN pK tC (nI n) sT tM fR pe dl hd tl os ga tx rs cs pr pd nx bX na fl aa co ov mx rm sX lX (d + 1) (nI i) := by
  intro d
  induction d with
  | zero =>
    intro i hi ha
    have e : i = n := by omega
    subst e
    exact br_t (nI_le (by omega) (by omega)) (h0 (fun ⟨j, hj, z⟩ => ha j hj z))
  | succ d ih =>
    intro i hi ha
    have next : ¬ (rs i = r ∧ pr i = q) → wX_isPriorityTaken_2 post r q pN pK tC (nI n) sT tM fR pe dl hd tl os ga tx rs cs pr pd nx bX na fl aa co ov mx rm sX lX (d + 1) (nI (i + 1)) := by
      intro z
      refine ih (i + 1) (by omega) (fun j hj => ?_)
      by_cases e : j = i
      · rw [e]; exact z
      · exact ha j (by omega)
    have hin : vp_in (nI i) 16 := vp_in_nI (by omega) (by omega)
    refine br_f (nI_ge (by omega) (by omega)) ⟨hin, ?_⟩
    rw [nI_clamp (by omega)]
    by_cases e : rs i = r
    · refine br_t e ⟨hin, ?_⟩
      by_cases g : pr i = q
      · exact br_t g (h1 ⟨i, by omega, e, g⟩)
      · exact br_f g (nm_r (nI_1 i) (next (fun z => g z.2)))
    · exact br_f e (nm_r (nI_1 i) (next (fun z => e z.1)))
theorem cf_xt {post : Int32 → Prop} {r q : Int32} (hn : n ≤ 16) (h1 : (∃ j, j < n ∧ rs j = r ∧ pr j = q) → post 1) (h0 : (¬ ∃ j, j < n ∧ rs j = r ∧ pr j = q) → post 0) : wpX_isPriorityTaken post (pN, pK, tC, nI n, sT, tM, fR, pe, dl, hd, tl, os, ga, tx, rs, cs, pr, pd, nx, bX, na, fl, aa, co, ov, mx, rm, sX, lX) r q := ⟨n + 1, cf_xt2 hn h1 h0 n 0 (by omega) (fun j hj => by omega)⟩
theorem cf_y73 {post : Int32 → SY → Prop} {x1 r x3 q : Int32} (hn : n ≤ 16) (h1 : (∃ j, j < n ∧ rs j = r ∧ pr j = q) → post (-15) (pN, pK, tC, nI n, sT, tM, fR, pe, dl, os, ga, na, aa, co, ov, mx, fl, tx, rs, cs, pr, rm, sY, dY, bY, nY, lY)) (h0 : (¬ ∃ j, j < n ∧ rs j = r ∧ pr j = q) → wY_addStep_73 post x1 r x3 q pN pK tC (nI n) sT tM fR pe dl os ga na aa co ov mx fl tx rs cs pr rm sY dY bY nY lY 1 (nI n)) : ∀ d i, i + d = n → (∀ j, j < i → ¬ (rs j = r ∧ pr j = q)) → wY_addStep_73 post x1 r x3 q pN pK tC (nI n) sT tM fR pe dl os ga na aa co ov mx fl tx rs cs pr rm sY dY bY nY lY (d + 1) (nI i) := by
  intro d
  induction d with
  | zero =>
    intro i hi ha
    have e : i = n := by omega
    subst e
    exact h0 (fun ⟨j, hj, z⟩ => ha j hj z)
  | succ d ih =>
    intro i hi ha
    have next : ¬ (rs i = r ∧ pr i = q) → wY_addStep_73 post x1 r x3 q pN pK tC (nI n) sT tM fR pe dl os ga na aa co ov mx fl tx rs cs pr rm sY dY bY nY lY (d + 1) (nI (i + 1)) := by
      intro z
      refine ih (i + 1) (by omega) (fun j hj => ?_)
      by_cases e : j = i
      · rw [e]; exact z
      · exact ha j (by omega)
    have hin : vp_in (nI i) 16 := vp_in_nI (by omega) (by omega)
    refine br_f (nI_ge (by omega) (by omega)) ⟨hin, ?_⟩
    rw [nI_clamp (by omega)]
    by_cases e : rs i = r
    · refine br_t e ⟨hin, ?_⟩
      by_cases g : pr i = q
      · exact br_t g (h1 ⟨i, by omega, e, g⟩)
      · exact br_f g (nm_r (nI_1 i) (next (fun z => g z.2)))
    · exact br_f e (nm_r (nI_1 i) (next (fun z => e z.1)))
theorem cf_ap1 {post : SX → Prop} {x : Nat} (hx : x < 8) (hn : n < 16) (e : tl x = -1) (hp : post (pN, pK, tC, sC, sT, tM, fR, pe, dl, upd hd x (nI n), upd tl x (nI n), os, ga, tx, rs, cs, pr, upd pd n (-1), upd nx n (-1), bX, na, fl, aa, co, ov, mx, rm, sX, lX)) : wpX_appendToChain post (pN, pK, tC, sC, sT, tM, fR, pe, dl, hd, tl, os, ga, tx, rs, cs, pr, pd, nx, bX, na, fl, aa, co, ov, mx, rm, sX, lX) (nI x) (nI n) := by
  have i8 : vp_in (nI x) 8 := vp_in_nI (by omega) (by omega)
  have i16 : vp_in (nI n) 16 := vp_in_nI (by omega) (by omega)
  refine ⟨i8, nm_r (by rw [nI_clamp (by omega), e]) ⟨i16, nm_r (cf_up (by omega)) ⟨i16, nm_r (cf_up (by omega)) (br_t rfl ⟨i8, nm_r (cf_up (by omega)) ⟨i8, nm_r (cf_up (by omega)) hp⟩⟩)⟩⟩⟩
theorem cf_ap2 {post : SX → Prop} {x l : Nat} (hx : x < 8) (hn : n < 16) (hl : l < n) (e : tl x = nI l) (hp : post (pN, pK, tC, sC, sT, tM, fR, pe, dl, hd, upd tl x (nI n), os, ga, tx, rs, cs, pr, upd pd n (nI l), upd (upd nx n (-1)) l (nI n), bX, na, fl, aa, co, ov, mx, rm, sX, lX)) : wpX_appendToChain post (pN, pK, tC, sC, sT, tM, fR, pe, dl, hd, tl, os, ga, tx, rs, cs, pr, pd, nx, bX, na, fl, aa, co, ov, mx, rm, sX, lX) (nI x) (nI n) := by
  have i8 : vp_in (nI x) 8 := vp_in_nI (by omega) (by omega)
  have i16 : vp_in (nI n) 16 := vp_in_nI (by omega) (by omega)
  have il : vp_in (nI l) 16 := vp_in_nI (by omega) (by omega)
  refine ⟨i8, nm_r (by rw [nI_clamp (by omega), e]) ⟨i16, nm_r (cf_up (by omega)) ⟨i16, nm_r (cf_up (by omega)) (br_f (bs_ne (by omega)) ⟨il, nm_r (cf_up (by omega)) ⟨i8, nm_r (cf_up (by omega)) hp⟩⟩)⟩⟩⟩
theorem cf_yend {k x w v : Nat} {r q : Int32} {u' : SX} (hn : n < 16) (hc : c ≤ 8)
    (hp : i_Rel k u' (nI p, nI kk, nI c, nI (n + 1), 0, 0, -1, pe, dl, os, ga, bs_mz na os c, aa, bs_mz co (fun _ => 0) c, bs_mz ov (fun _ => 0) c, bs_mz mx (fun _ => -1) c, bs_mz fl (fun _ => 0) c, upd tx n (nI x), upd rs n r, upd cs n (nI v), upd pr n q, bs_mz rm (fun _ => 0) 16, bs_mz sY (fun _ => -1) 16, bs_mz dY (fun _ => 0) 16, bY, nY, bs_mz lY (fun _ => -1) 5)) :
    wY_addStep_73 (fun r' v' => r' = nI n ∧ i_Rel k u' v') (nI x) r (nI v) q (nI p) (nI kk) (nI c) (nI n) sT tM fR pe dl os ga na aa co ov mx fl tx rs cs pr rm sY dY bY nY lY 1 (nI n) := by
  have hin : vp_in (nI n) 16 := vp_in_nI (by omega) (by omega)
  refine br_t (nI_le (by omega) (by omega)) ⟨hin, nm_r (cf_up (by omega)) ⟨hin, nm_r (cf_up (by omega)) ⟨hin, nm_r (cf_up (by omega)) ⟨hin, nm_r (cf_up (by omega)) (nm_r (nI_1 n) ?_)⟩⟩⟩⟩
  exact rs_y hc ⟨rfl, hp⟩
theorem i_vc_addStep {k : Nat} {u : SX} {v : SY} (I : i_Rel k u v) (hk : k + 5 ≤ 2562) (v1 : Int32) (v2 : Int32) (v3 : Int32) (v4 : Int32) : wpX_addStep (fun r u' => wpY_addStep (fun r' v' => r' = r ∧ i_Rel (k + 5) u' v') v v1 v2 v3 v4) u v1 v2 v3 v4 := by
  have I' : i_Rel (k + 5) u v := I
  obtain ⟨c, n, p, kk, sT, tM, fR, pe, dl, hd, tl, os, ga, tx, rs, cs, pr, pd, nx, bX, na, fl, aa, co, ov, mx, rm, sX, lX, sY, dY, bY, nY, lY, rfl, rfl, hs, hf, hch, hsi, ha⟩ := I
  unfold wpX_addStep
  rcases pk_ix v1 (n := c) (by omega) with h | h | ⟨j, hj, rfl⟩
  · refine sm_t0 h (br_t rfl ?_)
    exact br_t h ⟨rfl, I'⟩
  · by_cases h0 : v1 < 0
    · refine sm_t0 h0 (br_t rfl ?_)
      exact br_t h0 ⟨rfl, I'⟩
    · refine sm_t2 h0 h (br_t rfl ?_)
      exact br_f h0 (br_f (Int32.not_lt.mpr h) ⟨rfl, I'⟩)
  · have j0 : ¬ nI j < 0 := nI_pos (by omega)
    have jc : nI j < nI c := nI_lt hj (by omega)
    refine sm_t1 hj (by omega) (br_f sm_1 ?_)
    by_cases hnk : n < kk
    · have nk : nI n < nI kk := nI_lt hnk (by omega)
      refine br_t nk ?_
      rcases sm_res (sC := nI n) (tC := nI c) (pK := nI kk) (sT := sT) (tM := tM) (fR := fR) (pe := pe) (dl := dl) (hd := hd) (tl := tl) (os := os) (ga := ga) (tx := tx) (rs := rs) (cs := cs) (pr := pr) (pd := pd) (nx := nx) (bX := bX) (na := na) (fl := fl) (aa := aa) (co := co) (ov := ov) (mx := mx) (rm := rm) (sX := sX) (lX := lX) (sY := sY) (dY := dY) (bY := bY) (nY := nY) (lY := lY) p (by omega) v2 with ⟨z, _, hx, hy⟩ | ⟨hr, hx, hy⟩
      · refine hx _ (br_t rfl ?_)
        exact br_f j0 (br_t jc (br_t nk (hy _ (br_t rfl ⟨rfl, I'⟩))))
      · refine hx _ (br_f sm_1 ?_)
        rcases sm_in3 v3 1 20 (by omega) (by omega) with h | ⟨h, h'⟩ | ⟨a, h1, h2, rfl⟩
        · refine sm_w0 h (br_t rfl ?_)
          exact br_f j0 (br_t jc (br_t nk (hy _ (br_f sm_1 (br_t h ⟨rfl, I'⟩)))))
        · refine sm_w2 h h' (br_t rfl ?_)
          exact br_f j0 (br_t jc (br_t nk (hy _ (br_f sm_1 (br_f h (br_f (sm_nle h') ⟨rfl, I'⟩))))))
        · have g1 : ¬ nI a < (1 : Int32) := nI_nlt (a := a) (b := 1) h1 (by omega)
          have g2 : nI a ≤ (20 : Int32) := nI_le (a := a) (b := 20) h2 (by omega)
          refine sm_w1 (lo := 1) (hi := 20) h1 h2 (by omega) (br_f sm_1 ?_)
          rcases sm_in3 v4 1 100 (by omega) (by omega) with h | ⟨h, h'⟩ | ⟨b, k1, k2, rfl⟩
          · refine sm_w0 h (br_t rfl ?_)
            exact br_f j0 (br_t jc (br_t nk (hy _ (br_f sm_1 (br_f g1 (br_t g2 (br_t h ⟨rfl, I'⟩)))))))
          · refine sm_w2 h h' (br_t rfl ?_)
            exact br_f j0 (br_t jc (br_t nk (hy _ (br_f sm_1 (br_f g1 (br_t g2 (br_f h (br_f (sm_nle h') ⟨rfl, I'⟩))))))))
          · have g3 : ¬ nI b < (1 : Int32) := nI_nlt (a := b) (b := 1) k1 (by omega)
            have g4 : nI b ≤ (100 : Int32) := nI_le (a := b) (b := 100) k2 (by omega)
            have hin : vp_in (nI n) 16 := vp_in_nI (by omega) (by omega)
            refine sm_w1 (lo := 1) (hi := 100) k1 k2 (by omega) (br_f sm_1 ?_)
            refine cf_xt (by omega) (fun ht => ?_) (fun ht => ?_)
            · refine br_f sm_1 ?_
              exact br_f j0 (br_t jc (br_t nk (hy _ (br_f sm_1 (br_f g1 (br_t g2 (br_f g3 (br_t g4 ⟨n + 1, cf_y73 (by omega) (fun _ => ⟨rfl, I'⟩) (fun z => absurd ht z) n 0 (by omega) (fun i hi => by omega)⟩))))))))
            · refine br_t rfl ⟨hin, nm_r (cf_up (by omega)) ⟨hin, nm_r (cf_up (by omega)) ⟨hin, nm_r (cf_up (by omega)) ⟨hin, nm_r (cf_up (by omega)) (nm_r (nI_1 n) ?_)⟩⟩⟩⟩
              have hf' := cf_Cf_st hf hj hr h1 h2
              rcases sn_Ch_step hch (by omega : n < 16) hj (by omega) with ⟨etl, hch'⟩ | ⟨l, hl, etl, hch'⟩
              · refine cf_ap1 (by omega) (by omega) etl ?_
                refine cf_cc (by omega) (by omega) ?_
                refine br_f j0 (br_t jc (br_t nk (hy _ (br_f sm_1 (br_f g1 (br_t g2 (br_f g3 (br_t g4 ⟨n + 1, cf_y73 (by omega) (fun z => absurd z ht) (fun _ => ?_) n 0 (by omega) (fun i hi => by omega)⟩))))))))
                exact cf_yend (w := 0) (by omega) (by omega) (rl_rst ⟨by omega, by omega, by omega, by omega, by omega⟩ hf' hch' (fun s hs' => hsi.1 s (by omega)) (Or.inl rfl))
              · refine cf_ap2 (by omega) (by omega) hl etl ?_
                refine cf_cc (by omega) (by omega) ?_
                refine br_f j0 (br_t jc (br_t nk (hy _ (br_f sm_1 (br_f g1 (br_t g2 (br_f g3 (br_t g4 ⟨n + 1, cf_y73 (by omega) (fun z => absurd z ht) (fun _ => ?_) n 0 (by omega) (fun i hi => by omega)⟩))))))))
                exact cf_yend (w := 0) (by omega) (by omega) (rl_rst ⟨by omega, by omega, by omega, by omega, by omega⟩ hf' hch' (fun s hs' => hsi.1 s (by omega)) (Or.inl rfl))
    · have nk : ¬ nI n < nI kk := nI_nlt (by omega) (by omega)
      refine br_f nk ?_
      exact br_f j0 (br_t jc (br_f nk ⟨rfl, I'⟩))
end
end
section
/-! one tick, both sides in lockstep -/
theorem sn_mu_t {rs pr rm : Nat → Int32} {r : Int32} {k : Nat} (h : (rs k = r ∧ 0 < rm k) ∧ (sn_mu rs pr rm r k = -1 ∨ pr (sn_mu rs pr rm r k).toNatClampNeg < pr k)) : sn_mu rs pr rm r (k + 1) = nI k := if_pos h
theorem sn_mu_n {rs pr rm : Nat → Int32} {r : Int32} {k : Nat} (h : ¬ ((rs k = r ∧ 0 < rm k) ∧ (sn_mu rs pr rm r k = -1 ∨ pr (sn_mu rs pr rm r k).toNatClampNeg < pr k))) : sn_mu rs pr rm r (k + 1) = sn_mu rs pr rm r k := if_neg h
def ti_gr (a b : Int32) : Int32 := if a ≤ b then b else a
theorem ti_gr1 {a b : Int32} (h : b ≤ a) : ti_gr a b = a := by
  unfold ti_gr
  by_cases e : a ≤ b
  · rw [if_pos e]; exact Int32.le_antisymm h e
  · rw [if_neg e]
theorem ti_gr2 {a b : Int32} (h : ¬ b ≤ a) : ti_gr a b = b := by
  unfold ti_gr
  rw [if_pos (Int32.le_of_lt (Int32.not_le.mp h))]
section
variable {pN pK sT tM fR tC sC : Int32} {c n p kk : Nat} {pe dl hd tl os ga tx rs cs pr pd nx bX na fl aa co ov mx rm sX lX sY dY bY nY lY : Nat → Int32}
theorem ti_gx {post : Int32 → Prop} {a b : Int32} (hp : post (ti_gr a b)) : wpX_greater post a b := by
  unfold ti_gr at hp
  by_cases e : a ≤ b
  · rw [if_pos e] at hp; exact br_t e hp
  · rw [if_neg e] at hp; exact br_f e hp
/-! the most urgent pending step -/
theorem ti_xm4 {post : Int32 → Prop} {r : Int32} (hn : n ≤ 16) : ∀ d i, i + d = n → post (sn_mu rs pr rm r n) → wX_mostUrgentPending_4 post r pN pK tC (nI n) sT tM fR pe dl hd tl os ga tx rs cs pr pd nx bX na fl aa co ov mx rm sX lX (d + 1) (sn_mu rs pr rm r i) (nI i) := by
  intro d
  induction d with
  | zero =>
    intro i hi hp
    have e : i = n := by omega
    subst e
    exact br_t (nI_le (by omega) (by omega)) hp
  | succ d ih =>
    intro i hi hp
    have z := ih (i + 1) (by omega) hp
    have hin : vp_in (nI i) 16 := vp_in_nI (by omega) (by omega)
    refine br_f (nI_ge (by omega) (by omega)) ⟨hin, ?_⟩
    rw [nI_clamp (by omega)]
    by_cases e1 : rs i = r
    · refine br_t e1 ⟨hin, ?_⟩
      by_cases e2 : rm i ≤ 0
      · rw [sn_mu_n (fun w => Int32.not_lt.mpr e2 w.1.2)] at z
        exact br_t e2 (br_t rfl (nm_r (nI_1 i) z))
      · have e2' : 0 < rm i := Int32.not_le.mp e2
        refine br_f e2 (br_f sm_1 ?_)
        rcases sn_mu_some rs pr rm r i with b | ⟨j, hj, b, _⟩
        · rw [sn_mu_t ⟨⟨e1, e2'⟩, Or.inl b⟩] at z
          exact br_t b (nm_r (nI_1 i) z)
        · have nb : ¬ sn_mu rs pr rm r i = -1 := by rw [b]; exact bs_ne (by omega)
          refine br_f nb ⟨hin, by rw [b]; exact vp_in_nI (by omega) (by omega), ?_⟩
          rw [nI_clamp (by omega)]
          by_cases e3 : pr i ≤ pr (sn_mu rs pr rm r i).toNatClampNeg
          · rw [sn_mu_n (fun w => by
              rcases w.2 with w | w
              · exact nb w
              · exact Int32.not_lt.mpr e3 w)] at z
            exact br_t e3 (nm_r (nI_1 i) z)
          · rw [sn_mu_t ⟨⟨e1, e2'⟩, Or.inr (Int32.not_le.mp e3)⟩] at z
            exact br_f e3 (nm_r (nI_1 i) z)
    · rw [sn_mu_n (fun w => e1 w.1.1)] at z
      exact br_f e1 (br_t rfl (nm_r (nI_1 i) z))
theorem ti_xm {post : Int32 → Prop} {r : Int32} (hn : n ≤ 16) (hp : post (sn_mu rs pr rm r n)) : wpX_mostUrgentPending post (pN, pK, tC, nI n, sT, tM, fR, pe, dl, hd, tl, os, ga, tx, rs, cs, pr, pd, nx, bX, na, fl, aa, co, ov, mx, rm, sX, lX) r := ⟨n + 1, ti_xm4 hn n 0 (by omega) hp⟩
theorem ti_y151 {post : SY → Prop} {J : Int32 → (Nat → Int32) → (Nat → Int32) → (Nat → Int32) → (Nat → Int32) → (Nat → Int32) → (Nat → Int32) → (Nat → Int32) → (Nat → Int32) → (Nat → Int32) → (Nat → Int32) → (Nat → Int32) → (Nat → Int32) → (Nat → Int32) → (Nat → Int32) → (Nat → Int32) → (Nat → Int32) → (Nat → Int32) → (Nat → Int32) → (Nat → Int32) → (Nat → Int32) → Prop} {x1 r : Int32} (hn : n ≤ 16) : ∀ d i, i + d = n → wY_tick_151 post J x1 r pN pK tC (nI n) sT tM fR pe dl os ga na aa co ov mx fl tx rs cs pr rm sY dY bY nY lY 1 (sn_mu rs pr rm r n) (nI n) → wY_tick_151 post J x1 r pN pK tC (nI n) sT tM fR pe dl os ga na aa co ov mx fl tx rs cs pr rm sY dY bY nY lY (d + 1) (sn_mu rs pr rm r i) (nI i) := by
  intro d
  induction d with
  | zero =>
    intro i hi hp
    have e : i = n := by omega
    subst e
    exact hp
  | succ d ih =>
    intro i hi hp
    have z := ih (i + 1) (by omega) hp
    have hin : vp_in (nI i) 16 := vp_in_nI (by omega) (by omega)
    refine br_f (nI_ge (by omega) (by omega)) ⟨hin, ?_⟩
    rw [nI_clamp (by omega)]
    by_cases e1 : rs i = r
    · refine br_t e1 ⟨hin, ?_⟩
      by_cases e2 : rm i ≤ 0
      · rw [sn_mu_n (fun w => Int32.not_lt.mpr e2 w.1.2)] at z
        exact br_t e2 (nm_r (nI_1 i) z)
      · have e2' : 0 < rm i := Int32.not_le.mp e2
        refine br_f e2 ?_
        rcases sn_mu_some rs pr rm r i with b | ⟨j, hj, b, _⟩
        · rw [sn_mu_t ⟨⟨e1, e2'⟩, Or.inl b⟩] at z
          exact br_t b (nm_r (nI_1 i) z)
        · have nb : ¬ sn_mu rs pr rm r i = -1 := by rw [b]; exact bs_ne (by omega)
          refine br_f nb ⟨hin, by rw [b]; exact vp_in_nI (by omega) (by omega), ?_⟩
          by_cases e3 : pr i ≤ pr (sn_mu rs pr rm r i).toNatClampNeg
          · rw [sn_mu_n (fun w => by
              rcases w.2 with w | w
              · exact nb w
              · exact Int32.not_lt.mpr e3 w)] at z
            exact br_t e3 (nm_r (nI_1 i) z)
          · rw [sn_mu_t ⟨⟨e1, e2'⟩, Or.inr (Int32.not_le.mp e3)⟩] at z
            exact br_f e3 (nm_r (nI_1 i) z)
    · rw [sn_mu_n (fun w => e1 w.1.1)] at z
      exact br_f e1 (nm_r (nI_1 i) z)
theorem ti_y260 {post : SY → Prop} {x1 : Int32} (hn : n ≤ 16) : ∀ d i, i + d = n → wY_tick_260 post x1 pN pK tC (nI n) sT tM pe dl os ga na aa co ov mx fl tx rs cs pr rm sY dY bY nY lY 1 (nI n) (sn_mu rs pr rm 8 n) → wY_tick_260 post x1 pN pK tC (nI n) sT tM pe dl os ga na aa co ov mx fl tx rs cs pr rm sY dY bY nY lY (d + 1) (nI i) (sn_mu rs pr rm 8 i) := by
  intro d
  induction d with
  | zero =>
    intro i hi hp
    have e : i = n := by omega
    subst e
    exact hp
  | succ d ih =>
    intro i hi hp
    have z := ih (i + 1) (by omega) hp
    have hin : vp_in (nI i) 16 := vp_in_nI (by omega) (by omega)
    refine br_f (nI_ge (by omega) (by omega)) ⟨hin, ?_⟩
    rw [nI_clamp (by omega)]
    by_cases e1 : rs i = 8
    · refine br_t e1 ⟨hin, ?_⟩
      by_cases e2 : rm i ≤ 0
      · rw [sn_mu_n (fun w => Int32.not_lt.mpr e2 w.1.2)] at z
        exact br_t e2 (nm_r (nI_1 i) z)
      · have e2' : 0 < rm i := Int32.not_le.mp e2
        refine br_f e2 ?_
        rcases sn_mu_some rs pr rm 8 i with b | ⟨j, hj, b, _⟩
        · rw [sn_mu_t ⟨⟨e1, e2'⟩, Or.inl b⟩] at z
          exact br_t b (nm_r (nI_1 i) z)
        · have nb : ¬ sn_mu rs pr rm 8 i = -1 := by rw [b]; exact bs_ne (by omega)
          refine br_f nb ⟨hin, by rw [b]; exact vp_in_nI (by omega) (by omega), ?_⟩
          by_cases e3 : pr i ≤ pr (sn_mu rs pr rm 8 i).toNatClampNeg
          · rw [sn_mu_n (fun w => by
              rcases w.2 with w | w
              · exact nb w
              · exact Int32.not_lt.mpr e3 w)] at z
            exact br_t e3 (nm_r (nI_1 i) z)
          · rw [sn_mu_t ⟨⟨e1, e2'⟩, Or.inr (Int32.not_le.mp e3)⟩] at z
            exact br_f e3 (nm_r (nI_1 i) z)
    · rw [sn_mu_n (fun w => e1 w.1.1)] at z
      exact br_f e1 (nm_r (nI_1 i) z)
/-! arrivals -/
theorem ti_upz {f : Nat → Int32} {m : Nat} {v : Int32} (hm : m < n) (hz : ∀ s, n ≤ s → f s = 0) : ∀ s, n ≤ s → upd f m v s = 0 := fun s hs => by rw [pk_un (by omega)]; exact hz s hs
theorem ti_bt {f : Nat → Int32} {i : Nat} (h : i < 2 ^ 31) : upd f (nI i).toNatClampNeg (vp_nar .boolean 1) = upd f i 1 := by rw [nI_clamp h, bs_b1]
theorem ti_bf {f : Nat → Int32} {i : Nat} (h : i < 2 ^ 31) : upd f (nI i).toNatClampNeg (vp_nar .boolean 0) = upd f i 0 := by rw [nI_clamp h, bs_b0]
theorem ti_xa1 {post : SX → Prop} {i m : Nat} (hi : i < 8) (hm : m < 16) (f : fl i = 0) (em : hd i = nI m) (hp : post (pN, pK, tC, sC, sT, tM, fR, pe, dl, hd, tl, os, ga, tx, rs, cs, pr, pd, nx, bX, upd na i (tM + pe i + ga i), upd fl i 1, upd aa i tM, co, ov, mx, upd rm m (cs m), sX, lX)) : wpX_arrive post (pN, pK, tC, sC, sT, tM, fR, pe, dl, hd, tl, os, ga, tx, rs, cs, pr, pd, nx, bX, na, fl, aa, co, ov, mx, rm, sX, lX) (nI i) := by
  have k : vp_in (nI i) 8 := vp_in_nI (by omega) (by omega)
  have km : vp_in (nI m) 16 := vp_in_nI (by omega) (by omega)
  refine ⟨k, br_t (by rw [nI_clamp (by omega)]; exact f) ⟨k, nm_r (ti_bt (by omega)) ⟨k, nm_r (cf_up (by omega)) ⟨k, ?_⟩⟩⟩⟩
  rw [nI_clamp (by omega), em]
  exact ⟨km, km, nm_r (by rw [nI_clamp (by omega)]) ⟨k, k, k, nm_r (by rw [nI_clamp (by omega)]) hp⟩⟩
theorem ti_xa2 {post : SX → Prop} {i : Nat} (hi : i < 8) (f : ¬ fl i = 0) (hp : post (pN, pK, tC, sC, sT, tM, fR, pe, dl, hd, tl, os, ga, tx, rs, cs, pr, pd, nx, bX, upd na i (tM + pe i + ga i), fl, aa, co, upd ov i (ov i + 1), mx, rm, sX, lX)) : wpX_arrive post (pN, pK, tC, sC, sT, tM, fR, pe, dl, hd, tl, os, ga, tx, rs, cs, pr, pd, nx, bX, na, fl, aa, co, ov, mx, rm, sX, lX) (nI i) := by
  have k : vp_in (nI i) 8 := vp_in_nI (by omega) (by omega)
  exact ⟨k, br_f (by rw [nI_clamp (by omega)]; exact f) ⟨k, k, nm_r (by rw [nI_clamp (by omega)]) ⟨k, k, k, nm_r (by rw [nI_clamp (by omega)]) hp⟩⟩⟩
theorem ti_arr (hc : c ≤ 8) (hn : n ≤ 16) (hh : ∀ x, x < c → hd x = sn_F tx (nI x) n 0) (hcm : ∀ x, x < c → ¬ hd x = -1) : ∀ (d i : Nat) (na fl aa ov rm : Nat → Int32), i + d = c → (∀ s, n ≤ s → rm s = 0) →
    ∃ na' fl' aa' ov' rm' : Nat → Int32, (∀ s, n ≤ s → rm' s = 0) ∧
      (∀ post : SX → Prop, wX_takeArrivals_2 post 1 (nI c) pN pK (nI c) (nI n) sT tM fR pe dl hd tl os ga tx rs cs pr pd nx bX na' fl' aa' co ov' mx rm' sX lX → wX_takeArrivals_2 post (d + 1) (nI i) pN pK (nI c) (nI n) sT tM fR pe dl hd tl os ga tx rs cs pr pd nx bX na fl aa co ov mx rm sX lX) ∧
      (∀ post : SY → Prop, wY_tick_7 post tM pN pK (nI c) (nI n) sT tM fR 1 (nI c) pe dl os ga na' aa' co ov' mx fl' tx rs cs pr rm' sY dY bY nY lY → wY_tick_7 post tM pN pK (nI c) (nI n) sT tM fR (d + 1) (nI i) pe dl os ga na aa co ov mx fl tx rs cs pr rm sY dY bY nY lY) := by
  intro d
  induction d with
  | zero =>
    intro i na fl aa ov rm hi hz
    have e : i = c := by omega
    subst e
    exact ⟨na, fl, aa, ov, rm, hz, fun post h => h, fun post h => h⟩
  | succ d ih =>
    intro i na fl aa ov rm hi hz
    have k : vp_in (nI i) 8 := vp_in_nI (by omega) (by omega)
    have g : ¬ nI c ≤ nI i := nI_ge (by omega) (by omega)
    have cl : (nI i).toNatClampNeg = i := nI_clamp (by omega)
    by_cases e : na i = tM
    · by_cases f : fl i = 0
      · obtain ⟨m, hm, em⟩ : ∃ m, m < n ∧ hd i = nI m := by
          rcases sn_F_some tx (nI i) n 0 with ⟨a, _⟩ | ⟨m, _, hm, a, _, _⟩
          · exact absurd (by rw [hh i (by omega), a]) (hcm i (by omega))
          · exact ⟨m, by omega, by rw [hh i (by omega), a]⟩
        have km : vp_in (nI m) 16 := vp_in_nI (by omega) (by omega)
        obtain ⟨na', fl', aa', ov', rm', hz', hX, hY⟩ := ih (i + 1) (upd na i (tM + pe i + ga i)) (upd fl i 1) (upd aa i tM) ov (upd rm m (cs m)) (by omega) (ti_upz hm hz)
        refine ⟨na', fl', aa', ov', rm', hz', fun post h => br_f g ⟨k, br_t (by rw [cl]; exact e) ?_⟩, fun post h => br_f g ⟨k, br_t (by rw [cl]; exact e) ⟨k, br_t (by rw [cl]; exact f) ⟨k, nm_r (ti_bt (by omega)) ⟨k, nm_r (cf_up (by omega)) ?_⟩⟩⟩⟩⟩
        · exact ti_xa1 (by omega) (by omega) f em (nm_r (nI_1 i) (hX post h))
        · refine sm_yh hn ?_
          rw [← hh i (by omega), em]
          exact br_f (bs_ne (by omega)) ⟨km, km, nm_r (by rw [nI_clamp (by omega)]) ⟨k, k, k, nm_r (by rw [cl]) (nm_r (nI_1 i) (hY post h))⟩⟩
      · obtain ⟨na', fl', aa', ov', rm', hz', hX, hY⟩ := ih (i + 1) (upd na i (tM + pe i + ga i)) fl aa (upd ov i (ov i + 1)) rm (by omega) hz
        refine ⟨na', fl', aa', ov', rm', hz', fun post h => br_f g ⟨k, br_t (by rw [cl]; exact e) ?_⟩, fun post h => br_f g ⟨k, br_t (by rw [cl]; exact e) ⟨k, br_f (by rw [cl]; exact f) ⟨k, k, nm_r (by rw [cl]) ⟨k, k, k, nm_r (by rw [cl]) (nm_r (nI_1 i) (hY post h))⟩⟩⟩⟩⟩
        exact ti_xa2 (by omega) f (nm_r (nI_1 i) (hX post h))
    · obtain ⟨na', fl', aa', ov', rm', hz', hX, hY⟩ := ih (i + 1) na fl aa ov rm (by omega) hz
      exact ⟨na', fl', aa', ov', rm', hz', fun post h => br_f g ⟨k, br_f (by rw [cl]; exact e) (nm_r (nI_1 i) (hX post h))⟩, fun post h => br_f g ⟨k, br_f (by rw [cl]; exact e) (nm_r (nI_1 i) (hY post h))⟩⟩
end
end
section
/-! execution and completions, both sides in lockstep -/
section
variable {pN pK sT tM fR tC sC : Int32} {c n p kk : Nat} {pe dl hd tl os ga tx rs cs pr pd nx bX na fl aa co ov mx rm sX lX sY dY bY nY lY : Nat → Int32}
theorem ti_y117 {post : SY → Prop} {x1 : Int32} : ∀ d i, i + d = 16 → (∃ m, wY_tick_138 post x1 pN pK tC sC sT tM fR m 0 pe dl os ga na aa co ov mx fl tx rs cs pr rm sY (bs_mz dY (fun _ => 0) 16) bY nY lY) → wY_tick_117 post x1 pN pK tC sC sT tM fR (d + 1) (nI i) pe dl os ga na aa co ov mx fl tx rs cs pr rm sY (bs_mz dY (fun _ => 0) i) bY nY lY := by
  intro d
  induction d with
  | zero =>
    intro i hi hp
    have e : i = 16 := by omega
    subst e
    exact br_t (nI_le (a := 16) (b := 16) (by omega) (by omega)) hp
  | succ d ih =>
    intro i hi hp
    exact br_f (nI_ge (a := i) (b := 16) (by omega) (by omega)) ⟨vp_in_nI (by omega) (by omega), nm_r (rs_sb (by omega)) (nm_r (nI_1 i) (ih (i + 1) (by omega) hp))⟩
theorem ti_xw0 {post : SX → Prop} {r : Nat} (hr : r < 9) (hp : post (pN, pK, tC, sC, sT, tM, fR, pe, dl, hd, tl, os, ga, tx, rs, cs, pr, pd, nx, bX, na, fl, aa, co, ov, mx, rm, sX, upd lX r (-1))) : wpX_work post (pN, pK, tC, sC, sT, tM, fR, pe, dl, hd, tl, os, ga, tx, rs, cs, pr, pd, nx, bX, na, fl, aa, co, ov, mx, rm, sX, lX) (nI r) (-1) := ⟨vp_in_nI hr (by omega), nm_r (cf_up (by omega)) (br_t rfl hp)⟩
theorem ti_xw1 {post : SX → Prop} {r j : Nat} (hr : r < 9) (hj : j < 16) (hp : post (pN, pK, tC, sC, sT, tM, fR, pe, dl, hd, tl, os, ga, tx, rs, cs, pr, pd, nx, bX, na, fl, aa, co, ov, mx, upd rm j (rm j - 1), sX, upd lX r (nI j))) : wpX_work post (pN, pK, tC, sC, sT, tM, fR, pe, dl, hd, tl, os, ga, tx, rs, cs, pr, pd, nx, bX, na, fl, aa, co, ov, mx, rm, sX, lX) (nI r) (nI j) := by
  have k : vp_in (nI j) 16 := vp_in_nI (by omega) (by omega)
  exact ⟨vp_in_nI hr (by omega), nm_r (cf_up (by omega)) (br_f (bs_ne (by omega)) ⟨k, k, nm_r (by rw [nI_clamp (by omega)]) hp⟩)⟩
/-- who worked so far: the reference's marks and the last runners say the same -/
def ti_W (n i : Nat) (rs dY lX : Nat → Int32) : Prop := ∀ s, s < n → (¬ dY s = 0 ↔ ∃ q, q < i ∧ rs s = nI q ∧ lX q = nI s)
theorem ti_W0 {i : Nat} (hi : i < 4) (hn : n ≤ 16) (h : ti_W n i rs dY lX) (hno : ∀ s, s < n → rs s = nI i → dY s = 0) : ti_W n (i + 1) rs dY (upd lX i (-1)) := by
  intro s hs
  rw [h s hs]
  constructor
  · rintro ⟨q, hq, e1, e2⟩
    exact ⟨q, by omega, e1, by rw [pk_un (by omega)]; exact e2⟩
  · rintro ⟨q, hq, e1, e2⟩
    by_cases z : q = i
    · rw [z, pk_us] at e2
      exact absurd e2.symm (bs_ne (by omega))
    · rw [pk_un z] at e2
      exact ⟨q, by omega, e1, e2⟩
theorem ti_W1 {i j : Nat} (hi : i < 4) (hn : n ≤ 16) (hj : j < n) (hr : rs j = nI i) (h : ti_W n i rs dY lX) : ti_W n (i + 1) rs (upd dY j 1) (upd lX i (nI j)) := by
  intro s hs
  by_cases e : s = j
  · subst e
    rw [pk_us]
    exact ⟨fun _ => ⟨i, by omega, hr, pk_us⟩, fun _ => by decide⟩
  · rw [pk_un e, h s hs]
    constructor
    · rintro ⟨q, hq, e1, e2⟩
      exact ⟨q, by omega, e1, by rw [pk_un (by omega)]; exact e2⟩
    · rintro ⟨q, hq, e1, e2⟩
      by_cases z : q = i
      · rw [z, pk_us] at e2
        exact absurd ((nI_eq (by omega) (by omega)).mp e2).symm e
      · rw [pk_un z] at e2
        exact ⟨q, by omega, e1, e2⟩
theorem ti_Wn {i : Nat} (hi : i < 4) (h : ti_W n i rs dY lX) : ∀ s, s < n → rs s = nI i → dY s = 0 := by
  intro s hs e
  by_cases z : dY s = 0
  · exact z
  · obtain ⟨q, hq, e1, _⟩ := (h s hs).mp z
    rw [e] at e1
    have := (nI_eq (a := i) (b := q) (by omega) (by omega)).mp e1
    omega
theorem ti_exe (hp4 : p ≤ 4) (hn : n ≤ 16) : ∀ (d i : Nat) (rm dY lX lY : Nat → Int32), i + d = p → (∀ s, n ≤ s → rm s = 0) → (∀ q, q < 4 → lY q = lX q) → ti_W n i rs dY lX →
    ∃ rm' dY' lX' lY' : Nat → Int32, (∀ s, n ≤ s → rm' s = 0) ∧ (∀ q, q < 4 → lY' q = lX' q) ∧ ti_W n p rs dY' lX' ∧
      (∀ post : SX → Prop, wX_execute_2 post 1 (nI p) (nI p) pK tC (nI n) sT tM fR pe dl hd tl os ga tx rs cs pr pd nx bX na fl aa co ov mx rm' sX lX' → wX_execute_2 post (d + 1) (nI i) (nI p) pK tC (nI n) sT tM fR pe dl hd tl os ga tx rs cs pr pd nx bX na fl aa co ov mx rm sX lX) ∧
      (∀ (post : SY → Prop) (x1 : Int32), wY_tick_138 post x1 (nI p) pK tC (nI n) sT tM fR 1 (nI p) pe dl os ga na aa co ov mx fl tx rs cs pr rm' sY dY' bY nY lY' → wY_tick_138 post x1 (nI p) pK tC (nI n) sT tM fR (d + 1) (nI i) pe dl os ga na aa co ov mx fl tx rs cs pr rm sY dY bY nY lY) := by
  intro d
  induction d with
  | zero =>
    intro i rm dY lX lY hi hz hl hw
    have e : i = p := by omega
    subst e
    exact ⟨rm, dY, lX, lY, hz, hl, hw, fun post h => h, fun post x1 h => h⟩
  | succ d ih =>
    intro i rm dY lX lY hi hz hl hw
    have g : ¬ nI p ≤ nI i := nI_ge (by omega) (by omega)
    have k5 : vp_in (nI i) 5 := vp_in_nI (by omega) (by omega)
    rcases sn_mu_some rs pr rm (nI i) n with b | ⟨j, hj, b, hr⟩
    · obtain ⟨rm', dY', lX', lY', hz', hl', hw', hX, hY⟩ := ih (i + 1) rm dY (upd lX i (-1)) (upd lY i (-1)) (by omega) hz (fun q hq => by
        by_cases e : q = i
        · rw [e, pk_us, pk_us]
        · rw [pk_un e, pk_un e]; exact hl q hq) (ti_W0 (by omega) hn hw (ti_Wn (by omega) hw))
      refine ⟨rm', dY', lX', lY', hz', hl', hw', fun post h => br_f g (ti_xm hn ?_), fun post x1 h => br_f g ⟨n + 1, ti_y151 hn n 0 (by omega) ?_⟩⟩
      · rw [b]
        exact ti_xw0 (by omega) (nm_r (nI_1 i) (hX post h))
      · rw [b]
        exact br_t (nI_le (by omega) (by omega)) (br_t rfl ⟨k5, nm_r (cf_up (by omega)) (nm_r (nI_1 i) (hY post x1 h))⟩)
    · have kj : vp_in (nI j) 16 := vp_in_nI (by omega) (by omega)
      obtain ⟨rm', dY', lX', lY', hz', hl', hw', hX, hY⟩ := ih (i + 1) (upd rm j (rm j - 1)) (upd dY j 1) (upd lX i (nI j)) (upd lY i (nI j)) (by omega) (ti_upz hj hz) (fun q hq => by
        by_cases e : q = i
        · rw [e, pk_us, pk_us]
        · rw [pk_un e, pk_un e]; exact hl q hq) (ti_W1 (by omega) hn hj hr hw)
      refine ⟨rm', dY', lX', lY', hz', hl', hw', fun post h => br_f g (ti_xm hn ?_), fun post x1 h => br_f g ⟨n + 1, ti_y151 hn n 0 (by omega) ?_⟩⟩
      · rw [b]
        exact ti_xw1 (by omega) (by omega) (nm_r (nI_1 i) (hX post h))
      · rw [b]
        exact br_t (nI_le (by omega) (by omega)) (br_f (bs_ne (by omega)) ⟨kj, kj, nm_r (by rw [nI_clamp (by omega)]) ⟨kj, nm_r (ti_bt (by omega)) ⟨k5, nm_r (cf_up (by omega)) (nm_r (nI_1 i) (hY post x1 h))⟩⟩⟩)
/-- the bus: the frame after it was chosen, -1 or a step of the bus -/
theorem ti_busx {post : SX → Prop} {f : Int32} (hf : (f = -1 ∧ post (pN, pK, tC, sC, sT, tM, f, pe, dl, hd, tl, os, ga, tx, rs, cs, pr, pd, nx, bX, na, fl, aa, co, ov, mx, rm, sX, upd lX 8 f)) ∨ ∃ j, j < 16 ∧ f = nI j ∧ post (pN, pK, tC, sC, sT, tM, f, pe, dl, hd, tl, os, ga, tx, rs, cs, pr, pd, nx, bX, na, fl, aa, co, ov, mx, upd rm j (rm j - 1), sX, upd lX 8 f)) : wX_execute_46 post pN pK tC sC sT tM f pe dl hd tl os ga tx rs cs pr pd nx bX na fl aa co ov mx rm sX lX := by
  unfold wX_execute_46
  rcases hf with ⟨rfl, h⟩ | ⟨j, hj, rfl, h⟩
  · exact ti_xw0 (r := 8) (by omega) h
  · exact ti_xw1 (r := 8) (by omega) hj h
theorem ti_busy {post : SY → Prop} {x1 f : Int32} (hf : (f = -1 ∧ ∃ m, wY_tick_379 post x1 (x1 + 1) pN pK tC sC sT tM m 0 f pe dl os ga na aa co ov mx fl tx rs cs pr rm sY dY bY nY (upd lY 4 f)) ∨ ∃ j, j < 16 ∧ f = nI j ∧ ∃ m, wY_tick_379 post x1 (x1 + 1) pN pK tC sC sT tM m 0 f pe dl os ga na aa co ov mx fl tx rs cs pr (upd rm j (rm j - 1)) sY (upd dY j 1) bY nY (upd lY 4 f)) : wY_tick_325 post x1 pN pK tC sC sT tM f pe dl os ga na aa co ov mx fl tx rs cs pr rm sY dY bY nY lY := by
  rcases hf with ⟨rfl, h⟩ | ⟨j, hj, rfl, h⟩
  · exact br_t rfl (nm_e (nm_e h))
  · have kj : vp_in (nI j) 16 := vp_in_nI (by omega) (by omega)
    exact br_f (bs_ne (by omega)) ⟨kj, kj, nm_r (by rw [nI_clamp (by omega)]) ⟨kj, nm_r (ti_bt (by omega)) (nm_e (nm_e h))⟩⟩
/-- behind the execution: who worked -/
def ti_V (n : Nat) (rs dY lX : Nat → Int32) : Prop := ∀ s, s < n → (¬ dY s = 0 ↔ lX (rs s).toNatClampNeg = nI s)
theorem ti_8 : (8 : Int32).toNatClampNeg = 8 := by decide
theorem ti_V0 (hp4 : p ≤ 4) (hn : n ≤ 16) (hr : ∀ s, s < n → rs s = 8 ∨ ∃ q, q < p ∧ rs s = nI q) (hw : ti_W n p rs dY lX) : ti_V n rs dY (upd lX 8 (-1)) := by
  intro s hs
  rw [hw s hs]
  rcases hr s hs with e | ⟨q, hq, e⟩
  · rw [e, ti_8, pk_us]
    constructor
    · rintro ⟨q, hq, e1, _⟩
      have := (nI_eq (a := 8) (b := q) (by omega) (by omega)).mp e1
      omega
    · intro z
      exact absurd z.symm (bs_ne (by omega))
  · rw [e, nI_clamp (by omega), pk_un (by omega)]
    constructor
    · rintro ⟨q', hq', e1, e2⟩
      have := (nI_eq (a := q) (b := q') (by omega) (by omega)).mp e1
      rw [this]; exact e2
    · intro z
      exact ⟨q, hq, rfl, z⟩
theorem ti_V1 (hp4 : p ≤ 4) (hn : n ≤ 16) {j : Nat} (hj : j < n) (hj8 : rs j = 8) (hr : ∀ s, s < n → rs s = 8 ∨ ∃ q, q < p ∧ rs s = nI q) (hw : ti_W n p rs dY lX) : ti_V n rs (upd dY j 1) (upd lX 8 (nI j)) := by
  intro s hs
  by_cases z : s = j
  · subst z
    rw [pk_us, hj8, ti_8, pk_us]
    exact ⟨fun _ => rfl, fun _ => by decide⟩
  · rw [pk_un z, hw s hs]
    rcases hr s hs with e | ⟨q, hq, e⟩
    · rw [e, ti_8, pk_us]
      constructor
      · rintro ⟨q, hq, e1, _⟩
        have := (nI_eq (a := 8) (b := q) (by omega) (by omega)).mp e1
        omega
      · intro w
        exact absurd ((nI_eq (by omega) (by omega)).mp w).symm z
    · rw [e, nI_clamp (by omega), pk_un (by omega)]
      constructor
      · rintro ⟨q', hq', e1, e2⟩
        have := (nI_eq (a := q) (b := q') (by omega) (by omega)).mp e1
        rw [this]; exact e2
      · intro w
        exact ⟨q, hq, rfl, w⟩
theorem ti_bus (hp1 : p ≤ 4) (hn : n ≤ 16) (hr : ∀ s, s < n → rs s = 8 ∨ ∃ q, q < p ∧ rs s = nI q) (hz : ∀ s, n ≤ s → rm s = 0) (hl : ∀ q, q < 4 → lY q = lX q) (hw : ti_W n p rs dY lX) (hfr : fR = -1 ∨ ∃ f, f < n ∧ fR = nI f ∧ rs f = 8) :
    ∃ (fR' : Int32) (rm' dY' lX' lY' : Nat → Int32), (∀ s, n ≤ s → rm' s = 0) ∧ (fR' = -1 ∨ ∃ f, f < n ∧ fR' = nI f ∧ rs f = 8) ∧ ((∀ q, q < 4 → lY' q = lX' q) ∧ lY' 4 = lX' 8) ∧ ti_V n rs dY' lX' ∧
      (∀ post : SX → Prop, post (nI p, pK, tC, nI n, sT, tM, fR', pe, dl, hd, tl, os, ga, tx, rs, cs, pr, pd, nx, bX, na, fl, aa, co, ov, mx, rm', sX, lX') → wX_execute_2 post 1 (nI p) (nI p) pK tC (nI n) sT tM fR pe dl hd tl os ga tx rs cs pr pd nx bX na fl aa co ov mx rm sX lX) ∧
      (∀ (post : SY → Prop) (x1 : Int32), (∃ m, wY_tick_379 post x1 (x1 + 1) (nI p) pK tC (nI n) sT tM m 0 fR' pe dl os ga na aa co ov mx fl tx rs cs pr rm' sY dY' bY nY lY') → wY_tick_138 post x1 (nI p) pK tC (nI n) sT tM fR 1 (nI p) pe dl os ga na aa co ov mx fl tx rs cs pr rm sY dY bY nY lY) := by
  have g : nI p ≤ nI p := nI_le (by omega) (by omega)
  have hq : ∀ v, (∀ q, q < 4 → upd lY 4 v q = upd lX 8 v q) ∧ upd lY 4 v 4 = upd lX 8 v 8 := fun v => ⟨fun q hq => by rw [pk_un (by omega), pk_un (by omega)]; exact hl q hq, by rw [pk_us, pk_us]⟩
  rcases hfr with rfl | ⟨f, hf, rfl, hf8⟩
  · rcases sn_mu_some rs pr rm 8 n with b | ⟨j, hj, b, hj8⟩
    · refine ⟨-1, rm, dY, upd lX 8 (-1), upd lY 4 (-1), hz, Or.inl rfl, hq _, ti_V0 hp1 hn hr hw, fun post h => br_t g (br_t rfl (ti_xm hn ?_)), fun post x1 h => br_t g (br_t rfl ⟨n + 1, ti_y260 hn n 0 (by omega) (br_t (nI_le (by omega) (by omega)) ?_)⟩)⟩
      · rw [b]; exact ti_busx (Or.inl ⟨rfl, h⟩)
      · rw [b]; exact ti_busy (Or.inl ⟨rfl, h⟩)
    · refine ⟨nI j, upd rm j (rm j - 1), upd dY j 1, upd lX 8 (nI j), upd lY 4 (nI j), ti_upz hj hz, Or.inr ⟨j, hj, rfl, hj8⟩, hq _, ti_V1 hp1 hn hj hj8 hr hw, fun post h => br_t g (br_t rfl (ti_xm hn ?_)), fun post x1 h => br_t g (br_t rfl ⟨n + 1, ti_y260 hn n 0 (by omega) (br_t (nI_le (by omega) (by omega)) ?_)⟩)⟩
      · rw [b]; exact ti_busx (Or.inr ⟨j, by omega, rfl, h⟩)
      · rw [b]; exact ti_busy (Or.inr ⟨j, by omega, rfl, h⟩)
  · have nf : ¬ nI f = -1 := bs_ne (by omega)
    exact ⟨nI f, upd rm f (rm f - 1), upd dY f 1, upd lX 8 (nI f), upd lY 4 (nI f), ti_upz hf hz, Or.inr ⟨f, hf, rfl, hf8⟩, hq _, ti_V1 hp1 hn hf hf8 hr hw, fun post h => br_t g (br_f nf (ti_busx (Or.inr ⟨f, by omega, rfl, h⟩))), fun post x1 h => br_t g (br_f nf (ti_busy (Or.inr ⟨f, by omega, rfl, h⟩)))⟩
/-! completions -/
def ti_fr (i : Nat) (fR : Int32) : Int32 := if nI i = fR then -1 else fR
theorem ti_xc50t {post : SX → Prop} {i y : Nat} {x3 : Int32} (hi : i < 16) (hy : y < 8) (e : nx i = -1) (hp : post (pN, pK, tC, sC, sT, tM, fR, pe, dl, hd, tl, os, ga, tx, rs, cs, pr, pd, nx, bX, na, upd fl y 0, aa, upd co y (co y + 1), ov, upd mx y (ti_gr (mx y) x3), rm, sX, lX)) : wX_complete_50 post (nI i) (nI y) x3 pN pK tC sC sT tM fR pe dl hd tl os ga tx rs cs pr pd nx bX na fl aa co ov mx rm sX lX := by
  have k : vp_in (nI y) 8 := vp_in_nI (by omega) (by omega)
  refine ⟨vp_in_nI (by omega) (by omega), br_t (by rw [nI_clamp (by omega)]; exact e) ⟨k, nm_r (ti_bf (by omega)) ⟨k, k, nm_r (by rw [nI_clamp (by omega)]) ⟨k, ti_gx ⟨k, nm_r (by rw [nI_clamp (by omega)]) hp⟩⟩⟩⟩⟩
theorem ti_xc50n {post : SX → Prop} {i m : Nat} {x2 x3 : Int32} (hi : i < 16) (hm : m < 16) (e : nx i = nI m) (hp : post (pN, pK, tC, sC, sT, tM, fR, pe, dl, hd, tl, os, ga, tx, rs, cs, pr, pd, nx, bX, na, fl, aa, co, ov, mx, upd rm m (cs m), sX, lX)) : wX_complete_50 post (nI i) x2 x3 pN pK tC sC sT tM fR pe dl hd tl os ga tx rs cs pr pd nx bX na fl aa co ov mx rm sX lX := by
  have k : vp_in (nI m) 16 := vp_in_nI (by omega) (by omega)
  have ki : vp_in (nI i) 16 := vp_in_nI (by omega) (by omega)
  refine ⟨ki, br_f (by rw [nI_clamp (by omega), e]; exact bs_ne (by omega)) ⟨ki, ?_⟩⟩
  rw [nI_clamp (by omega), e]
  exact ⟨k, k, nm_r (by rw [nI_clamp (by omega)]) hp⟩
theorem ti_xc {post : SX → Prop} {i y : Nat} (hi : i < 16) (hy : y < 8) (et : tx i = nI y) (hp : wX_complete_50 post (nI i) (nI y) (tM + 1 - aa y) pN pK tC sC sT tM (ti_fr i fR) pe dl hd tl os ga tx rs cs pr pd nx bX na fl aa co ov mx rm (upd sX i (ti_gr (sX i) (tM + 1 - aa y))) lX) : wpX_complete post (pN, pK, tC, sC, sT, tM, fR, pe, dl, hd, tl, os, ga, tx, rs, cs, pr, pd, nx, bX, na, fl, aa, co, ov, mx, rm, sX, lX) (nI i) := by
  have ki : vp_in (nI i) 16 := vp_in_nI (by omega) (by omega)
  refine ⟨ki, nm_r (by rw [nI_clamp (by omega), et]) ⟨vp_in_nI (by omega) (by omega), nm_r (by rw [nI_clamp (by omega)]) ⟨ki, ti_gx ⟨ki, nm_r (by rw [nI_clamp (by omega)]) ?_⟩⟩⟩⟩
  unfold ti_fr at hp
  by_cases e : nI i = fR
  · rw [if_pos e] at hp
    exact br_t e hp
  · rw [if_neg e] at hp
    exact br_f e hp
theorem ti_yt {post : SY → Prop} {x1 x2 : Int32} {i y d : Nat} (hn : n ≤ 16) (hi : i < n) (hy : y < 8) (hd' : ¬ dY i = 0) (hr : rm i = 0) (et : tx i = nI y) (e : sn_F tx (tx i) (n - (i + 1)) (i + 1) = -1)
    (hp : wY_tick_379 post x1 x2 pN pK tC (nI n) sT tM d (nI (i + 1)) (ti_fr i fR) pe dl os ga na aa (upd co y (co y + 1)) ov (upd mx y (ti_gr (mx y) (x2 - aa y))) (upd fl y 0) tx rs cs pr rm (upd sY i (ti_gr (sY i) (x2 - aa y))) dY bY nY lY) : wY_tick_379 post x1 x2 pN pK tC (nI n) sT tM (d + 1) (nI i) fR pe dl os ga na aa co ov mx fl tx rs cs pr rm sY dY bY nY lY := by
  have ki : vp_in (nI i) 16 := vp_in_nI (by omega) (by omega)
  have k : vp_in (nI y) 8 := vp_in_nI (by omega) (by omega)
  have cl : (nI i).toNatClampNeg = i := nI_clamp (by omega)
  have tl456 : ∀ (fR : Int32) (sY : Nat → Int32), wY_tick_379 post x1 x2 pN pK tC (nI n) sT tM d (nI (i + 1)) fR pe dl os ga na aa (upd co y (co y + 1)) ov (upd mx y (ti_gr (mx y) (x2 - aa y))) (upd fl y 0) tx rs cs pr rm sY dY bY nY lY → wY_tick_456 post (wY_tick_379 post x1 x2 pN pK tC (nI n) sT tM d) x1 x2 (nI i) (nI y) (x2 - aa y) pN pK tC (nI n) sT tM fR pe dl os ga na aa co ov mx fl tx rs cs pr rm sY dY bY nY lY := by
    intro fR sY h
    unfold wY_tick_456
    refine sm_yn hi hn ?_
    rw [e]
    refine br_t rfl ⟨k, nm_r (ti_bf (by omega)) ⟨k, k, nm_r (by rw [nI_clamp (by omega)]) ⟨k, ?_⟩⟩⟩
    rw [nI_clamp (by omega)]
    by_cases z : x2 - aa y ≤ mx y
    · rw [ti_gr1 z, bs_upd_self] at h
      exact br_t z (nm_r (nI_1 i) h)
    · rw [ti_gr2 z] at h
      exact br_f z ⟨k, nm_r rfl (nm_r (nI_1 i) h)⟩
  have t443 : ∀ (sY : Nat → Int32), wY_tick_379 post x1 x2 pN pK tC (nI n) sT tM d (nI (i + 1)) (ti_fr i fR) pe dl os ga na aa (upd co y (co y + 1)) ov (upd mx y (ti_gr (mx y) (x2 - aa y))) (upd fl y 0) tx rs cs pr rm sY dY bY nY lY → wY_tick_443 post (wY_tick_379 post x1 x2 pN pK tC (nI n) sT tM d) x1 x2 (nI i) (nI y) (x2 - aa y) pN pK tC (nI n) sT tM fR pe dl os ga na aa co ov mx fl tx rs cs pr rm sY dY bY nY lY := by
    intro sY h
    unfold ti_fr at h
    by_cases z : nI i = fR
    · rw [if_pos z] at h
      exact br_t z (tl456 (-1) sY h)
    · rw [if_neg z] at h
      exact br_f z (tl456 fR sY h)
  refine br_f (nI_ge (by omega) (by omega)) ⟨ki, br_f (by rw [cl]; exact hd') ⟨ki, br_t (by rw [cl]; exact hr) ⟨ki, nm_r (by rw [cl, et]) ⟨k, nm_r (by rw [nI_clamp (by omega)]) ⟨ki, ?_⟩⟩⟩⟩⟩
  rw [cl]
  by_cases z : x2 - aa y ≤ sY i
  · rw [ti_gr1 z, bs_upd_self] at hp
    exact br_t z (t443 sY hp)
  · rw [ti_gr2 z] at hp
    exact br_f z ⟨ki, nm_r rfl (t443 _ hp)⟩
theorem ti_yn {post : SY → Prop} {x1 x2 : Int32} {i y m d : Nat} (hn : n ≤ 16) (hi : i < n) (hy : y < 8) (hm : m < 16) (hd' : ¬ dY i = 0) (hr : rm i = 0) (et : tx i = nI y) (e : sn_F tx (tx i) (n - (i + 1)) (i + 1) = nI m)
    (hp : wY_tick_379 post x1 x2 pN pK tC (nI n) sT tM d (nI (i + 1)) (ti_fr i fR) pe dl os ga na aa co ov mx fl tx rs cs pr (upd rm m (cs m)) (upd sY i (ti_gr (sY i) (x2 - aa y))) dY bY nY lY) : wY_tick_379 post x1 x2 pN pK tC (nI n) sT tM (d + 1) (nI i) fR pe dl os ga na aa co ov mx fl tx rs cs pr rm sY dY bY nY lY := by
  have ki : vp_in (nI i) 16 := vp_in_nI (by omega) (by omega)
  have km : vp_in (nI m) 16 := vp_in_nI (by omega) (by omega)
  have k : vp_in (nI y) 8 := vp_in_nI (by omega) (by omega)
  have cl : (nI i).toNatClampNeg = i := nI_clamp (by omega)
  have tl456 : ∀ (fR : Int32) (sY : Nat → Int32), wY_tick_379 post x1 x2 pN pK tC (nI n) sT tM d (nI (i + 1)) fR pe dl os ga na aa co ov mx fl tx rs cs pr (upd rm m (cs m)) sY dY bY nY lY → wY_tick_456 post (wY_tick_379 post x1 x2 pN pK tC (nI n) sT tM d) x1 x2 (nI i) (nI y) (x2 - aa y) pN pK tC (nI n) sT tM fR pe dl os ga na aa co ov mx fl tx rs cs pr rm sY dY bY nY lY := by
    intro fR sY h
    unfold wY_tick_456
    refine sm_yn hi hn ?_
    rw [e]
    exact br_f (bs_ne (by omega)) ⟨km, km, nm_r (by rw [nI_clamp (by omega)]) (nm_r (nI_1 i) h)⟩
  have t443 : ∀ (sY : Nat → Int32), wY_tick_379 post x1 x2 pN pK tC (nI n) sT tM d (nI (i + 1)) (ti_fr i fR) pe dl os ga na aa co ov mx fl tx rs cs pr (upd rm m (cs m)) sY dY bY nY lY → wY_tick_443 post (wY_tick_379 post x1 x2 pN pK tC (nI n) sT tM d) x1 x2 (nI i) (nI y) (x2 - aa y) pN pK tC (nI n) sT tM fR pe dl os ga na aa co ov mx fl tx rs cs pr rm sY dY bY nY lY := by
    intro sY h
    unfold ti_fr at h
    by_cases z : nI i = fR
    · rw [if_pos z] at h
      exact br_t z (tl456 (-1) sY h)
    · rw [if_neg z] at h
      exact br_f z (tl456 fR sY h)
  refine br_f (nI_ge (by omega) (by omega)) ⟨ki, br_f (by rw [cl]; exact hd') ⟨ki, br_t (by rw [cl]; exact hr) ⟨ki, nm_r (by rw [cl, et]) ⟨k, nm_r (by rw [nI_clamp (by omega)]) ⟨ki, ?_⟩⟩⟩⟩⟩
  rw [cl]
  by_cases z : x2 - aa y ≤ sY i
  · rw [ti_gr1 z, bs_upd_self] at hp
    exact br_t z (t443 sY hp)
  · rw [ti_gr2 z] at hp
    exact br_f z ⟨ki, nm_r rfl (t443 _ hp)⟩
theorem ti_frok {i : Nat} (h : fR = -1 ∨ ∃ f, f < n ∧ fR = nI f ∧ rs f = 8) : ti_fr i fR = -1 ∨ ∃ f, f < n ∧ ti_fr i fR = nI f ∧ rs f = 8 := by
  unfold ti_fr
  by_cases e : nI i = fR
  · rw [if_pos e]; exact Or.inl rfl
  · rw [if_neg e]; exact h
theorem ti_sv {i : Nat} {v : Int32} (h : ∀ s, s < n → sY s = sX s) : ∀ s, s < n → upd sY i v s = upd sX i v s := fun s hs => by
  by_cases e : s = i
  · rw [e, pk_us, pk_us]
  · rw [pk_un e, pk_un e]; exact h s hs
theorem ti_cmp (hc : c ≤ 8) (hn : n ≤ 16) (hp4 : p ≤ 4) (ht : ∀ s, s < n → ∃ y, y < c ∧ tx s = nI y) (hr : ∀ s, s < n → rs s = 8 ∨ ∃ q, q < p ∧ rs s = nI q) (hnx : ∀ s, s < n → nx s = sn_F tx (tx s) (n - (s + 1)) (s + 1)) (hv : ti_V n rs dY lX) :
    ∀ (d i : Nat) (fR : Int32) (fl co mx rm sX sY : Nat → Int32), i + d = n → (∀ s, n ≤ s → rm s = 0) → (fR = -1 ∨ ∃ f, f < n ∧ fR = nI f ∧ rs f = 8) → (∀ s, s < n → sY s = sX s) →
    ∃ (fR' : Int32) (fl' co' mx' rm' sX' sY' : Nat → Int32), (∀ s, n ≤ s → rm' s = 0) ∧ (fR' = -1 ∨ ∃ f, f < n ∧ fR' = nI f ∧ rs f = 8) ∧ (∀ s, s < n → sY' s = sX' s) ∧
      (∀ post : SX → Prop, post (pN, pK, tC, nI n, sT, tM, fR', pe, dl, hd, tl, os, ga, tx, rs, cs, pr, pd, nx, bX, na, fl', aa, co', ov, mx', rm', sX', lX) → wX_takeCompletions_2 post (d + 1) (nI i) pN pK tC (nI n) sT tM fR pe dl hd tl os ga tx rs cs pr pd nx bX na fl aa co ov mx rm sX lX) ∧
      (∀ post : SY → Prop, post (pN, pK, tC, nI n, sT, tM + 1, fR', pe, dl, os, ga, na, aa, co', ov, mx', fl', tx, rs, cs, pr, rm', sY', dY, bY, nY, lY) → wY_tick_379 post tM (tM + 1) pN pK tC (nI n) sT tM (d + 1) (nI i) fR pe dl os ga na aa co ov mx fl tx rs cs pr rm sY dY bY nY lY) := by
  intro d
  induction d with
  | zero =>
    intro i fR fl co mx rm sX sY hi hz hf hsv
    have e : i = n := by omega
    subst e
    exact ⟨fR, fl, co, mx, rm, sX, sY, hz, hf, hsv, fun post h => br_t (nI_le (by omega) (by omega)) h, fun post h => br_t (nI_le (by omega) (by omega)) (nm_e h)⟩
  | succ d ih =>
    intro i fR fl co mx rm sX sY hi hz hf hsv
    have g : ¬ nI n ≤ nI i := nI_ge (by omega) (by omega)
    have k : vp_in (nI i) 16 := vp_in_nI (by omega) (by omega)
    have cl : (nI i).toNatClampNeg = i := nI_clamp (by omega)
    have k9 : vp_in (rs i) 9 := by
      rcases hr i (by omega) with e | ⟨q, hq, e⟩
      · rw [e]; exact vp_in_nI (n := 8) (by omega) (by omega)
      · rw [e]; exact vp_in_nI (by omega) (by omega)
    by_cases w : dY i = 0
    · have nw : ¬ lX (rs i).toNatClampNeg = nI i := fun z => (hv i (by omega)).mpr z w
      obtain ⟨fR', fl', co', mx', rm', sX', sY', h1, h2, h3, hX, hY⟩ := ih (i + 1) fR fl co mx rm sX sY (by omega) hz hf hsv
      exact ⟨fR', fl', co', mx', rm', sX', sY', h1, h2, h3, fun post h => br_f g ⟨k, by rw [cl]; exact ⟨k9, br_f nw (nm_r (nI_1 i) (hX post h))⟩⟩, fun post h => br_f g ⟨k, br_t (by rw [cl]; exact w) (nm_r (nI_1 i) (hY post h))⟩⟩
    · have yw : lX (rs i).toNatClampNeg = nI i := (hv i (by omega)).mp w
      by_cases z : rm i = 0
      · obtain ⟨y, hy, et⟩ := ht i (by omega)
        have en := hnx i (by omega)
        rcases sn_F_some tx (tx i) (n - (i + 1)) (i + 1) with ⟨a, _⟩ | ⟨m, _, hm, a, _, _⟩
        · obtain ⟨fR', fl', co', mx', rm', sX', sY', h1, h2, h3, hX, hY⟩ := ih (i + 1) (ti_fr i fR) (upd fl y 0) (upd co y (co y + 1)) (upd mx y (ti_gr (mx y) (tM + 1 - aa y))) rm (upd sX i (ti_gr (sX i) (tM + 1 - aa y))) (upd sY i (ti_gr (sX i) (tM + 1 - aa y))) (by omega) hz (ti_frok hf) (ti_sv hsv)
          refine ⟨fR', fl', co', mx', rm', sX', sY', h1, h2, h3, fun post h => br_f g ⟨k, by rw [cl]; exact ⟨k9, br_t yw ⟨k, br_t z (ti_xc (by omega) (by omega) et (ti_xc50t (by omega) (by omega) (by rw [en, a]) (nm_r (nI_1 i) (hX post h))))⟩⟩⟩, fun post h => ti_yt hn (by omega) (by omega) w z et a ?_⟩
          rw [hsv i (by omega)]
          exact hY post h
        · obtain ⟨fR', fl', co', mx', rm', sX', sY', h1, h2, h3, hX, hY⟩ := ih (i + 1) (ti_fr i fR) fl co mx (upd rm m (cs m)) (upd sX i (ti_gr (sX i) (tM + 1 - aa y))) (upd sY i (ti_gr (sX i) (tM + 1 - aa y))) (by omega) (ti_upz (by omega) hz) (ti_frok hf) (ti_sv hsv)
          refine ⟨fR', fl', co', mx', rm', sX', sY', h1, h2, h3, fun post h => br_f g ⟨k, by rw [cl]; exact ⟨k9, br_t yw ⟨k, br_t z (ti_xc (by omega) (by omega) et (ti_xc50n (by omega) (by omega) (by rw [en, a]) (nm_r (nI_1 i) (hX post h))))⟩⟩⟩, fun post h => ti_yn hn (by omega) (by omega) (by omega) w z et a ?_⟩
          rw [hsv i (by omega)]
          exact hY post h
      · obtain ⟨fR', fl', co', mx', rm', sX', sY', h1, h2, h3, hX, hY⟩ := ih (i + 1) fR fl co mx rm sX sY (by omega) hz hf hsv
        exact ⟨fR', fl', co', mx', rm', sX', sY', h1, h2, h3, fun post h => br_f g ⟨k, by rw [cl]; exact ⟨k9, br_t yw ⟨k, br_f z (nm_r (nI_1 i) (hX post h))⟩⟩⟩, fun post h => br_f g ⟨k, br_f (by rw [cl]; exact w) ⟨k, br_f (by rw [cl]; exact z) (nm_r (nI_1 i) (hY post h))⟩⟩⟩
/-! the tick -/
theorem ti_tick (hs : c ≤ 8 ∧ n ≤ kk ∧ kk ≤ 16 ∧ 1 ≤ p ∧ p ≤ 4) (hf : rl_Cf c n p pe dl tx rs cs) (hch : sn_Ch tx hd tl pd nx c n) (hcm : ∀ x, x < c → ¬ hd x = -1) (hsi : rl_Si n fR rs rm sX lX sY lY) :
    ∃ (fR' : Int32) (na' fl' aa' co' ov' mx' rm' sX' lX' sY' dY' lY' : Nat → Int32), rl_Si n fR' rs rm' sX' lX' sY' lY' ∧
      (∀ post : SX → Prop, post (nI p, pK, nI c, nI n, sT, tM + 1, fR', pe, dl, hd, tl, os, ga, tx, rs, cs, pr, pd, nx, bX, na', fl', aa', co', ov', mx', rm', sX', lX') → wpX_tick post (nI p, pK, nI c, nI n, sT, tM, fR, pe, dl, hd, tl, os, ga, tx, rs, cs, pr, pd, nx, bX, na, fl, aa, co, ov, mx, rm, sX, lX)) ∧
      (∀ post : SY → Prop, post (nI p, pK, nI c, nI n, sT, tM + 1, fR', pe, dl, os, ga, na', aa', co', ov', mx', fl', tx, rs, cs, pr, rm', sY', dY', bY, nY, lY') → wpY_tick post (nI p, pK, nI c, nI n, sT, tM, fR, pe, dl, os, ga, na, aa, co, ov, mx, fl, tx, rs, cs, pr, rm, sY, dY, bY, nY, lY)) := by
  obtain ⟨z1, z2, z3, z4, z5⟩ := hsi
  obtain ⟨f1, f2, f3, f4, f5⟩ := hf
  obtain ⟨c1, c2, c3, c4⟩ := hch
  obtain ⟨na', fl', aa', ov', rm1, hz1, aX, aY⟩ := ti_arr (pN := nI p) (pK := pK) (sT := sT) (tM := tM) (fR := fR) (pe := pe) (dl := dl) (tl := tl) (os := os) (ga := ga) (rs := rs) (cs := cs) (pr := pr) (pd := pd) (nx := nx) (bX := bX) (co := co) (mx := mx) (sX := sX) (lX := lX) (sY := sY) (dY := dY) (bY := bY) (nY := nY) (lY := lY) hs.1 (by omega) c1 hcm c 0 na fl aa ov rm (by omega) z1
  obtain ⟨rm2, dY2, lX2, lY2, hz2, hl2, hw2, eX, eY⟩ := ti_exe (p := p) (pK := pK) (tC := nI c) (sT := sT) (tM := tM) (fR := fR) (pe := pe) (dl := dl) (hd := hd) (tl := tl) (os := os) (ga := ga) (tx := tx) (rs := rs) (cs := cs) (pr := pr) (pd := pd) (nx := nx) (bX := bX) (na := na') (fl := fl') (aa := aa') (co := co) (ov := ov') (mx := mx) (sX := sX) (sY := sY) (bY := bY) (nY := nY) hs.2.2.2.2 (by omega : n ≤ 16) p 0 rm1 (bs_mz dY (fun _ => 0) 16) lX lY (by omega) hz1 z4 (fun s hs' => by
    rw [bs_mz_lt (by omega)]
    exact ⟨fun h => absurd rfl h, fun ⟨q, hq, _⟩ => by omega⟩)
  obtain ⟨fR3, rm3, dY3, lX3, lY3, hz3, hf3, hl3, hv3, bX', bY'⟩ := ti_bus (p := p) (pK := pK) (tC := nI c) (sT := sT) (tM := tM) (pe := pe) (dl := dl) (hd := hd) (tl := tl) (os := os) (ga := ga) (tx := tx) (cs := cs) (pr := pr) (pd := pd) (nx := nx) (bX := bX) (na := na') (fl := fl') (aa := aa') (co := co) (ov := ov') (mx := mx) (sX := sX) (sY := sY) (bY := bY) (nY := nY) hs.2.2.2.2 (by omega : n ≤ 16) f2 hz2 hl2 hw2 z2
  obtain ⟨fR4, fl4, co4, mx4, rm4, sX4, sY4, hz4, hf4, hs4, cX, cY⟩ := ti_cmp (p := p) (pN := nI p) (pK := pK) (tC := nI c) (sT := sT) (tM := tM) (pe := pe) (dl := dl) (hd := hd) (tl := tl) (os := os) (ga := ga) (cs := cs) (pr := pr) (pd := pd) (bX := bX) (na := na') (aa := aa') (ov := ov') (bY := bY) (nY := nY) (lY := lY3) hs.1 (by omega : n ≤ 16) hs.2.2.2.2 f1 f2 c4 hv3 n 0 fR3 fl' co mx rm3 sX sY (by omega) hz3 hf3 z3
  refine ⟨fR4, na', fl4, aa', co4, ov', mx4, rm4, sX4, lX3, sY4, dY3, lY3, ⟨hz4, hf4, hs4, hl3.1, hl3.2⟩, fun post h => ?_, fun post h => ?_⟩
  · unfold wpX_tick
    refine ⟨c + 1, aX _ (br_t (nI_le (by omega) (by omega)) ?_)⟩
    refine ⟨p + 1, eX _ (bX' _ ?_)⟩
    exact ⟨n + 1, cX _ (nm_e h)⟩
  · unfold wpY_tick
    refine ⟨c + 1, aY _ (br_t (nI_le (by omega) (by omega)) ?_)⟩
    refine ⟨17, ?_⟩
    have y := ti_y117 (post := post) (pN := nI p) (pK := pK) (tC := nI c) (sC := nI n) (sT := sT) (tM := tM) (fR := fR) (x1 := tM) (dY := dY) (pe := pe) (dl := dl) (os := os) (ga := ga) (na := na') (aa := aa') (co := co) (ov := ov') (mx := mx) (fl := fl') (tx := tx) (rs := rs) (cs := cs) (pr := pr) (rm := rm1) (sY := sY) (bY := bY) (nY := nY) (lY := lY) 16 0 rfl ⟨p + 1, eY post tM (bY' post tM ⟨n + 1, cY post h⟩)⟩
    rw [bs_mz0] at y
    exact y
end
end
section
/-! run -/
section
variable {pN pK sT tM fR tC sC : Int32} {c n p kk : Nat} {pe dl hd tl os ga tx rs cs pr pd nx bX na fl aa co ov mx rm sX lX sY dY bY nY lY : Nat → Int32}
theorem ru_loop (hs : c ≤ 8 ∧ n ≤ kk ∧ kk ≤ 16 ∧ 1 ≤ p ∧ p ≤ 4) (hf : rl_Cf c n p pe dl tx rs cs) (hch : sn_Ch tx hd tl pd nx c n) (hcm : ∀ x, x < c → ¬ hd x = -1) {w : Nat} (hw : w ≤ 1000) :
    ∀ (d i : Nat) (tM fR : Int32) (na fl aa co ov mx rm sX lX sY dY lY : Nat → Int32), i + d = w → rl_Si n fR rs rm sX lX sY lY →
    ∃ (r tM' fR' : Int32) (na' fl' aa' co' ov' mx' rm' sX' lX' sY' dY' lY' : Nat → Int32), rl_Si n fR' rs rm' sX' lX' sY' lY' ∧
      (∀ post : Int32 → SX → Prop, post r (nI p, pK, nI c, nI n, sT, tM', fR', pe, dl, hd, tl, os, ga, tx, rs, cs, pr, pd, nx, bX, na', fl', aa', co', ov', mx', rm', sX', lX') → wX_run_21 post (nI w) (d + 1) (nI i) (nI p) pK (nI c) (nI n) sT tM fR pe dl hd tl os ga tx rs cs pr pd nx bX na fl aa co ov mx rm sX lX) ∧
      (∀ post : Int32 → SY → Prop, post r (nI p, pK, nI c, nI n, sT, tM', fR', pe, dl, os, ga, na', aa', co', ov', mx', fl', tx, rs, cs, pr, rm', sY', dY', bY, nY, lY') → wY_run_31 post (nI w) (d + 1) (nI i) (nI p) pK (nI c) (nI n) sT tM fR pe dl os ga na aa co ov mx fl tx rs cs pr rm sY dY bY nY lY) := by
  intro d
  induction d with
  | zero =>
    intro i tM fR na fl aa co ov mx rm sX lX sY dY lY hi hsi
    have e : i = w := by omega
    subst e
    have g : nI i ≤ nI i := nI_le (by omega) (by omega)
    exact ⟨nI i, tM, fR, na, fl, aa, co, ov, mx, rm, sX, lX, sY, dY, lY, hsi, fun post h => br_t g h, fun post h => br_t g h⟩
  | succ d ih =>
    intro i tM fR na fl aa co ov mx rm sX lX sY dY lY hi hsi
    have g : ¬ nI w ≤ nI i := nI_ge (by omega) (by omega)
    by_cases z : (100000 : Int32) ≤ tM
    · exact ⟨nI i, tM, fR, na, fl, aa, co, ov, mx, rm, sX, lX, sY, dY, lY, hsi, fun post h => br_f g (br_t z h), fun post h => br_f g (br_t z h)⟩
    · obtain ⟨fR1, na1, fl1, aa1, co1, ov1, mx1, rm1, sX1, lX1, sY1, dY1, lY1, hsi1, tX, tY⟩ := ti_tick (pK := pK) (sT := sT) (tM := tM) (na := na) (fl := fl) (aa := aa) (co := co) (ov := ov) (mx := mx) (os := os) (ga := ga) (pr := pr) (bX := bX) (dY := dY) (bY := bY) (nY := nY) hs hf hch hcm hsi
      obtain ⟨r, tM', fR', na', fl', aa', co', ov', mx', rm', sX', lX', sY', dY', lY', hsi', hX, hY⟩ := ih (i + 1) (tM + 1) fR1 na1 fl1 aa1 co1 ov1 mx1 rm1 sX1 lX1 sY1 dY1 lY1 (by omega) hsi1
      refine ⟨r, tM', fR', na', fl', aa', co', ov', mx', rm', sX', lX', sY', dY', lY', hsi', fun post h => br_f g (br_f z (tX _ ?_)), fun post h => br_f g (br_f z (tY _ ?_))⟩
      · exact nm_r (nI_1 i) (hX post h)
      · exact nm_r (nI_1 i) (hY post h)
theorem ru_cl (v : Int32) : ∃ w, w ≤ 1000 ∧ (∀ post : Int32 → Prop, post (nI w) → wpX_clamp post v 0 1000) ∧ (∀ post : Int32 → SY → Prop, (∃ m, wY_run_31 post (nI w) m 0 pN pK tC sC sT tM fR pe dl os ga na aa co ov mx fl tx rs cs pr rm sY dY bY nY lY) → (0 ≤ v → wY_run_18 post v pN pK tC sC sT tM fR pe dl os ga na aa co ov mx fl tx rs cs pr rm sY dY bY nY lY) ∧ (¬ 0 ≤ v → wY_run_18 post 0 pN pK tC sC sT tM fR pe dl os ga na aa co ov mx fl tx rs cs pr rm sY dY bY nY lY)) := by
  rcases sm_in3 v 0 1000 (by omega) (by omega) with h | ⟨h, h'⟩ | ⟨a, h1, h4, rfl⟩
  · have g : ¬ (0 : Int32) ≤ v := sm_nle h
    exact ⟨0, by omega, fun post hp => br_f g hp, fun post hp => br_f g (br_t (by decide) hp)⟩
  · have g : (0 : Int32) ≤ v := Int32.not_lt.mp h
    have g' : ¬ v ≤ (1000 : Int32) := sm_nle h'
    exact ⟨1000, by omega, fun post hp => br_t g (br_f g' hp), fun post hp => br_t g (br_f g' hp)⟩
  · have g : (0 : Int32) ≤ nI a := nI_pos' (by omega)
    have g' : nI a ≤ (1000 : Int32) := nI_le (a := a) (b := 1000) h4 (by omega)
    exact ⟨a, h4, fun post hp => br_t g (br_t g' hp), fun post hp => br_t g (br_t g' hp)⟩
theorem i_vc_run {k : Nat} {u : SX} {v : SY} (I : i_Rel k u v) (hk : k + 5 ≤ 2562) (v1 : Int32) : wpX_run (fun r u' => wpY_run (fun r' v' => r' = r ∧ i_Rel (k + 5) u' v') v v1) u v1 := by
  have I' : i_Rel (k + 5) u v := I
  obtain ⟨c, n, p, kk, sT, tM, fR, pe, dl, hd, tl, os, ga, tx, rs, cs, pr, pd, nx, bX, na, fl, aa, co, ov, mx, rm, sX, lX, sY, dY, bY, nY, lY, rfl, rfl, hs, hf, hch, hsi, ha⟩ := I
  unfold wpX_run
  refine sm_xc hs.1 (fun h0 hcm => ?_) (fun h0 => ?_)
  · refine br_f sm_1 ?_
    obtain ⟨w, hw, wX, wY⟩ := ru_cl (pN := nI p) (pK := nI kk) (tC := nI c) (sC := nI n) (sT := sT) (tM := tM) (fR := fR) (pe := pe) (dl := dl) (os := os) (ga := ga) (na := na) (aa := aa) (co := co) (ov := ov) (mx := mx) (fl := fl) (tx := tx) (rs := rs) (cs := cs) (pr := pr) (rm := rm) (sY := sY) (dY := dY) (bY := bY) (nY := nY) (lY := lY) v1
    obtain ⟨r, tM', fR', na', fl', aa', co', ov', mx', rm', sX', lX', sY', dY', lY', hsi', hX, hY⟩ := ru_loop (pK := nI kk) (sT := sT) (os := os) (ga := ga) (pr := pr) (bX := bX) (bY := bY) (nY := nY) hs hf hch hcm hw w 0 tM fR na fl aa co ov mx rm sX lX sY dY lY (by omega) hsi
    refine wX _ ⟨w + 1, hX _ ?_⟩
    unfold wpY_run
    refine sm_yc hs.1 (by omega) hch.1 (fun _ _ => br_f sm_1 (wY _ ⟨w + 1, hY _ ?_⟩)) (fun z => absurd ⟨h0, hcm⟩ z)
    exact ⟨rfl, c, n, p, kk, sT, tM', fR', pe, dl, hd, tl, os, ga, tx, rs, cs, pr, pd, nx, bX, na', fl', aa', co', ov', mx', rm', sX', lX', sY', dY', bY, nY, lY', rfl, rfl, hs, hf, hch, hsi', ha⟩
  · refine br_t rfl ?_
    unfold wpY_run
    exact sm_yc hs.1 (by omega) hch.1 (fun a b => absurd ⟨a, b⟩ h0) (fun _ => br_t rfl ⟨rfl, I'⟩)
end
end
section
/-! the analysis: what both sides rest on; the component's askedBound -/
def an_C (cs : Nat → Int32) (s : Nat) : Nat := (cs s).toNatClampNeg
def an_T (pe tx : Nat → Int32) (s : Nat) : Nat := (pe (tx s).toNatClampNeg).toNatClampNeg
def an_H (n : Nat) (pe dl tx cs pd : Nat → Int32) : Prop :=
  n ≤ 16 ∧ (∀ j, j < n → pd j = -1 ∨ ∃ q, q < n ∧ pd j = nI q) ∧ (∀ s, s < n → ∃ y, y < 8 ∧ tx s = nI y) ∧
  (∀ s, s < n → cs s = nI (an_C cs s) ∧ 1 ≤ an_C cs s ∧ an_C cs s ≤ 20) ∧
  (∀ s, s < n → pe (tx s).toNatClampNeg = nI (an_T pe tx s) ∧ 1 ≤ an_T pe tx s ∧ an_T pe tx s ≤ 200) ∧
  (∀ s, s < n → dl (tx s).toNatClampNeg = nI (an_T dl tx s) ∧ 1 ≤ an_T dl tx s ∧ an_T dl tx s ≤ 200)
theorem an_v {x : Int32} {m : Nat} (hm : m < 2 ^ 31) (h : ∃ v, 1 ≤ v ∧ v ≤ m ∧ x = nI v) : x = nI x.toNatClampNeg ∧ 1 ≤ x.toNatClampNeg ∧ x.toNatClampNeg ≤ m := by
  obtain ⟨v, h1, h2, rfl⟩ := h
  rw [nI_clamp (by omega)]
  exact ⟨rfl, h1, h2⟩
theorem an_H0 {c n p : Nat} {pe dl hd tl tx rs cs pd nx : Nat → Int32} (hc : c ≤ 8) (hn : n ≤ 16) (hf : rl_Cf c n p pe dl tx rs cs) (hch : sn_Ch tx hd tl pd nx c n) : an_H n pe dl tx cs pd := by
  obtain ⟨f1, f2, f3, f4, f5⟩ := hf
  have hy : ∀ s, s < n → ∃ y, y < c ∧ (tx s).toNatClampNeg = y := by
    intro s hs
    obtain ⟨y, h, e⟩ := f1 s hs
    exact ⟨y, h, by rw [e, nI_clamp (by omega)]⟩
  refine ⟨hn, fun j hj => ?_, fun s hs => ?_, fun s hs => an_v (by omega) (f3 s hs), fun s hs => ?_, fun s hs => ?_⟩
  · rw [hch.2.2.1 j hj]
    rcases sn_L_some tx (tx j) j with ⟨a, _⟩ | ⟨q, hq, a, _, _⟩
    · exact Or.inl a
    · exact Or.inr ⟨q, by omega, a⟩
  · obtain ⟨y, h, e⟩ := f1 s hs
    exact ⟨y, by omega, e⟩
  · obtain ⟨y, h, e⟩ := hy s hs
    have := an_v (m := 200) (by omega) (f4 y h)
    rw [← e] at this
    exact this
  · obtain ⟨y, h, e⟩ := hy s hs
    have := an_v (m := 200) (by omega) (f5 y h)
    rw [← e] at this
    exact this
section
variable {n : Nat} {pe dl tx rs cs pr pd : Nat → Int32} {R : Nat → Nat}
theorem an_cf (h : an_H n pe dl tx cs pd) : fx_Cf n pd (an_T dl tx) := by
  obtain ⟨h0, h1, _, _, _, h5⟩ := h
  refine ⟨fun j hj => ?_, fun s hs => (h5 s hs).2.2⟩
  rcases h1 j hj with e | ⟨q, hq, e⟩
  · exact Or.inl e
  · exact Or.inr (by rw [e, nI_clamp (by omega)]; exact hq)
theorem an_en {r : Nat} (h : r ≤ 200 ∨ r = 1000000) : rl_en r = -1 ↔ r = 1000000 := by
  rcases rl_en_1 h with ⟨e, e'⟩ | ⟨e, e'⟩
  · exact ⟨fun _ => e, fun _ => e'⟩
  · rw [e']
    exact ⟨fun z => absurd z (bs_ne (by omega)), fun z => by omega⟩
theorem an_en_inj {r q : Nat} (h : r ≤ 200 ∨ r = 1000000) (k : q ≤ 200 ∨ q = 1000000) : rl_en r = rl_en q ↔ r = q := by
  refine ⟨fun z => ?_, fun z => by rw [z]⟩
  rcases rl_en_1 h with ⟨e, e'⟩ | ⟨e, e'⟩
  · rw [e'] at z
    have := (an_en k).mp z.symm
    omega
  · rcases rl_en_1 k with ⟨g, g'⟩ | ⟨g, g'⟩
    · rw [g'] at z
      have := (an_en h).mp z
      omega
    · rw [e', g'] at z
      exact (nI_eq (by omega) (by omega)).mp z
theorem an_fin {r : Nat} (h : r ≤ 200) : rl_en r = nI r := if_neg (by omega)
theorem an_J (h : an_H n pe dl tx cs pd) (hR : fx_VL n R) {j : Nat} (hj : j < n) : fx_J pd R j ≤ 200 ∨ fx_J pd R j = 1000000 := by
  unfold fx_J
  by_cases e : pd j = -1
  · rw [if_pos e]; exact Or.inl (by omega)
  · rw [if_neg e]
    rcases h.2.1 j hj with z | ⟨q, hq, z⟩
    · exact absurd z e
    · rw [z, nI_clamp (by have := h.1; omega)]
      exact hR q hq
theorem an_nb (h : an_H n pe dl tx cs pd) (hR : fx_VL n R) {s : Nat} (hb : ¬ fx_bad n rs pr pd R s) : ∀ j, j < n → (j = s ∨ (rs j = rs s ∧ pr s < pr j)) → fx_J pd R j ≤ 200 := by
  intro j hj hc
  rcases an_J h hR hj with z | z
  · exact z
  · exact absurd ⟨j, hj, hc, z⟩ hb
theorem an_bl (h : an_H n pe dl tx cs pd) {s : Nat} (hs : s < n) : ∀ k, k ≤ n → fx_bl rs pr (an_C cs) s k ≤ 20 := by
  intro k
  induction k with
  | zero => intro _; exact (h.2.2.2.1 s hs).2.2
  | succ k ih =>
    intro hk
    have a := ih (by omega)
    have b := (h.2.2.2.1 k (by omega)).2.2
    simp only [fx_bl]
    split
    · split
      · exact b
      · exact a
    · exact a
theorem an_sm (h : an_H n pe dl tx cs pd) {s sp : Nat} (hsp : sp ≤ 300) (hfin : ∀ j, j < n → rs j = rs s ∧ pr s < pr j → fx_J pd R j ≤ 200) : ∀ k, k ≤ n → fx_sm rs pr (an_C cs) (an_T pe tx) (fx_J pd R) s sp k ≤ k * 14000 := by
  intro k
  induction k with
  | zero => intro _; exact Nat.zero_le _
  | succ k ih =>
    intro hk
    have a := ih (by omega)
    have b := h.2.2.2.1 k (by omega)
    have t := h.2.2.2.2.1 k (by omega)
    simp only [fx_sm]
    by_cases e : rs k = rs s ∧ pr s < pr k
    · rw [if_pos e]
      have j := hfin k (by omega) e
      have d : (sp + fx_J pd R k + an_T pe tx k - 1) / an_T pe tx k ≤ 700 := Nat.le_trans (Nat.div_le_self _ _) (by omega)
      have m : (sp + fx_J pd R k + an_T pe tx k - 1) / an_T pe tx k * an_C cs k ≤ 700 * 20 := Nat.mul_le_mul d b.2.2
      omega
    · rw [if_neg e]; omega
end
section
variable {pN pK sT tM fR tC sC : Int32} {c n p kk : Nat} {pe dl hd tl os ga tx rs cs pr pd nx bX na fl aa co ov mx rm sX lX sY dY bY nY lY : Nat → Int32} {R : Nat → Nat}
theorem an_xu {post : Int32 → Prop} {j s : Nat} (hj : j < 16) (hs : s < 16) (h1 : rs j = rs s ∧ pr s < pr j → post 1) (h0 : ¬ (rs j = rs s ∧ pr s < pr j) → post 0) : wpX_isMoreUrgent post (pN, pK, tC, sC, sT, tM, fR, pe, dl, hd, tl, os, ga, tx, rs, cs, pr, pd, nx, bX, na, fl, aa, co, ov, mx, rm, sX, lX) (nI j) (nI s) := by
  have kj : vp_in (nI j) 16 := vp_in_nI hj (by omega)
  have ks : vp_in (nI s) 16 := vp_in_nI hs (by omega)
  refine ⟨kj, ks, ?_⟩
  rw [nI_clamp (by omega), nI_clamp (by omega)]
  by_cases e : rs j = rs s
  · refine br_t e ⟨kj, ks, ?_⟩
    by_cases g : pr j ≤ pr s
    · exact br_t g (h0 (fun z => Int32.not_lt.mpr g z.2))
    · exact br_f g (h1 ⟨e, Int32.not_le.mp g⟩)
  · exact br_f e (h0 (fun z => e z.1))
theorem an_xj {post : Int32 → Prop} {j : Nat} (h : an_H n pe dl tx cs pd) (hb : ∀ i, i < n → bX i = rl_en (R i)) (hj : j < n) (hp : post (rl_en (fx_J pd R j))) : wpX_jitter post (pN, pK, tC, sC, sT, tM, fR, pe, dl, hd, tl, os, ga, tx, rs, cs, pr, pd, nx, bX, na, fl, aa, co, ov, mx, rm, sX, lX) (nI j) := by
  have hn := h.1
  have k : vp_in (nI j) 16 := vp_in_nI (by omega) (by omega)
  refine ⟨k, ?_⟩
  rw [nI_clamp (by omega)]
  unfold fx_J at hp
  by_cases e : pd j = -1
  · rw [if_pos e] at hp
    exact br_t e hp
  · rw [if_neg e] at hp
    rcases h.2.1 j hj with z | ⟨q, hq, z⟩
    · exact absurd z e
    · refine br_f e ⟨k, ?_⟩
      rw [z, nI_clamp (by omega)] at hp ⊢
      rw [hb q hq]
      exact ⟨vp_in_nI (by omega) (by omega), hp⟩
theorem an_xb2 {post : Int32 → Prop} {s : Nat} (h : an_H n pe dl tx cs pd) (hR : fx_VL n R) (hb : ∀ i, i < n → bX i = rl_en (R i)) (hs : s < n) (h1 : fx_bad n rs pr pd R s → post 1) (h0 : ¬ fx_bad n rs pr pd R s → post 0) : ∀ d i, i + d = n → (∀ j, j < i → (j = s ∨ (rs j = rs s ∧ pr s < pr j)) → ¬ fx_J pd R j = 1000000) → wX_hasUnboundedJitter_2 post (nI s) pN pK tC (nI n) sT tM fR pe dl hd tl os ga tx rs cs pr pd nx bX na fl aa co ov mx rm sX lX (d + 1) (nI i) := by
  have hn := h.1
  intro d
  induction d with
  | zero =>
    intro i hi ha
    have e : i = n := by omega
    subst e
    exact br_t (nI_le (by omega) (by omega)) (h0 (fun ⟨j, hj, hc, z⟩ => ha j hj hc z))
  | succ d ih =>
    intro i hi ha
    have next : ((i = s ∨ (rs i = rs s ∧ pr s < pr i)) → ¬ fx_J pd R i = 1000000) → wX_hasUnboundedJitter_2 post (nI s) pN pK tC (nI n) sT tM fR pe dl hd tl os ga tx rs cs pr pd nx bX na fl aa co ov mx rm sX lX (d + 1) (nI (i + 1)) := by
      intro z
      refine ih (i + 1) (by omega) (fun j hj => ?_)
      by_cases e : j = i
      · rw [e]; exact z
      · exact ha j (by omega)
    have t24 : (i = s ∨ (rs i = rs s ∧ pr s < pr i)) → wX_hasUnboundedJitter_24 post (wX_hasUnboundedJitter_2 post (nI s) pN pK tC (nI n) sT tM fR pe dl hd tl os ga tx rs cs pr pd nx bX na fl aa co ov mx rm sX lX (d + 1)) (nI s) (nI i) pN pK tC (nI n) sT tM fR pe dl hd tl os ga tx rs cs pr pd nx bX na fl aa co ov mx rm sX lX := by
      intro hc
      unfold wX_hasUnboundedJitter_24
      refine an_xj h hb (by omega : i < n) ?_
      by_cases z : fx_J pd R i = 1000000
      · exact br_t ((an_en (an_J h hR (by omega))).mpr z) (h1 ⟨i, by omega, hc, z⟩)
      · exact br_f (fun w => z ((an_en (an_J h hR (by omega))).mp w)) (nm_r (nI_1 i) (next (fun _ => z)))
    refine br_f (nI_ge (by omega) (by omega)) ?_
    by_cases e : i = s
    · exact br_t (by rw [e]) (t24 (Or.inl e))
    · refine br_f (fun z => e ((nI_eq (by omega) (by omega)).mp z)) (an_xu (by omega) (by omega) (fun u => br_f sm_1 (t24 (Or.inr u))) (fun u => br_t rfl (nm_r (nI_1 i) (next (fun z => ?_)))))
      rcases z with z | z
      · exact absurd z e
      · exact absurd z u
theorem an_xb {post : Int32 → Prop} {s : Nat} (h : an_H n pe dl tx cs pd) (hR : fx_VL n R) (hb : ∀ i, i < n → bX i = rl_en (R i)) (hs : s < n) (h1 : fx_bad n rs pr pd R s → post 1) (h0 : ¬ fx_bad n rs pr pd R s → post 0) : wpX_hasUnboundedJitter post (pN, pK, tC, nI n, sT, tM, fR, pe, dl, hd, tl, os, ga, tx, rs, cs, pr, pd, nx, bX, na, fl, aa, co, ov, mx, rm, sX, lX) (nI s) :=
  ⟨n + 1, an_xb2 h hR hb hs h1 h0 n 0 (by omega) (fun j hj => by omega)⟩
theorem an_xl9 {post : Int32 → Prop} {s : Nat} (h : an_H n pe dl tx cs pd) (hs : s < n) : ∀ d i, i + d = n → post (nI (fx_bl rs pr (an_C cs) s n)) → wX_longestBlocking_9 post (nI s) pN pK tC (nI n) sT tM fR pe dl hd tl os ga tx rs cs pr pd nx bX na fl aa co ov mx rm sX lX (d + 1) (nI (fx_bl rs pr (an_C cs) s i)) (nI i) := by
  have hn := h.1
  intro d
  induction d with
  | zero =>
    intro i hi hp
    have e : i = n := by omega
    subst e
    exact br_t (nI_le (by omega) (by omega)) hp
  | succ d ih =>
    intro i hi hp
    have z := ih (i + 1) (by omega) hp
    simp only [fx_bl] at z
    have hci := h.2.2.2.1 i (by omega)
    have hbl := an_bl (rs := rs) (pr := pr) h hs i (by omega)
    refine br_f (nI_ge (by omega) (by omega)) (an_xu (by omega) (by omega) (fun u => ?_) (fun u => ?_))
    · rw [if_pos ⟨u.1.symm, u.2⟩] at z
      refine br_f sm_1 ⟨vp_in_nI (by omega) (by omega), ?_⟩
      rw [nI_clamp (by omega), hci.1]
      refine ti_gx ?_
      unfold ti_gr
      by_cases q : fx_bl rs pr (an_C cs) s i < an_C cs i
      · rw [if_pos q] at z
        rw [if_pos (nI_le (by omega) (by omega))]
        exact nm_r (nI_1 i) z
      · rw [if_neg q] at z
        by_cases e : fx_bl rs pr (an_C cs) s i = an_C cs i
        · rw [if_pos (nI_le (by omega) (by omega)), ← e]
          exact nm_r (nI_1 i) z
        · rw [if_neg (nI_ge (by omega) (by omega))]
          exact nm_r (nI_1 i) z
    · rw [if_neg (fun w => u ⟨w.1.symm, w.2⟩)] at z
      exact br_t rfl (nm_r (nI_1 i) z)
theorem an_xl {post : Int32 → Prop} {s : Nat} (h : an_H n pe dl tx cs pd) (hs : s < n) (hp : post (nI (fx_bl rs pr (an_C cs) s n))) : wpX_longestBlocking post (pN, pK, tC, nI n, sT, tM, fR, pe, dl, hd, tl, os, ga, tx, rs, cs, pr, pd, nx, bX, na, fl, aa, co, ov, mx, rm, sX, lX) (nI s) := by
  have hn := h.1
  exact ⟨vp_in_nI (by omega) (by omega), nm_r (by rw [nI_clamp (by omega)]; exact (h.2.2.2.1 s hs).1) ⟨n + 1, an_xl9 h hs n 0 (by omega) hp⟩⟩
theorem an_div {a t : Nat} (ha : a ≤ 1000) (h1 : 1 ≤ t) (ht : t ≤ 200) : (nI a + nI t - 1) / nI t = nI ((a + t - 1) / t) := by
  rw [nI_add, show (1 : Int32) = nI 1 from rfl, pk_sub (by omega), pk_div (by omega) (by omega) (by omega)]
theorem an_xi5 {post : Int32 → Prop} {s sp : Nat} (h : an_H n pe dl tx cs pd) (hb : ∀ i, i < n → bX i = rl_en (R i)) (hs : s < n) (hsp : sp ≤ 300) (hfin : ∀ j, j < n → rs j = rs s ∧ pr s < pr j → fx_J pd R j ≤ 200) :
    ∀ d i, i + d = n → post (nI (fx_sm rs pr (an_C cs) (an_T pe tx) (fx_J pd R) s sp n)) → wX_interference_5 post (nI s) (nI sp) pN pK tC (nI n) sT tM fR pe dl hd tl os ga tx rs cs pr pd nx bX na fl aa co ov mx rm sX lX (d + 1) (nI (fx_sm rs pr (an_C cs) (an_T pe tx) (fx_J pd R) s sp i)) (nI i) := by
  have hn := h.1
  intro d
  induction d with
  | zero =>
    intro i hi hp
    have e : i = n := by omega
    subst e
    exact br_t (nI_le (by omega) (by omega)) hp
  | succ d ih =>
    intro i hi hp
    have z := ih (i + 1) (by omega) hp
    simp only [fx_sm] at z
    have hci := h.2.2.2.1 i (by omega)
    have hti := h.2.2.2.2.1 i (by omega)
    obtain ⟨y, hy, ey⟩ := h.2.2.1 i (by omega)
    have ki : vp_in (nI i) 16 := vp_in_nI (by omega) (by omega)
    have cl : (nI i).toNatClampNeg = i := nI_clamp (by omega)
    refine br_f (nI_ge (by omega) (by omega)) (an_xu (by omega) (by omega) (fun u => br_f sm_1 (an_xj h hb (by omega : i < n) ?_)) (fun u => ?_))
    · have hJ := hfin i (by omega) u
      rw [if_pos u] at z
      rw [an_fin hJ]
      refine nm_r (nI_add _ _) ⟨ki, ?_⟩
      rw [cl]
      refine ⟨by rw [ey]; exact vp_in_nI hy (by omega), ?_⟩
      rw [hti.1]
      refine br_t (nI_le (a := 1) (by omega) (by omega)) ⟨nI_ne0 (by omega) (by omega), ki, ?_⟩
      rw [an_div (by omega) hti.2.1 hti.2.2, hci.1, pk_mul, nI_add]
      exact nm_e (nm_r (nI_1 i) z)
    · rw [if_neg u] at z
      exact br_t rfl (nm_r (nI_1 i) z)
theorem an_xi {post : Int32 → Prop} {s sp : Nat} (h : an_H n pe dl tx cs pd) (hb : ∀ i, i < n → bX i = rl_en (R i)) (hs : s < n) (hsp : sp ≤ 300) (hfin : ∀ j, j < n → rs j = rs s ∧ pr s < pr j → fx_J pd R j ≤ 200) (hp : post (nI (fx_sm rs pr (an_C cs) (an_T pe tx) (fx_J pd R) s sp n))) : wpX_interference post (pN, pK, tC, nI n, sT, tM, fR, pe, dl, hd, tl, os, ga, tx, rs, cs, pr, pd, nx, bX, na, fl, aa, co, ov, mx, rm, sX, lX) (nI s) (nI sp) :=
  ⟨n + 1, an_xi5 h hb hs hsp hfin n 0 (by omega) hp⟩
theorem an_xw3 {post : Int32 → Prop} {s B ld M : Nat} (h : an_H n pe dl tx cs pd) (hb : ∀ i, i < n → bX i = rl_en (R i)) (hs : s < n) (hB : B ≤ 20) (hld : ld ≤ 1) (hM : M ≤ 200) (hfin : ∀ j, j < n → rs j = rs s ∧ pr s < pr j → fx_J pd R j ≤ 200)
    (hp1 : ∀ w, w ≤ M → B + fx_sm rs pr (an_C cs) (an_T pe tx) (fx_J pd R) s (w + ld) n = w → (∀ u, u < w → B + fx_sm rs pr (an_C cs) (an_T pe tx) (fx_J pd R) s (u + ld) n ≠ u) → post (nI w))
    (hp0 : (∀ w, w ≤ M → B + fx_sm rs pr (an_C cs) (an_T pe tx) (fx_J pd R) s (w + ld) n ≠ w) → post (-1)) :
    ∀ d i, i + d = M + 1 → (∀ u, u < i → B + fx_sm rs pr (an_C cs) (an_T pe tx) (fx_J pd R) s (u + ld) n ≠ u) → wX_leastWindow_3 post (nI s) (nI B) (nI ld) (nI M) pN pK tC (nI n) sT tM fR pe dl hd tl os ga tx rs cs pr pd nx bX na fl aa co ov mx rm sX lX (d + 1) (nI i) := by
  have hn := h.1
  intro d
  induction d with
  | zero =>
    intro i hi ha
    exact br_t (nI_lt (by omega) (by omega)) (hp0 (fun w hw => ha w (by omega)))
  | succ d ih =>
    intro i hi ha
    refine br_f (nI_nlt (by omega) (by omega)) ?_
    rw [nI_add]
    refine an_xi h hb hs (by omega) hfin ?_
    have b := an_sm (s := s) (sp := i + ld) h (by omega) hfin n (Nat.le_refl n)
    rw [nI_add]
    refine nm_e ?_
    by_cases e : B + fx_sm rs pr (an_C cs) (an_T pe tx) (fx_J pd R) s (i + ld) n = i
    · exact br_t (by rw [e]) (hp1 i (by omega) e ha)
    · refine br_f (fun z => e ((nI_eq (by omega) (by omega)).mp z)) (nm_r (nI_1 i) (ih (i + 1) (by omega) (fun u hu => ?_)))
      by_cases g : u = i
      · rw [g]; exact e
      · exact ha u (by omega)
/-- the component's bound is what F asks -/
theorem an_x67 {post : Int32 → Prop} {s B ld ou : Nat} (h : an_H n pe dl tx cs pd) (hb : ∀ i, i < n → bX i = rl_en (R i)) (hs : s < n) (hB : B ≤ 20) (hld : ld ≤ 1) (hou : ou ≤ 300) (hfin : ∀ j, j < n → rs j = rs s ∧ pr s < pr j → fx_J pd R j ≤ 200)
    (hp1 : ∀ w, ou + w ≤ an_T dl tx s → B + fx_sm rs pr (an_C cs) (an_T pe tx) (fx_J pd R) s (w + ld) n = w → (∀ u, u < w → B + fx_sm rs pr (an_C cs) (an_T pe tx) (fx_J pd R) s (u + ld) n ≠ u) → post (nI (ou + w)))
    (hp0 : (∀ w, B + fx_sm rs pr (an_C cs) (an_T pe tx) (fx_J pd R) s (w + ld) n = w → an_T dl tx s < ou + w) → post (-1)) :
    wX_askedBound_67 post (nI s) (nI ou) (nI B) (nI ld) pN pK tC (nI n) sT tM fR pe dl hd tl os ga tx rs cs pr pd nx bX na fl aa co ov mx rm sX lX := by
  have hn := h.1
  have hd := h.2.2.2.2.2 s hs
  obtain ⟨y, hy, ey⟩ := h.2.2.1 s hs
  refine ⟨vp_in_nI (by omega) (by omega), ?_⟩
  rw [nI_clamp (by omega), hd.1]
  refine ⟨by rw [ey]; exact vp_in_nI hy (by omega), ?_⟩
  by_cases g : ou ≤ an_T dl tx s
  · rw [pk_sub g]
    refine ⟨an_T dl tx s - ou + 2, an_xw3 h hb hs hB hld (by omega) hfin (fun w hw e1 e2 => ?_) (fun e => ?_) (an_T dl tx s - ou + 1) 0 (by omega) (fun u hu => by omega)⟩
    · refine br_f (bs_ne (by omega)) ?_
      rw [nI_add]
      exact hp1 w (by omega) e1 e2
    · refine br_t rfl (hp0 (fun w ew => ?_))
      by_cases q : an_T dl tx s < ou + w
      · exact q
      · exact absurd ew (e w (by omega))
  · refine ⟨1, br_t (pk_sneg (by omega) (by omega)) (br_t rfl (hp0 (fun w _ => by omega)))⟩
theorem an_xask {post : Int32 → Prop} {s : Nat} (h : an_H n pe dl tx cs pd) (hR : fx_VL n R) (hb : ∀ i, i < n → bX i = rl_en (R i)) (hs : s < n) (hp : ∀ r, fx_Fr n rs pr pd (an_C cs) (an_T pe tx) (an_T dl tx) R s r → post (rl_en r)) : wpX_askedBound post (pN, pK, tC, nI n, sT, tM, fR, pe, dl, hd, tl, os, ga, tx, rs, cs, pr, pd, nx, bX, na, fl, aa, co, ov, mx, rm, sX, lX) (nI s) := by
  have hn := h.1
  have ks : vp_in (nI s) 16 := vp_in_nI (by omega) (by omega)
  have cl : (nI s).toNatClampNeg = s := nI_clamp (by omega)
  have hcs := h.2.2.2.1 s hs
  unfold wpX_askedBound
  refine an_xb h hR hb hs (fun bad => br_f sm_1 (hp 1000000 (Or.inl ⟨bad, rfl⟩))) (fun nb => br_t rfl ⟨ks, ?_⟩)
  have fin := an_nb h hR nb
  have hJs := fin s hs (Or.inl rfl)
  have hfin : ∀ j, j < n → rs j = rs s ∧ pr s < pr j → fx_J pd R j ≤ 200 := fun j hj u => fin j hj (Or.inr u)
  rw [cl]
  by_cases e8 : rs s = 8
  · refine br_t e8 ?_
    unfold wX_askedBound_26
    refine an_xj h hb hs ⟨ks, ?_⟩
    rw [cl, an_fin hJs, hcs.1]
    refine nm_e (br_f sm_1 ⟨ks, ?_⟩)
    rw [nI_add]
    refine nm_e (an_xl h hs ?_)
    have eo : fx_out rs pd (an_C cs) R s = fx_J pd R s + an_C cs s := by unfold fx_out; rw [if_pos e8]
    have ef : ∀ w, fx_f n rs pr pd (an_C cs) (an_T pe tx) R s w = fx_bl rs pr (an_C cs) s n + fx_sm rs pr (an_C cs) (an_T pe tx) (fx_J pd R) s (w + 1) n := by
      intro w
      unfold fx_f fx_base fx_lead
      rw [if_pos e8, if_pos e8]
    refine an_x67 (ld := 1) h hb hs (an_bl h hs n (Nat.le_refl n)) (by omega) (by omega) hfin (fun w h1 h2 h3 => ?_) (fun h1 => ?_)
    · have := hp (fx_J pd R s + an_C cs s + w) (Or.inr ⟨nb, Or.inl ⟨w, by rw [ef]; exact h2, fun u hu => by rw [ef]; exact h3 u hu, by rw [eo]; exact h1, by rw [eo]⟩⟩)
      rw [an_fin (by have := (h.2.2.2.2.2 s hs).2.2; omega)] at this
      exact this
    · exact hp 1000000 (Or.inr ⟨nb, Or.inr ⟨fun w ew => by rw [ef] at ew; rw [eo]; exact h1 w ew, rfl⟩⟩)
  · refine br_f e8 ?_
    unfold wX_askedBound_26
    refine an_xj h hb hs ⟨ks, ?_⟩
    rw [cl, an_fin hJs, hcs.1]
    refine nm_e (br_t rfl ?_)
    have eo : fx_out rs pd (an_C cs) R s = fx_J pd R s := by unfold fx_out; rw [if_neg e8]; rfl
    have ef : ∀ w, fx_f n rs pr pd (an_C cs) (an_T pe tx) R s w = an_C cs s + fx_sm rs pr (an_C cs) (an_T pe tx) (fx_J pd R) s (w + 0) n := by
      intro w
      unfold fx_f fx_base fx_lead
      rw [if_neg e8, if_neg e8]
    refine an_x67 (ld := 0) h hb hs hcs.2.2 (by omega) (by omega) hfin (fun w h1 h2 h3 => ?_) (fun h1 => ?_)
    · have := hp (fx_J pd R s + w) (Or.inr ⟨nb, Or.inl ⟨w, by rw [ef]; exact h2, fun u hu => by rw [ef]; exact h3 u hu, by rw [eo]; exact h1, by rw [eo]⟩⟩)
      rw [an_fin (by have := (h.2.2.2.2.2 s hs).2.2; omega)] at this
      exact this
    · exact hp 1000000 (Or.inr ⟨nb, Or.inr ⟨fun w ew => by rw [ef] at ew; rw [eo]; exact h1 w ew, rfl⟩⟩)
end
end
section
/-! the analysis: the reference's raw -/
section
variable {pN pK sT tM fR tC sC : Int32} {c n p kk : Nat} {pe dl hd tl os ga tx rs cs pr pd nx bX na fl aa co ov mx rm sX lX sY dY bY nY lY : Nat → Int32} {R : Nat → Nat}
theorem an_yj {post : Int32 → Prop} {j : Nat} (h : an_H n pe dl tx cs pd) (hpd : ∀ s, s < n → pd s = sn_L tx (tx s) s) (hb : ∀ i, i < n → bY i = nI (R i)) (hj : j < n) (hp : post (nI (fx_J pd R j))) : wpY_jitter post (pN, pK, tC, sC, sT, tM, fR, pe, dl, os, ga, na, aa, co, ov, mx, fl, tx, rs, cs, pr, rm, sY, dY, bY, nY, lY) (nI j) := by
  have hn := h.1
  unfold wpY_jitter
  refine sm_yp (by omega) ?_
  rw [← hpd j hj]
  unfold fx_J at hp
  by_cases e : pd j = -1
  · rw [if_pos e] at hp
    exact br_t e hp
  · rw [if_neg e] at hp
    rcases h.2.1 j hj with z | ⟨q, hq, z⟩
    · exact absurd z e
    · rw [z] at hp ⊢
      rw [nI_clamp (by omega)] at hp
      refine br_f (bs_ne (by omega)) ⟨vp_in_nI (by omega) (by omega), ?_⟩
      rw [nI_clamp (by omega), hb q hq]
      exact hp
theorem an_yu {post : Int32 → Prop} {j s : Nat} (hj : j < 16) (hs : s < 16) (h1 : rs j = rs s ∧ pr s < pr j → post 1) (h0 : ¬ (rs j = rs s ∧ pr s < pr j) → post 0) : wpY_isHp post (pN, pK, tC, sC, sT, tM, fR, pe, dl, os, ga, na, aa, co, ov, mx, fl, tx, rs, cs, pr, rm, sY, dY, bY, nY, lY) (nI j) (nI s) := by
  have kj : vp_in (nI j) 16 := vp_in_nI hj (by omega)
  have ks : vp_in (nI s) 16 := vp_in_nI hs (by omega)
  by_cases q : j = s
  · subst q
    exact br_t rfl (h0 (fun z => Int32.lt_irrefl z.2))
  · refine br_f (fun z => q ((nI_eq (by omega) (by omega)).mp z)) ⟨kj, ks, ?_⟩
    rw [nI_clamp (by omega), nI_clamp (by omega)]
    by_cases e : rs j = rs s
    · refine br_t e ⟨kj, ks, ?_⟩
      by_cases g : pr j ≤ pr s
      · exact br_t g (h0 (fun z => Int32.not_lt.mpr g z.2))
      · exact br_f g (h1 ⟨e, Int32.not_le.mp g⟩)
    · exact br_f e (h0 (fun z => e z.1))
theorem an_yf105 {post : Int32 → Prop} {s w B ld : Nat} {x3 : Int32} (h : an_H n pe dl tx cs pd) (hpd : ∀ s, s < n → pd s = sn_L tx (tx s) s) (hb : ∀ i, i < n → bY i = nI (R i)) (hs : s < n) (hw : w ≤ 200) (hld : (x3 = 0 ∧ ld = 0) ∨ (¬ x3 = 0 ∧ ld = 1)) (hfin : ∀ j, j < n → rs j = rs s ∧ pr s < pr j → fx_J pd R j ≤ 200) :
    ∀ d i, i + d = n → post (nI (B + fx_sm rs pr (an_C cs) (an_T pe tx) (fx_J pd R) s (w + ld) n)) → wY_f_105 post (nI s) (nI w) x3 pN pK tC (nI n) sT tM fR pe dl os ga na aa co ov mx fl tx rs cs pr rm sY dY bY nY lY (d + 1) (nI (B + fx_sm rs pr (an_C cs) (an_T pe tx) (fx_J pd R) s (w + ld) i)) (nI i) := by
  have hn := h.1
  intro d
  induction d with
  | zero =>
    intro i hi hp
    have e : i = n := by omega
    subst e
    exact br_t (nI_le (by omega) (by omega)) hp
  | succ d ih =>
    intro i hi hp
    have z := ih (i + 1) (by omega) hp
    simp only [fx_sm] at z
    have hci := h.2.2.2.1 i (by omega)
    have hti := h.2.2.2.2.1 i (by omega)
    obtain ⟨y, hy, ey⟩ := h.2.2.1 i (by omega)
    have ki : vp_in (nI i) 16 := vp_in_nI (by omega) (by omega)
    have cl : (nI i).toNatClampNeg = i := nI_clamp (by omega)
    refine br_f (nI_ge (by omega) (by omega)) (an_yu (by omega) (by omega) (fun u => br_f sm_1 (an_yj h hpd hb (by omega : i < n) ?_)) (fun u => ?_))
    · have hJ := hfin i (by omega) u
      rw [if_pos u, ← Nat.add_assoc] at z
      have t144 : ∀ a, a = w + ld + fx_J pd R i → wY_f_144 post (wY_f_105 post (nI s) (nI w) x3 pN pK tC (nI n) sT tM fR pe dl os ga na aa co ov mx fl tx rs cs pr rm sY dY bY nY lY (d + 1)) (nI s) (nI w) x3 (nI (B + fx_sm rs pr (an_C cs) (an_T pe tx) (fx_J pd R) s (w + ld) i)) (nI i) (nI a) pN pK tC (nI n) sT tM fR pe dl os ga na aa co ov mx fl tx rs cs pr rm sY dY bY nY lY := by
        intro a ea
        refine ⟨ki, ?_⟩
        rw [cl]
        refine ⟨by rw [ey]; exact vp_in_nI hy (by omega), ?_⟩
        rw [hti.1]
        refine nm_e ⟨nI_ne0 (by omega) (by omega), ?_⟩
        rw [an_div (by omega) hti.2.1 hti.2.2]
        refine nm_e ⟨ki, ?_⟩
        rw [hci.1, pk_mul, nI_add, ea]
        exact nm_e (nm_r (nI_1 i) z)
      refine nm_r (nI_add _ _) ?_
      rcases hld with ⟨h3, hl⟩ | ⟨h3, hl⟩
      · exact br_t h3 (t144 _ (by omega))
      · exact br_f h3 (nm_r (nI_1 _) (t144 _ (by omega)))
    · rw [if_neg u] at z
      exact br_t rfl (nm_r (nI_1 i) z)
theorem an_yf32 {post : Int32 → Prop} {s w : Nat} {x3 : Int32} (h : an_H n pe dl tx cs pd) (hs : s < n) (h8 : rs s = 8) : ∀ d i, i + d = n → (∃ m, wY_f_105 post (nI s) (nI w) x3 pN pK tC (nI n) sT tM fR pe dl os ga na aa co ov mx fl tx rs cs pr rm sY dY bY nY lY m (nI (fx_bl rs pr (an_C cs) s n)) 0) → wY_f_32 post (nI s) (nI w) x3 pN pK tC (nI n) sT tM fR pe dl os ga na aa co ov mx fl tx rs cs pr rm sY dY bY nY lY (d + 1) (nI (fx_bl rs pr (an_C cs) s i)) (nI i) := by
  have hn := h.1
  intro d
  induction d with
  | zero =>
    intro i hi hp
    have e : i = n := by omega
    subst e
    exact br_t (nI_le (by omega) (by omega)) hp
  | succ d ih =>
    intro i hi hp
    have z := ih (i + 1) (by omega) hp
    simp only [fx_bl] at z
    have hci := h.2.2.2.1 i (by omega)
    have hbl := an_bl (rs := rs) (pr := pr) h hs i (by omega)
    have ki : vp_in (nI i) 16 := vp_in_nI (by omega) (by omega)
    have ks : vp_in (nI s) 16 := vp_in_nI (by omega) (by omega)
    have cl : (nI i).toNatClampNeg = i := nI_clamp (by omega)
    refine br_f (nI_ge (by omega) (by omega)) ?_
    by_cases q : i = s
    · rw [if_neg (fun w => Int32.lt_irrefl (by have := w.2; rw [q] at this; exact this))] at z
      exact br_t (by rw [q]) (nm_r (nI_1 i) z)
    · refine br_f (fun w => q ((nI_eq (by omega) (by omega)).mp w)) ⟨ki, ?_⟩
      rw [cl]
      by_cases e : rs i = 8
      · refine br_t e ⟨ki, ks, ?_⟩
        rw [nI_clamp (by omega)]
        by_cases g : pr s ≤ pr i
        · rw [if_neg (fun w => Int32.not_lt.mpr g w.2)] at z
          exact br_t g (nm_r (nI_1 i) z)
        · rw [if_pos ⟨by rw [e, h8], Int32.not_le.mp g⟩] at z
          refine br_f g ⟨ki, ?_⟩
          rw [hci.1]
          by_cases k : fx_bl rs pr (an_C cs) s i < an_C cs i
          · rw [if_pos k] at z
            exact br_f (nI_ge (by omega) (by omega)) ⟨ki, nm_e (nm_r (nI_1 i) z)⟩
          · rw [if_neg k] at z
            exact br_t (nI_le (by omega) (by omega)) (nm_r (nI_1 i) z)
      · rw [if_neg (fun w => e (by rw [w.1, h8]))] at z
        exact br_f e (nm_r (nI_1 i) z)
theorem an_yf {post : Int32 → Prop} {s w : Nat} (h : an_H n pe dl tx cs pd) (hpd : ∀ s, s < n → pd s = sn_L tx (tx s) s) (hb : ∀ i, i < n → bY i = nI (R i)) (hs : s < n) (hw : w ≤ 200) (hfin : ∀ j, j < n → rs j = rs s ∧ pr s < pr j → fx_J pd R j ≤ 200) (hp : post (nI (fx_f n rs pr pd (an_C cs) (an_T pe tx) R s w))) : wpY_f post (pN, pK, tC, nI n, sT, tM, fR, pe, dl, os, ga, na, aa, co, ov, mx, fl, tx, rs, cs, pr, rm, sY, dY, bY, nY, lY) (nI s) (nI w) := by
  have hn := h.1
  have ks : vp_in (nI s) 16 := vp_in_nI (by omega) (by omega)
  have cl : (nI s).toNatClampNeg = s := nI_clamp (by omega)
  have hcs := h.2.2.2.1 s hs
  refine ⟨ks, ?_⟩
  rw [cl]
  unfold fx_f fx_base fx_lead at hp
  by_cases e8 : rs s = 8
  · rw [if_pos e8, if_pos e8] at hp
    refine br_t e8 ⟨ks, ?_⟩
    rw [cl, hcs.1]
    exact nm_e (br_f sm_1 ⟨n + 1, an_yf32 h hs e8 n 0 (by omega) ⟨n + 1, an_yf105 (ld := 1) h hpd hb hs hw (Or.inr ⟨sm_1, rfl⟩) hfin n 0 (by omega) hp⟩⟩)
  · rw [if_neg e8, if_neg e8] at hp
    refine br_f e8 ⟨ks, ?_⟩
    rw [cl, hcs.1]
    exact nm_e (br_t rfl ⟨n + 1, an_yf105 (ld := 0) h hpd hb hs hw (Or.inl ⟨rfl, rfl⟩) hfin n 0 (by omega) hp⟩)
theorem an_y68 {post : Int32 → Prop} {s : Nat} (h : an_H n pe dl tx cs pd) (hpd : ∀ s, s < n → pd s = sn_L tx (tx s) s) (hb : ∀ i, i < n → bY i = nI (R i)) (hs : s < n) (hJs : fx_J pd R s ≤ 200) (hfin : ∀ j, j < n → rs j = rs s ∧ pr s < pr j → fx_J pd R j ≤ 200)
    (hp1 : ∀ w, fx_f n rs pr pd (an_C cs) (an_T pe tx) R s w = w → (∀ u, u < w → fx_f n rs pr pd (an_C cs) (an_T pe tx) R s u ≠ u) → fx_out rs pd (an_C cs) R s + w ≤ an_T dl tx s → post (nI (fx_out rs pd (an_C cs) R s + w)))
    (hp0 : (∀ w, fx_f n rs pr pd (an_C cs) (an_T pe tx) R s w = w → an_T dl tx s < fx_out rs pd (an_C cs) R s + w) → post 1000000) :
    ∀ d i, i + d = an_T dl tx s + 1 → (∀ u, u < i → fx_f n rs pr pd (an_C cs) (an_T pe tx) R s u ≠ u) → wY_raw_68 post (nI s) (nI (fx_J pd R s)) (nI (an_T dl tx s)) pN pK tC (nI n) sT tM fR pe dl os ga na aa co ov mx fl tx rs cs pr rm sY dY bY nY lY (d + 1) (nI i) := by
  have hn := h.1
  have hcs := h.2.2.2.1 s hs
  have hds := h.2.2.2.2.2 s hs
  have ks : vp_in (nI s) 16 := vp_in_nI (by omega) (by omega)
  have cl : (nI s).toNatClampNeg = s := nI_clamp (by omega)
  intro d
  induction d with
  | zero =>
    intro i hi ha
    refine br_t (nI_lt (by omega) (by omega)) (hp0 (fun w ew => ?_))
    by_cases q : w < i
    · exact absurd ew (ha w q)
    · omega
  | succ d ih =>
    intro i hi ha
    refine br_f (nI_nlt (by omega) (by omega)) (an_yf h hpd hb hs (by omega) hfin ?_)
    have bnd : fx_f n rs pr pd (an_C cs) (an_T pe tx) R s i < 2 ^ 31 := by
      have b := an_sm (s := s) (sp := i + fx_lead rs s) h (by unfold fx_lead; split <;> omega) hfin n (Nat.le_refl n)
      have b2 : fx_base n rs pr (an_C cs) s ≤ 20 := by
        unfold fx_base
        split
        · exact an_bl h hs n (Nat.le_refl n)
        · exact hcs.2.2
      unfold fx_f
      omega
    by_cases e : fx_f n rs pr pd (an_C cs) (an_T pe tx) R s i = i
    · refine br_t (by rw [e]) (nm_r (nI_add _ _) ⟨ks, ?_⟩)
      have fin : ∀ o, o = fx_out rs pd (an_C cs) R s + i → wY_raw_114 post (nI (an_T dl tx s)) (nI o) pN pK tC (nI n) sT tM fR pe dl os ga na aa co ov mx fl tx rs cs pr rm sY dY bY nY lY := by
        intro o eo
        have ob : o ≤ 500 := by
          rw [eo]
          unfold fx_out
          split <;> omega
        by_cases g : an_T dl tx s < o
        · refine br_t (nI_lt g (by omega)) (hp0 (fun w ew => ?_))
          by_cases q : w < i
          · exact absurd ew (ha w q)
          · omega
        · refine br_f (nI_nlt (by omega) (by omega)) ?_
          rw [eo]
          exact hp1 i e ha (by omega)
      rw [cl]
      by_cases e8 : rs s = 8
      · refine br_t e8 ⟨ks, ?_⟩
        rw [hcs.1, nI_add]
        refine nm_e (fin _ ?_)
        unfold fx_out
        rw [if_pos e8]
        omega
      · refine br_f e8 (fin _ ?_)
        unfold fx_out
        rw [if_neg e8]
        omega
    · refine br_f (fun z => e ((nI_eq bnd (by omega)).mp z)) (nm_r (nI_1 i) (ih (i + 1) (by omega) (fun u hu => ?_)))
      by_cases g : u = i
      · rw [g]; exact e
      · exact ha u (by omega)
theorem an_y17 {post : Int32 → Prop} {s : Nat} (h : an_H n pe dl tx cs pd) (hR : fx_VL n R) (hpd : ∀ s, s < n → pd s = sn_L tx (tx s) s) (hb : ∀ i, i < n → bY i = nI (R i)) (hs : s < n) (hJs : fx_J pd R s ≤ 200) (hp : ∀ r, fx_Fr n rs pr pd (an_C cs) (an_T pe tx) (an_T dl tx) R s r → post (nI r)) :
    ∀ d i, i + d = n → (∀ j, j < i → (rs j = rs s ∧ pr s < pr j) → fx_J pd R j ≤ 200) → wY_raw_17 post (nI s) (nI (fx_J pd R s)) pN pK tC (nI n) sT tM fR pe dl os ga na aa co ov mx fl tx rs cs pr rm sY dY bY nY lY (d + 1) (nI i) := by
  have hn := h.1
  have ks : vp_in (nI s) 16 := vp_in_nI (by omega) (by omega)
  intro d
  induction d with
  | zero =>
    intro i hi ha
    have e : i = n := by omega
    subst e
    obtain ⟨y, hy, ey⟩ := h.2.2.1 s hs
    have nb : ¬ fx_bad i rs pr pd R s := by
      rintro ⟨j, hj, hc, z⟩
      rcases hc with hc | hc
      · rw [hc] at z; omega
      · have := ha j hj hc
        omega
    refine br_t (nI_le (by omega) (by omega)) ⟨ks, ?_⟩
    rw [nI_clamp (by omega)]
    refine ⟨by rw [ey]; exact vp_in_nI hy (by omega), nm_r (h.2.2.2.2.2 s hs).1 ⟨_, an_y68 h hpd hb hs hJs ha (fun w h1 h2 h3 => ?_) (fun h1 => ?_) (an_T dl tx s + 1) 0 (by omega) (fun u hu => by omega)⟩⟩
    · exact hp _ (Or.inr ⟨nb, Or.inl ⟨w, h1, h2, h3, rfl⟩⟩)
    · exact hp 1000000 (Or.inr ⟨nb, Or.inr ⟨h1, rfl⟩⟩)
  | succ d ih =>
    intro i hi ha
    have next : ((rs i = rs s ∧ pr s < pr i) → fx_J pd R i ≤ 200) → wY_raw_17 post (nI s) (nI (fx_J pd R s)) pN pK tC (nI n) sT tM fR pe dl os ga na aa co ov mx fl tx rs cs pr rm sY dY bY nY lY (d + 1) (nI (i + 1)) := by
      intro z
      refine ih (i + 1) (by omega) (fun j hj => ?_)
      by_cases e : j = i
      · rw [e]; exact z
      · exact ha j (by omega)
    refine br_f (nI_ge (by omega) (by omega)) (an_yu (by omega) (by omega) (fun u => br_f sm_1 (an_yj h hpd hb (by omega : i < n) ?_)) (fun u => br_t rfl (nm_r (nI_1 i) (next (fun z => absurd z u)))))
    have v := an_J h hR (by omega : i < n)
    by_cases z : fx_J pd R i = 1000000
    · exact br_t ((rl_inf v).mpr z) (hp 1000000 (Or.inl ⟨⟨i, by omega, Or.inr u, z⟩, rfl⟩))
    · exact br_f (fun w => z ((rl_inf v).mp w)) (nm_r (nI_1 i) (next (fun _ => by omega)))
theorem an_yraw {post : Int32 → Prop} {s : Nat} (h : an_H n pe dl tx cs pd) (hR : fx_VL n R) (hpd : ∀ s, s < n → pd s = sn_L tx (tx s) s) (hb : ∀ i, i < n → bY i = nI (R i)) (hs : s < n) (hp : ∀ r, fx_Fr n rs pr pd (an_C cs) (an_T pe tx) (an_T dl tx) R s r → post (nI r)) : wpY_raw post (pN, pK, tC, nI n, sT, tM, fR, pe, dl, os, ga, na, aa, co, ov, mx, fl, tx, rs, cs, pr, rm, sY, dY, bY, nY, lY) (nI s) := by
  unfold wpY_raw
  refine an_yj h hpd hb hs ?_
  have v := an_J h hR hs
  by_cases z : fx_J pd R s = 1000000
  · exact br_t ((rl_inf v).mpr z) (hp 1000000 (Or.inl ⟨⟨s, hs, Or.inl rfl, z⟩, rfl⟩))
  · exact br_f (fun w => z ((rl_inf v).mp w)) ⟨n + 1, an_y17 h hR hpd hb hs (by omega) hp n 0 (by omega) (fun j hj => by omega)⟩
end
end
section
/-! the analysis: both rise to the least fixpoint -/
section
variable {n : Nat} {pe dl tx rs cs pr pd : Nat → Int32} {R Q : Nat → Nat}
/-- R is a vector on the way up -/
abbrev an_I (n : Nat) (pe dl tx rs cs pr pd : Nat → Int32) (R : Nat → Nat) : Prop := fx_Inv n rs pr pd (an_C cs) (an_T pe tx) (an_T dl tx) R
abbrev an_F (n : Nat) (pe dl tx rs cs pr pd : Nat → Int32) (R : Nat → Nat) (s r : Nat) : Prop := fx_Fr n rs pr pd (an_C cs) (an_T pe tx) (an_T dl tx) R s r
theorem an_mu (hn : n ≤ 16) : fx_mu R n ≤ 3216 := Nat.le_trans (fx_mu_max R n) (by omega)
end
section
variable {pN pK sT tM fR tC sC : Int32} {c n p kk : Nat} {pe dl hd tl os ga tx rs cs pr pd nx bX na fl aa co ov mx rm sX lX sY dY bY nY lY : Nat → Int32} {R : Nat → Nat}
/-! the component's passes -/
theorem an_xr4 {post : Int32 → SX → Prop} {R0 : Nat → Nat} (h : an_H n pe dl tx cs pd)
    (hp : ∀ (R : Nat → Nat) (b : Nat → Int32) (r : Int32), an_I n pe dl tx rs cs pr pd R → (∀ j, j < n → b j = rl_en (R j)) → (∀ j, j < n → R0 j ≤ R j) → ((r = 0 ∧ ∀ j, j < n → an_F n pe dl tx rs cs pr pd R j (R j)) ∨ (r = 1 ∧ ∃ j, j < n ∧ R0 j ≠ R j)) → post r (pN, pK, tC, nI n, sT, tM, fR, pe, dl, hd, tl, os, ga, tx, rs, cs, pr, pd, nx, b, na, fl, aa, co, ov, mx, rm, sX, lX)) :
    ∀ (d i : Nat) (R : Nat → Nat) (bX : Nat → Int32) (r : Int32), i + d = n → an_I n pe dl tx rs cs pr pd R → (∀ j, j < n → bX j = rl_en (R j)) → (∀ j, j < n → R0 j ≤ R j) → ((r = 0 ∧ ∀ j, j < i → an_F n pe dl tx rs cs pr pd R j (R j)) ∨ (r = 1 ∧ ∃ j, j < n ∧ R0 j ≠ R j)) →
      wX_raiseBounds_4 post pN pK tC (nI n) sT tM fR (d + 1) r (nI i) pe dl hd tl os ga tx rs cs pr pd nx bX na fl aa co ov mx rm sX lX := by
  have hn := h.1
  have hcf := an_cf h
  intro d
  induction d with
  | zero =>
    intro i R bX r hi hI hb hle hst
    have e : i = n := by omega
    subst e
    refine br_t (nI_le (by omega) (by omega)) ⟨?_, hp R bX r hI hb hle hst⟩
    rcases hst with ⟨rfl, _⟩ | ⟨rfl, _⟩ <;> rfl
  | succ d ih =>
    intro i R bX r hi hI hb hle hst
    have k : vp_in (nI i) 16 := vp_in_nI (by omega) (by omega)
    refine br_f (nI_ge (by omega) (by omega)) (an_xask h hI.1 hb (by omega : i < n) (fun a ha => ⟨k, ?_⟩))
    rw [nI_clamp (by omega), hb i (by omega)]
    have va := fx_val hcf (by omega : i < n) ha
    have vR := hI.1 i (by omega)
    by_cases e : a = R i
    · refine br_t (by rw [e]) (nm_r (nI_1 i) (ih (i + 1) R bX r (by omega) hI hb hle ?_))
      rcases hst with ⟨e0, hF⟩ | z
      · refine Or.inl ⟨e0, fun j hj => ?_⟩
        by_cases q : j = i
        · rw [q, ← e]; exact ha
        · exact hF j (by omega)
      · exact Or.inr z
    · have ⟨hra, hI'⟩ := fx_step hcf hI (by omega : i < n) ha
      refine br_f (fun z => e ((an_en_inj va vR).mp z)) ⟨k, nm_e (nm_r (nI_1 i) (ih (i + 1) (fun t => if t = i then a else R t) (upd bX i (rl_en a)) 1 (by omega) hI' (fun j hj => ?_) (fun j hj => ?_) (Or.inr ⟨rfl, i, by omega, ?_⟩)))⟩
      · show upd bX i (rl_en a) j = rl_en (if j = i then a else R j)
        by_cases q : j = i
        · rw [if_pos q, q, pk_us]
        · rw [if_neg q, pk_un q]; exact hb j hj
      · show R0 j ≤ if j = i then a else R j
        by_cases q : j = i
        · rw [if_pos q, q]; exact Nat.le_trans (hle i (by omega)) hra
        · rw [if_neg q]; exact hle j hj
      · show R0 i ≠ if i = i then a else R i
        rw [if_pos rfl]
        have := hle i (by omega)
        omega
theorem an_xab2 {post : Int32 → Prop} (hn : n ≤ 16) (hR : fx_VL n R) (hb : ∀ i, i < n → bX i = rl_en (R i)) (h1 : (∀ j, j < n → ¬ R j = 1000000) → post 1) (h0 : (¬ ∀ j, j < n → ¬ R j = 1000000) → post 0) : ∀ d i, i + d = n → (∀ j, j < i → ¬ R j = 1000000) → wX_areAllBounded_2 post pN pK tC (nI n) sT tM fR pe dl hd tl os ga tx rs cs pr pd nx bX na fl aa co ov mx rm sX lX (d + 1) (nI i) := by
  intro d
  induction d with
  | zero =>
    intro i hi ha
    have e : i = n := by omega
    subst e
    exact br_t (nI_le (by omega) (by omega)) (h1 ha)
  | succ d ih =>
    intro i hi ha
    refine br_f (nI_ge (by omega) (by omega)) ⟨vp_in_nI (by omega) (by omega), ?_⟩
    rw [nI_clamp (by omega), hb i (by omega)]
    have v := hR i (by omega)
    by_cases e : R i = 1000000
    · exact br_t ((an_en v).mpr e) (h0 (fun z => z i (by omega) e))
    · refine br_f (fun z => e ((an_en v).mp z)) (nm_r (nI_1 i) (ih (i + 1) (by omega) (fun j hj => ?_)))
      by_cases q : j = i
      · rw [q]; exact e
      · exact ha j (by omega)
theorem an_x58 {post : Int32 → SX → Prop} (hn : n ≤ 16) (hR : fx_VL n R) (hb : ∀ i, i < n → bX i = rl_en (R i)) (h1 : (∀ j, j < n → ¬ R j = 1000000) → post 1 (pN, pK, tC, nI n, 1, tM, fR, pe, dl, hd, tl, os, ga, tx, rs, cs, pr, pd, nx, bX, na, fl, aa, co, ov, mx, rm, sX, lX)) (h2 : (¬ ∀ j, j < n → ¬ R j = 1000000) → post 2 (pN, pK, tC, nI n, 2, tM, fR, pe, dl, hd, tl, os, ga, tx, rs, cs, pr, pd, nx, bX, na, fl, aa, co, ov, mx, rm, sX, lX)) : wX_analyse_58 post pN pK tC (nI n) sT tM fR pe dl hd tl os ga tx rs cs pr pd nx bX na fl aa co ov mx rm sX lX := by
  unfold wX_analyse_58
  exact ⟨n + 1, an_xab2 hn hR hb (fun z => br_f sm_1 (h1 z)) (fun z => br_t rfl (h2 z)) n 0 (by omega) (fun j hj => by omega)⟩
/-- what the component's analysis ends with -/
theorem an_x37 {post : Int32 → SX → Prop} (h : an_H n pe dl tx cs pd)
    (hp : ∀ (R : Nat → Nat) (b : Nat → Int32), an_I n pe dl tx rs cs pr pd R → (∀ j, j < n → an_F n pe dl tx rs cs pr pd R j (R j)) → (∀ j, j < n → b j = rl_en (R j)) → ((∀ j, j < n → ¬ R j = 1000000) → post 1 (pN, pK, tC, nI n, 1, tM, fR, pe, dl, hd, tl, os, ga, tx, rs, cs, pr, pd, nx, b, na, fl, aa, co, ov, mx, rm, sX, lX)) ∧ ((¬ ∀ j, j < n → ¬ R j = 1000000) → post 2 (pN, pK, tC, nI n, 2, tM, fR, pe, dl, hd, tl, os, ga, tx, rs, cs, pr, pd, nx, b, na, fl, aa, co, ov, mx, rm, sX, lX))) :
    ∀ (m i : Nat) (R : Nat → Nat) (bX : Nat → Int32), 3217 ≤ fx_mu R n + m → i ≤ fx_mu R n → an_I n pe dl tx rs cs pr pd R → (∀ j, j < n → bX j = rl_en (R j)) → wX_analyse_37 post (m + 1) 1 (nI i) pN pK tC (nI n) sT tM fR pe dl hd tl os ga tx rs cs pr pd nx bX na fl aa co ov mx rm sX lX := by
  have hn := h.1
  intro m
  induction m with
  | zero =>
    intro i R bX hm hi hI hb
    have := an_mu (R := R) hn
    omega
  | succ m ih =>
    intro i R bX hm hi hI hb
    have mb := an_mu (R := R) hn
    refine br_f sm_1 (br_f (nI_ge (a := i) (b := 1000000) (by omega) (by omega)) ?_)
    refine ⟨n + 1, an_xr4 (R0 := R) h (fun R' b' r' hI' hb' hle' hst' => ?_) n 0 R bX 0 (by omega) hI hb (fun j _ => Nat.le_refl _) (Or.inl ⟨rfl, fun j hj => by omega⟩)⟩
    refine nm_r (nI_1 i) ?_
    rcases hst' with ⟨rfl, hF⟩ | ⟨rfl, j, hj, hne⟩
    · obtain ⟨p1, p2⟩ := hp R' b' hI' hF hb'
      exact br_t rfl (an_x58 hn hI'.1 hb' p1 p2)
    · have lt := fx_mu_lt hI.1 hI'.1 n (Nat.le_refl n) hle' j hj hne
      exact ih (i + 1) R' b' (by omega) (by omega) hI' hb'
theorem an_x12 {post : Int32 → SX → Prop} (hn : n ≤ 16) : ∀ d i, i + d = n → (∃ m, wX_analyse_37 post m 1 0 pN pK tC (nI n) sT tM fR pe dl hd tl os ga tx rs cs pr pd nx (bs_mz bX (fun _ => 0) n) na fl aa co ov mx rm sX lX) → wX_analyse_12 post pN pK tC (nI n) sT tM fR (d + 1) (nI i) pe dl hd tl os ga tx rs cs pr pd nx (bs_mz bX (fun _ => 0) i) na fl aa co ov mx rm sX lX := by
  intro d
  induction d with
  | zero =>
    intro i hi hp
    have e : i = n := by omega
    subst e
    exact br_t (nI_le (by omega) (by omega)) hp
  | succ d ih =>
    intro i hi hp
    exact br_f (nI_ge (by omega) (by omega)) ⟨vp_in_nI (by omega) (by omega), nm_r (rs_sv (by omega)) (nm_r (nI_1 i) (ih (i + 1) (by omega) hp))⟩
theorem an_xana {post : Int32 → SX → Prop} (h : an_H n pe dl tx cs pd)
    (hp : ∀ (R : Nat → Nat) (b : Nat → Int32), an_I n pe dl tx rs cs pr pd R → (∀ j, j < n → an_F n pe dl tx rs cs pr pd R j (R j)) → (∀ j, j < n → b j = rl_en (R j)) → ((∀ j, j < n → ¬ R j = 1000000) → post 1 (pN, pK, tC, nI n, 1, tM, fR, pe, dl, hd, tl, os, ga, tx, rs, cs, pr, pd, nx, b, na, fl, aa, co, ov, mx, rm, sX, lX)) ∧ ((¬ ∀ j, j < n → ¬ R j = 1000000) → post 2 (pN, pK, tC, nI n, 2, tM, fR, pe, dl, hd, tl, os, ga, tx, rs, cs, pr, pd, nx, b, na, fl, aa, co, ov, mx, rm, sX, lX))) :
    ∃ m, wX_analyse_12 post pN pK tC (nI n) sT tM fR m 0 pe dl hd tl os ga tx rs cs pr pd nx bX na fl aa co ov mx rm sX lX := by
  have hn := h.1
  have z := an_x37 (post := post) (pN := pN) (pK := pK) (tC := tC) (sT := sT) (tM := tM) (fR := fR) (hd := hd) (tl := tl) (os := os) (ga := ga) (nx := nx) (na := na) (fl := fl) (aa := aa) (co := co) (ov := ov) (mx := mx) (rm := rm) (sX := sX) (lX := lX) h hp 3217 0 (fun _ => 0) (bs_mz bX (fun _ => 0) n) (by omega) (by omega) (fx_inv0 (fun _ _ => rfl)) (fun j hj => by rw [bs_mz_lt hj]; rfl)
  have y := an_x12 (post := post) (pN := pN) (pK := pK) (tC := tC) (sT := sT) (tM := tM) (fR := fR) (pe := pe) (dl := dl) (hd := hd) (tl := tl) (os := os) (ga := ga) (tx := tx) (rs := rs) (cs := cs) (pr := pr) (pd := pd) (nx := nx) (bX := bX) (na := na) (fl := fl) (aa := aa) (co := co) (ov := ov) (mx := mx) (rm := rm) (sX := sX) (lX := lX) hn n 0 (by omega) ⟨_, z⟩
  rw [bs_mz0] at y
  exact ⟨_, y⟩
/-! the reference's passes -/
theorem an_y131 {post : Int32 → SY → Prop} (hn : n ≤ 16) (hR : fx_VL n R) (hb : ∀ i, i < n → bY i = nI (R i)) (h1 : (∀ j, j < n → ¬ R j = 1000000) → post 1 (pN, pK, tC, nI n, 1, tM, fR, pe, dl, os, ga, na, aa, co, ov, mx, fl, tx, rs, cs, pr, rm, sY, dY, bY, nY, lY)) (h2 : (¬ ∀ j, j < n → ¬ R j = 1000000) → post 2 (pN, pK, tC, nI n, 2, tM, fR, pe, dl, os, ga, na, aa, co, ov, mx, fl, tx, rs, cs, pr, rm, sY, dY, bY, nY, lY)) : ∀ (d i : Nat) (r : Int32), i + d = n → ((r = 1 ∧ ∀ j, j < i → ¬ R j = 1000000) ∨ (r = 2 ∧ ¬ ∀ j, j < n → ¬ R j = 1000000)) → wY_analyse_131 post pN pK tC (nI n) sT tM fR pe dl os ga na aa co ov mx fl tx rs cs pr rm sY dY bY nY lY (d + 1) r (nI i) := by
  intro d
  induction d with
  | zero =>
    intro i r hi hst
    have e : i = n := by omega
    subst e
    refine br_t (nI_le (by omega) (by omega)) ?_
    rcases hst with ⟨rfl, z⟩ | ⟨rfl, z⟩
    · exact h1 z
    · exact h2 z
  | succ d ih =>
    intro i r hi hst
    refine br_f (nI_ge (by omega) (by omega)) ⟨vp_in_nI (by omega) (by omega), ?_⟩
    rw [nI_clamp (by omega), hb i (by omega)]
    have v := hR i (by omega)
    by_cases e : R i = 1000000
    · exact br_t ((rl_inf v).mpr e) (nm_r (nI_1 i) (ih (i + 1) 2 (by omega) (Or.inr ⟨rfl, fun z => z i (by omega) e⟩)))
    · refine br_f (fun z => e ((rl_inf v).mp z)) (nm_r (nI_1 i) (ih (i + 1) r (by omega) ?_))
      rcases hst with ⟨e1, z⟩ | z
      · refine Or.inl ⟨e1, fun j hj => ?_⟩
        by_cases q : j = i
        · rw [q]; exact e
        · exact z j (by omega)
      · exact Or.inr z
abbrev an_J33 : Type := Int32 → (Nat → Int32) → (Nat → Int32) → (Nat → Int32) → (Nat → Int32) → (Nat → Int32) → (Nat → Int32) → (Nat → Int32) → (Nat → Int32) → (Nat → Int32) → (Nat → Int32) → (Nat → Int32) → (Nat → Int32) → (Nat → Int32) → (Nat → Int32) → (Nat → Int32) → (Nat → Int32) → (Nat → Int32) → (Nat → Int32) → (Nat → Int32) → (Nat → Int32) → Prop
theorem an_y71 {post : Int32 → SY → Prop} {J : an_J33} {x1 : Int32} {Q : Nat → Nat} (hn : n ≤ 16) (hR : fx_VL n R) (hQ : fx_VL n Q) (hq : ∀ i, i < n → nY i = nI (Q i))
    (h0 : ∀ b : Nat → Int32, (∀ j, j < n → b j = nI (Q j)) → (∀ j, j < n → Q j = R j) → ∃ m, wY_analyse_131 post pN pK tC (nI n) sT tM fR pe dl os ga na aa co ov mx fl tx rs cs pr rm sY dY b nY lY m 1 0)
    (h1 : ∀ b : Nat → Int32, (∀ j, j < n → b j = nI (Q j)) → (∃ j, j < n ∧ R j ≠ Q j) → J (x1 + 1) pe dl os ga na aa co ov mx fl tx rs cs pr rm sY dY b nY lY) :
    ∀ (d i : Nat) (bY : Nat → Int32) (r : Int32), i + d = n → (∀ j, j < i → bY j = nI (Q j)) → (∀ j, i ≤ j → j < n → bY j = nI (R j)) → ((r = 0 ∧ ∀ j, j < i → Q j = R j) ∨ (r = 1 ∧ ∃ j, j < n ∧ R j ≠ Q j)) → wY_analyse_71 post J x1 pN pK tC (nI n) sT tM fR (d + 1) r (nI i) pe dl os ga na aa co ov mx fl tx rs cs pr rm sY dY bY nY lY := by
  intro d
  induction d with
  | zero =>
    intro i bY r hi hb1 hb2 hst
    have e : i = n := by omega
    subst e
    refine br_t (nI_le (by omega) (by omega)) ?_
    rcases hst with ⟨rfl, z⟩ | ⟨rfl, z⟩
    · exact br_t rfl (h0 bY hb1 z)
    · exact br_f sm_1 (nm_e (h1 bY hb1 z))
  | succ d ih =>
    intro i bY r hi hb1 hb2 hst
    have k : vp_in (nI i) 16 := vp_in_nI (by omega) (by omega)
    have cl : (nI i).toNatClampNeg = i := nI_clamp (by omega)
    have nb1 : ∀ j, j < i + 1 → upd bY i (nI (Q i)) j = nI (Q j) := by
      intro j hj
      by_cases q : j = i
      · rw [q, pk_us]
      · rw [pk_un q]; exact hb1 j (by omega)
    have nb2 : ∀ j, i + 1 ≤ j → j < n → upd bY i (nI (Q i)) j = nI (R j) := by
      intro j hj hj'
      rw [pk_un (by omega)]; exact hb2 j (by omega) hj'
    refine br_f (nI_ge (by omega) (by omega)) ⟨k, k, ?_⟩
    rw [cl, hq i (by omega), hb2 i (Nat.le_refl i) (by omega)]
    have vQ := hQ i (by omega)
    have vR := hR i (by omega)
    by_cases e : Q i = R i
    · refine br_t (by rw [e]) ⟨k, k, nm_r (by rw [cl, hq i (by omega)]) (nm_r (nI_1 i) (ih (i + 1) (upd bY i (nI (Q i))) r (by omega) nb1 nb2 ?_))⟩
      rcases hst with ⟨e0, z⟩ | z
      · refine Or.inl ⟨e0, fun j hj => ?_⟩
        by_cases q : j = i
        · rw [q]; exact e
        · exact z j (by omega)
      · exact Or.inr z
    · exact br_f (fun z => e ((nI_eq (by omega) (by omega)).mp z)) ⟨k, k, nm_r (by rw [cl, hq i (by omega)]) (nm_r (nI_1 i) (ih (i + 1) (upd bY i (nI (Q i))) 1 (by omega) nb1 nb2 (Or.inr ⟨rfl, i, by omega, fun z => e z.symm⟩)))⟩
theorem an_y42 {post : Int32 → SY → Prop} {J : an_J33} {x1 : Int32} (h : an_H n pe dl tx cs pd) (hpd : ∀ s, s < n → pd s = sn_L tx (tx s) s) (hR : fx_VL n R) (hb : ∀ i, i < n → bY i = nI (R i))
    (hp : ∀ (Q : Nat → Nat) (q : Nat → Int32), (∀ j, j < n → an_F n pe dl tx rs cs pr pd R j (Q j)) → (∀ j, j < n → q j = nI (Q j)) → ∃ m, wY_analyse_71 post J x1 pN pK tC (nI n) sT tM fR m 0 0 pe dl os ga na aa co ov mx fl tx rs cs pr rm sY dY bY q lY) :
    ∀ (d i : Nat) (Q : Nat → Nat) (nY : Nat → Int32), i + d = n → (∀ j, j < i → an_F n pe dl tx rs cs pr pd R j (Q j)) → (∀ j, j < i → nY j = nI (Q j)) → wY_analyse_42 post J x1 pN pK tC (nI n) sT tM fR (d + 1) (nI i) pe dl os ga na aa co ov mx fl tx rs cs pr rm sY dY bY nY lY := by
  have hn := h.1
  intro d
  induction d with
  | zero =>
    intro i Q nY hi hF hq
    have e : i = n := by omega
    subst e
    exact br_t (nI_le (by omega) (by omega)) (hp Q nY hF hq)
  | succ d ih =>
    intro i Q nY hi hF hq
    refine br_f (nI_ge (by omega) (by omega)) (an_yraw h hR hpd hb (by omega : i < n) (fun a ha => ⟨vp_in_nI (by omega) (by omega), nm_r (cf_up (by omega)) (nm_r (nI_1 i) (ih (i + 1) (fun t => if t = i then a else Q t) (upd nY i (nI a)) (by omega) (fun j hj => ?_) (fun j hj => ?_)))⟩))
    · show an_F n pe dl tx rs cs pr pd R j (if j = i then a else Q j)
      by_cases q : j = i
      · rw [if_pos q, q]; exact ha
      · rw [if_neg q]; exact hF j (by omega)
    · show upd nY i (nI a) j = nI (if j = i then a else Q j)
      by_cases q : j = i
      · rw [if_pos q, q, pk_us]
      · rw [if_neg q, pk_un q]; exact hq j (by omega)
theorem an_y33 {post : Int32 → SY → Prop} (h : an_H n pe dl tx cs pd) (hpd : ∀ s, s < n → pd s = sn_L tx (tx s) s)
    (hp : ∀ (R : Nat → Nat) (b q : Nat → Int32), an_I n pe dl tx rs cs pr pd R → (∀ j, j < n → an_F n pe dl tx rs cs pr pd R j (R j)) → (∀ j, j < n → b j = nI (R j)) → ((∀ j, j < n → ¬ R j = 1000000) → post 1 (pN, pK, tC, nI n, 1, tM, fR, pe, dl, os, ga, na, aa, co, ov, mx, fl, tx, rs, cs, pr, rm, sY, dY, b, q, lY)) ∧ ((¬ ∀ j, j < n → ¬ R j = 1000000) → post 2 (pN, pK, tC, nI n, 2, tM, fR, pe, dl, os, ga, na, aa, co, ov, mx, fl, tx, rs, cs, pr, rm, sY, dY, b, q, lY))) :
    ∀ (m i : Nat) (R : Nat → Nat) (bY nY : Nat → Int32), 3217 ≤ fx_mu R n + m → i ≤ fx_mu R n → an_I n pe dl tx rs cs pr pd R → (∀ j, j < n → bY j = nI (R j)) → wY_analyse_33 post pN pK tC (nI n) sT tM fR (m + 1) (nI i) pe dl os ga na aa co ov mx fl tx rs cs pr rm sY dY bY nY lY := by
  have hn := h.1
  have hcf := an_cf h
  intro m
  induction m with
  | zero =>
    intro i R bY nY hm hi hI hb
    have := an_mu (R := R) hn
    omega
  | succ m ih =>
    intro i R bY nY hm hi hI hb
    have mb := an_mu (R := R) hn
    refine br_f (nI_ge (a := i) (b := 5000) (by omega) (by omega)) ⟨n + 1, an_y42 h hpd hI.1 hb (fun Q q hF hq => ⟨n + 1, ?_⟩) n 0 (fun _ => 0) nY (by omega) (fun j hj => by omega) (fun j hj => by omega)⟩
    obtain ⟨hle, hI'⟩ := fx_steps hcf hI hF
    refine an_y71 hn hI.1 hI'.1 hq (fun b hb' he => ?_) (fun b hb' hne => ?_) n 0 bY 0 (by omega) (fun j hj => by omega) (fun j _ hj => hb j hj) (Or.inl ⟨rfl, fun j hj => by omega⟩)
    · have hF' : ∀ j, j < n → an_F n pe dl tx rs cs pr pd R j (R j) := fun j hj => by
        have := hF j hj
        rw [he j hj] at this
        exact this
      have hb2 : ∀ j, j < n → b j = nI (R j) := fun j hj => by rw [hb' j hj, he j hj]
      obtain ⟨p1, p2⟩ := hp R b q hI hF' hb2
      exact ⟨n + 1, an_y131 hn hI.1 hb2 p1 p2 n 0 1 (by omega) (Or.inl ⟨rfl, fun j hj => by omega⟩)⟩
    · obtain ⟨j, hj, ne⟩ := hne
      have lt := fx_mu_lt hI.1 hI'.1 n (Nat.le_refl n) hle j hj ne
      rw [nI_1]
      exact ih (i + 1) Q b q (by omega) (by omega) hI' hb'
theorem an_y12 {post : Int32 → SY → Prop} {sC : Int32} : ∀ d i, i + d = 16 → (∃ m, wY_analyse_33 post pN pK tC sC sT tM fR m 0 pe dl os ga na aa co ov mx fl tx rs cs pr rm sY dY (bs_mz bY (fun _ => 0) 16) nY lY) → wY_analyse_12 post pN pK tC sC sT tM fR (d + 1) (nI i) pe dl os ga na aa co ov mx fl tx rs cs pr rm sY dY (bs_mz bY (fun _ => 0) i) nY lY := by
  intro d
  induction d with
  | zero =>
    intro i hi hp
    have e : i = 16 := by omega
    subst e
    exact br_t (nI_le (a := 16) (b := 16) (by omega) (by omega)) hp
  | succ d ih =>
    intro i hi hp
    exact br_f (nI_ge (a := i) (b := 16) (by omega) (by omega)) ⟨vp_in_nI (by omega) (by omega), nm_r (rs_sv (by omega)) (nm_r (nI_1 i) (ih (i + 1) (by omega) hp))⟩
theorem an_yana {post : Int32 → SY → Prop} (h : an_H n pe dl tx cs pd) (hpd : ∀ s, s < n → pd s = sn_L tx (tx s) s)
    (hp : ∀ (R : Nat → Nat) (b q : Nat → Int32), an_I n pe dl tx rs cs pr pd R → (∀ j, j < n → an_F n pe dl tx rs cs pr pd R j (R j)) → (∀ j, j < n → b j = nI (R j)) → ((∀ j, j < n → ¬ R j = 1000000) → post 1 (pN, pK, tC, nI n, 1, tM, fR, pe, dl, os, ga, na, aa, co, ov, mx, fl, tx, rs, cs, pr, rm, sY, dY, b, q, lY)) ∧ ((¬ ∀ j, j < n → ¬ R j = 1000000) → post 2 (pN, pK, tC, nI n, 2, tM, fR, pe, dl, os, ga, na, aa, co, ov, mx, fl, tx, rs, cs, pr, rm, sY, dY, b, q, lY))) :
    ∃ m, wY_analyse_12 post pN pK tC (nI n) sT tM fR m 0 pe dl os ga na aa co ov mx fl tx rs cs pr rm sY dY bY nY lY := by
  have hn := h.1
  have z := an_y33 (post := post) (pN := pN) (pK := pK) (tC := tC) (sT := sT) (tM := tM) (fR := fR) (os := os) (ga := ga) (na := na) (fl := fl) (aa := aa) (co := co) (ov := ov) (mx := mx) (rm := rm) (sY := sY) (dY := dY) (lY := lY) h hpd hp 3217 0 (fun _ => 0) (bs_mz bY (fun _ => 0) 16) nY (by omega) (by omega) (fx_inv0 (fun _ _ => rfl)) (fun j hj => by rw [bs_mz_lt (by omega)]; rfl)
  have y := an_y12 (post := post) (pN := pN) (pK := pK) (tC := tC) (sC := nI n) (sT := sT) (tM := tM) (fR := fR) (pe := pe) (dl := dl) (os := os) (ga := ga) (na := na) (fl := fl) (aa := aa) (co := co) (ov := ov) (mx := mx) (tx := tx) (rs := rs) (cs := cs) (pr := pr) (rm := rm) (sY := sY) (dY := dY) (bY := bY) (nY := nY) (lY := lY) 16 0 rfl ⟨_, z⟩
  rw [bs_mz0] at y
  exact ⟨_, y⟩
end
end
section
/-! analyse -/
theorem i_vc_analyse {k : Nat} {u : SX} {v : SY} (I : i_Rel k u v) (hk : k + 5 ≤ 2562) : wpX_analyse (fun r u' => wpY_analyse (fun r' v' => r' = r ∧ i_Rel (k + 5) u' v') v) u := by
  have I' : i_Rel (k + 5) u v := I
  obtain ⟨c, n, p, kk, sT, tM, fR, pe, dl, hd, tl, os, ga, tx, rs, cs, pr, pd, nx, bX, na, fl, aa, co, ov, mx, rm, sX, lX, sY, dY, bY, nY, lY, rfl, rfl, hs, hf, hch, hsi, ha⟩ := I
  have hH := an_H0 hs.1 (by omega) hf hch
  unfold wpX_analyse
  refine sm_xc hs.1 (fun h0 hcm => ?_) (fun h0 => ?_)
  · refine br_f sm_1 (an_xana (rs := rs) (pr := pr) hH (fun R b hI hF hb => ?_))
    have fin : ∀ (r : Int32) (st : Int32), (((∀ j, j < n → ¬ R j = 1000000) ∧ r = 1) ∨ ((¬ ∀ j, j < n → ¬ R j = 1000000) ∧ r = 2)) → wpY_analyse (fun r' v' => r' = r ∧ i_Rel (k + 5) (nI p, nI kk, nI c, nI n, r, tM, fR, pe, dl, hd, tl, os, ga, tx, rs, cs, pr, pd, nx, b, na, fl, aa, co, ov, mx, rm, sX, lX) v') (nI p, nI kk, nI c, nI n, sT, tM, fR, pe, dl, os, ga, na, aa, co, ov, mx, fl, tx, rs, cs, pr, rm, sY, dY, bY, nY, lY) := by
      intro r st hr
      unfold wpY_analyse
      refine sm_yc hs.1 (by omega) hch.1 (fun _ _ => br_f sm_1 (an_yana hH hch.2.2.1 (fun R' b' q' hI' hF' hb' => ?_))) (fun z => absurd ⟨h0, hcm⟩ z)
      have eR := fx_end hI hI' hF hF'
      have rel : ∀ st, i_Rel (k + 5) (nI p, nI kk, nI c, nI n, st, tM, fR, pe, dl, hd, tl, os, ga, tx, rs, cs, pr, pd, nx, b, na, fl, aa, co, ov, mx, rm, sX, lX) (nI p, nI kk, nI c, nI n, st, tM, fR, pe, dl, os, ga, na, aa, co, ov, mx, fl, tx, rs, cs, pr, rm, sY, dY, b', q', lY) := fun st =>
        ⟨c, n, p, kk, st, tM, fR, pe, dl, hd, tl, os, ga, tx, rs, cs, pr, pd, nx, b, na, fl, aa, co, ov, mx, rm, sX, lX, sY, dY, b', q', lY, rfl, rfl, hs, hf, hch, hsi, Or.inr ⟨hcm, R, fun s hs' => ⟨hI.1 s hs', hb s hs', by rw [hb' s hs', eR s hs']⟩⟩⟩
      have same : (∀ j, j < n → ¬ R' j = 1000000) ↔ ∀ j, j < n → ¬ R j = 1000000 := ⟨fun z j hj => by rw [eR j hj]; exact z j hj, fun z j hj => by rw [← eR j hj]; exact z j hj⟩
      refine ⟨fun z => ?_, fun z => ?_⟩
      · rcases hr with ⟨_, rfl⟩ | ⟨w, _⟩
        · exact ⟨rfl, rel 1⟩
        · exact absurd (same.mp z) w
      · rcases hr with ⟨w, _⟩ | ⟨_, rfl⟩
        · exact absurd (same.mpr w) z
        · exact ⟨rfl, rel 2⟩
    exact ⟨fun z => fin 1 1 (Or.inl ⟨z, rfl⟩), fun z => fin 2 2 (Or.inr ⟨z, rfl⟩)⟩
  · refine br_t rfl ?_
    unfold wpY_analyse
    exact sm_yc hs.1 (by omega) hch.1 (fun a b => absurd ⟨a, b⟩ h0) (fun _ => br_t rfl ⟨rfl, I'⟩)
end
