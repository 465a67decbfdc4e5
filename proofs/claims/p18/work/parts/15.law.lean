/-! the law's own small methods -/
def sl_ce (L : Nat) (xs : Nat → Int32) (k : Nat) : Int32 := if k < L then xs k else 0
def sl_md (v : Int32) (k : Nat) : Nat := (v.toInt.tmod k + k).toNat % k
theorem sl_md_lt {v : Int32} {k : Nat} (h : 1 ≤ k) : sl_md v k < k := Nat.mod_lt _ h
theorem sl_md_nI {a k : Nat} (ha : a < 2 ^ 31) (h : 1 ≤ k) : sl_md (nI a) k = a % k := by
  unfold sl_md
  rw [nI_toInt ha, Int.tmod_eq_emod_of_nonneg (by omega), ← Int.natCast_emod, show ((a % k : Nat) : Int) + (k : Int) = ((a % k + k : Nat) : Int) from by omega, Int.toNat_natCast, Nat.add_mod_right, Nat.mod_mod]
theorem sl_v {P : Int32 → Prop} {a b : Int32} (e : a = b) (h : P b) : P a := by rw [e]; exact h
theorem sl_m {post : Int32 → Prop} {v : Int32} {k : Nat} (h1 : 1 ≤ k) (h2 : k ≤ 1000) (hp : post (nI (sl_md v k))) : wpL_m post () v (nI k) := by
  have k0 : ¬ nI k = 0 := nI_ne0 (by omega) (by omega)
  refine ⟨k0, k0, ?_⟩
  have tb := tmod_bounds (a := v.toInt) (M := (k : Int)) (by omega)
  have e : (v - v / nI k * nI k) + nI k = nI (v.toInt.tmod k + k).toNat := by
    apply Int32.toInt_inj.mp
    rw [Int32.toInt_add, rem_toInt, nI_toInt (by omega), nI_toInt (by omega), Int.bmod_eq_of_le (by omega) (by omega)]
    omega
  rw [e, pk_rem (by omega) (by omega) (by omega)]
  exact hp
def sl_nt (L : Nat) (xs : Nat → Int32) : Nat := 1 + sl_md (sl_ce L xs 1) 3
def sl_ns (L : Nat) (xs : Nat → Int32) : Nat := sl_nt L xs + sl_md (sl_ce L xs 2) 6
def sl_p (L : Nat) (xs : Nat → Int32) : Nat := 1 + sl_md (sl_ce L xs 0) 4
def sl_pe (L : Nat) (xs : Nat → Int32) (x : Nat) : Nat := 20 + sl_md (sl_ce L xs (4 + 2 * x)) 181
def sl_dl (L : Nat) (xs : Nat → Int32) (x : Nat) : Nat := sl_pe L xs x - sl_md (sl_ce L xs (5 + 2 * x)) (sl_pe L xs x / 2 + 1)
def sl_tx (L : Nat) (xs : Nat → Int32) (i : Nat) : Nat := if i < sl_nt L xs then i else sl_md (sl_ce L xs (10 + 3 * i)) (sl_nt L xs)
def sl_rs (L : Nat) (xs : Nat → Int32) (i : Nat) : Int32 := if sl_md (sl_ce L xs (11 + 3 * i)) (sl_p L xs + 1) = sl_p L xs then 8 else nI (sl_md (sl_ce L xs (11 + 3 * i)) (sl_p L xs + 1))
def sl_cs (L : Nat) (xs : Nat → Int32) (i : Nat) : Nat := 1 + sl_md (sl_ce L xs (12 + 3 * i)) 4
def sl_pr (L : Nat) (xs : Nat → Int32) (i : Nat) : Nat := 1 + (7 * i + sl_md (sl_ce L xs 3) 16) % 16
section
variable {L : Nat} {xs : Nat → Int32}
theorem sl_nt_b : 1 ≤ sl_nt L xs ∧ sl_nt L xs ≤ 3 := by
  have := sl_md_lt (v := sl_ce L xs 1) (k := 3) (by omega)
  unfold sl_nt
  omega
theorem sl_ns_b : sl_nt L xs ≤ sl_ns L xs ∧ sl_ns L xs ≤ 8 := by
  have := sl_md_lt (v := sl_ce L xs 2) (k := 6) (by omega)
  have := sl_nt_b (L := L) (xs := xs)
  unfold sl_ns
  omega
theorem sl_p_b : 1 ≤ sl_p L xs ∧ sl_p L xs ≤ 4 := by
  have := sl_md_lt (v := sl_ce L xs 0) (k := 4) (by omega)
  unfold sl_p
  omega
theorem sl_pe_b {x : Nat} : 20 ≤ sl_pe L xs x ∧ sl_pe L xs x ≤ 200 := by
  have := sl_md_lt (v := sl_ce L xs (4 + 2 * x)) (k := 181) (by omega)
  unfold sl_pe
  omega
theorem sl_dl_b {x : Nat} : 1 ≤ sl_dl L xs x ∧ sl_dl L xs x ≤ sl_pe L xs x := by
  have a := sl_md_lt (v := sl_ce L xs (5 + 2 * x)) (k := sl_pe L xs x / 2 + 1) (by omega)
  have b := sl_pe_b (L := L) (xs := xs) (x := x)
  unfold sl_dl
  omega
theorem sl_tx_b {i : Nat} : sl_tx L xs i < sl_nt L xs := by
  unfold sl_tx
  by_cases e : i < sl_nt L xs
  · rw [if_pos e]; exact e
  · rw [if_neg e]; exact sl_md_lt sl_nt_b.1
theorem sl_rs_b {i : Nat} : sl_rs L xs i = 8 ∨ ∃ q, q < sl_p L xs ∧ sl_rs L xs i = nI q := by
  have a := sl_md_lt (v := sl_ce L xs (11 + 3 * i)) (k := sl_p L xs + 1) (by omega)
  unfold sl_rs
  by_cases e : sl_md (sl_ce L xs (11 + 3 * i)) (sl_p L xs + 1) = sl_p L xs
  · rw [if_pos e]; exact Or.inl rfl
  · rw [if_neg e]; exact Or.inr ⟨_, by omega, rfl⟩
theorem sl_cs_b {i : Nat} : 1 ≤ sl_cs L xs i ∧ sl_cs L xs i ≤ 4 := by
  have := sl_md_lt (v := sl_ce L xs (12 + 3 * i)) (k := 4) (by omega)
  unfold sl_cs
  omega
theorem sl_pr_b {i : Nat} : 1 ≤ sl_pr L xs i ∧ sl_pr L xs i ≤ 16 := by
  unfold sl_pr
  omega
theorem sl_pr_inj {i j : Nat} (hi : i < 8) (hj : j < 8) (e : sl_pr L xs i = sl_pr L xs j) : i = j := by
  unfold sl_pr at e
  omega
theorem sl_cell {post : Int32 → Prop} {v : Int32} (hL : L ≤ 260) (k : Nat) (hk : k < 2 ^ 31) (e : v = nI k) (hp : post (sl_ce L xs k)) : wpL_cell post L xs () v := by
  subst e
  unfold sl_ce at hp
  by_cases z : k < L
  · rw [if_pos z] at hp
    refine br_f (nI_ge z (by omega)) ⟨vp_in_nI z (by omega), ?_⟩
    rw [nI_clamp hk]
    exact hp
  · rw [if_neg z] at hp
    exact br_t (nI_le (by omega) hk) hp
theorem sl_ix (a b i : Nat) : nI a + nI b * nI i = nI (a + b * i) := by rw [pk_mul, nI_add]
theorem sl_ntw {post : Int32 → Prop} (hL : L ≤ 260) (hp : post (nI (sl_nt L xs))) : wpL_nt post L xs () :=
  sl_cell hL 1 (by omega) rfl (sl_m (k := 3) (by omega) (by omega) (sl_v (P := post) (nI_add 1 _) hp))
theorem sl_nsw {post : Int32 → Prop} (hL : L ≤ 260) (hp : post (nI (sl_ns L xs))) : wpL_ns post L xs () :=
  sl_ntw hL (sl_cell hL 2 (by omega) rfl (sl_m (k := 6) (by omega) (by omega) (sl_v (P := post) (nI_add _ _) hp)))
theorem sl_pw {post : Int32 → Prop} (hL : L ≤ 260) (hp : post (nI (sl_p L xs))) : wpL_procs post L xs () :=
  sl_cell hL 0 (by omega) rfl (sl_m (k := 4) (by omega) (by omega) (sl_v (P := post) (nI_add 1 _) hp))
theorem sl_pew {post : Int32 → Prop} {x : Nat} (hL : L ≤ 260) (hx : x < 100) (hp : post (nI (sl_pe L xs x))) : wpL_period post L xs () (nI x) :=
  sl_cell hL (4 + 2 * x) (by omega) (sl_ix 4 2 x) (sl_m (k := 181) (by omega) (by omega) (sl_v (P := post) (nI_add 20 _) hp))
theorem sl_dlw {post : Int32 → Prop} {x : Nat} (hL : L ≤ 260) (hx : x < 100) (hp : post (nI (sl_dl L xs x))) : wpL_deadline post L xs () (nI x) := by
  have b := sl_pe_b (L := L) (xs := xs) (x := x)
  have a := sl_md_lt (v := sl_ce L xs (5 + 2 * x)) (k := sl_pe L xs x / 2 + 1) (by omega)
  unfold wpL_deadline
  refine sl_pew hL hx (sl_cell hL (5 + 2 * x) (by omega) (sl_ix 5 2 x) ⟨by decide, ?_⟩)
  have e : nI (sl_pe L xs x) / 2 + 1 = nI (sl_pe L xs x / 2 + 1) := by
    rw [show (2 : Int32) = nI 2 from rfl, pk_div (by omega) (by omega) (by omega), nI_1]
  rw [e]
  exact sl_m (by omega) (by omega) (sl_v (P := post) (pk_sub (by omega)) hp)
theorem sl_txw {post : Int32 → Prop} {i : Nat} (hL : L ≤ 260) (hi : i < 100) (hp : post (nI (sl_tx L xs i))) : wpL_txOf post L xs () (nI i) := by
  have b := sl_nt_b (L := L) (xs := xs)
  unfold sl_tx at hp
  unfold wpL_txOf
  refine sl_ntw hL ?_
  by_cases e : i < sl_nt L xs
  · rw [if_pos e] at hp
    exact br_f (nI_ge e (by omega)) hp
  · rw [if_neg e] at hp
    exact br_t (nI_le (by omega) (by omega)) (sl_cell hL (10 + 3 * i) (by omega) (sl_ix 10 3 i) (sl_ntw hL (sl_m b.1 (by omega) hp)))
theorem sl_rsw {post : Int32 → Prop} {i : Nat} (hL : L ≤ 260) (hi : i < 100) (hp : post (sl_rs L xs i)) : wpL_resOf post L xs () (nI i) := by
  have b := sl_p_b (L := L) (xs := xs)
  have a := sl_md_lt (v := sl_ce L xs (11 + 3 * i)) (k := sl_p L xs + 1) (by omega)
  unfold sl_rs at hp
  unfold wpL_resOf
  refine sl_pw hL (sl_cell hL (11 + 3 * i) (by omega) (sl_ix 11 3 i) ?_)
  rw [nI_1]
  refine sl_m (by omega) (by omega) ?_
  by_cases e : sl_md (sl_ce L xs (11 + 3 * i)) (sl_p L xs + 1) = sl_p L xs
  · rw [if_pos e] at hp
    exact br_t (by rw [e]) hp
  · rw [if_neg e] at hp
    exact br_f (fun z => e ((nI_eq (by omega) (by omega)).mp z)) hp
theorem sl_csw {post : Int32 → Prop} {i : Nat} (hL : L ≤ 260) (hi : i < 100) (hp : post (nI (sl_cs L xs i))) : wpL_costOf post L xs () (nI i) :=
  sl_cell hL (12 + 3 * i) (by omega) (sl_ix 12 3 i) (sl_m (k := 4) (by omega) (by omega) (sl_v (P := post) (nI_add 1 _) hp))
theorem sl_prw {post : Int32 → Prop} {i : Nat} (hL : L ≤ 260) (hi : i < 100) (hp : post (nI (sl_pr L xs i))) : wpL_prioOf post L xs () (nI i) := by
  have a := sl_md_lt (v := sl_ce L xs 3) (k := 16) (by omega)
  unfold wpL_prioOf
  refine sl_cell hL 3 (by omega) rfl (sl_m (k := 16) (by omega) (by omega) ?_)
  rw [show (7 : Int32) * nI i + nI (sl_md (sl_ce L xs 3) 16) = nI (7 * i + sl_md (sl_ce L xs 3) 16) from by rw [show (7 : Int32) = nI 7 from rfl, pk_mul, nI_add]]
  refine sl_m (k := 16) (by omega) (by omega) ?_
  rw [sl_md_nI (by omega) (by omega)]
  exact sl_v (P := post) (nI_add 1 _) hp
theorem sl_pr4 {post : Int32 → Prop} {i : Nat} (hL : L ≤ 260) (hi : i < 16) : ∀ d j, j + d = i → post (sn_L (fun s => nI (sl_tx L xs s)) (nI (sl_tx L xs i)) i) → wL_pred_4 post L xs (nI i) (d + 1) (sn_L (fun s => nI (sl_tx L xs s)) (nI (sl_tx L xs i)) j) (nI j) := by
  intro d
  induction d with
  | zero =>
    intro j hj hp
    have e : j = i := by omega
    subst e
    exact br_t (nI_le (by omega) (by omega)) hp
  | succ d ih =>
    intro j hj hp
    have z := ih (j + 1) (by omega) hp
    simp only [sn_L] at z
    refine br_f (nI_ge (by omega) (by omega)) (sl_txw hL (by omega) (sl_txw hL (by omega) ?_))
    by_cases e : nI (sl_tx L xs j) = nI (sl_tx L xs i)
    · rw [if_pos e] at z
      exact br_t e (nm_r (nI_1 j) z)
    · rw [if_neg e] at z
      exact br_f e (nm_r (nI_1 j) z)
theorem sl_prd {post : Int32 → Prop} {i : Nat} (hL : L ≤ 260) (hi : i < 16) (hp : post (sn_L (fun s => nI (sl_tx L xs s)) (nI (sl_tx L xs i)) i)) : wpL_pred post L xs () (nI i) := ⟨i + 1, sl_pr4 hL hi i 0 (by omega) hp⟩
end
