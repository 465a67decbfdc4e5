/-! small rows of my own -/
theorem bs_ne {i : Nat} (h : i < 2 ^ 31) : ¬ nI i = -1 := by
  intro e
  have a := nI_pos (n := i) h
  rw [e] at a
  exact a (by decide)
theorem bs_upd_self (f : Nat → Int32) (k : Nat) : upd f k (f k) = f := by
  funext j
  by_cases e : j = k
  · rw [e, pk_us]
  · rw [pk_un e]
theorem bs_b0 : vp_nar .boolean 0 = 0 := by decide
theorem bs_b1 : vp_nar .boolean 1 = 1 := by decide
/-- the first i places from g, the rest from f -/
def bs_mz (f g : Nat → Int32) (i : Nat) : Nat → Int32 := fun j => if j < i then g j else f j
theorem bs_mz0 (f g : Nat → Int32) : bs_mz f g 0 = f := by
  funext j
  exact if_neg (Nat.not_lt_zero j)
theorem bs_mzs (f g : Nat → Int32) (i : Nat) : upd (bs_mz f g i) i (g i) = bs_mz f g (i + 1) := by
  funext j
  by_cases e : j = i
  · subst e
    rw [pk_us]
    exact (if_pos (Nat.lt_succ_self j)).symm
  · rw [pk_un e]
    by_cases h : j < i
    · exact (if_pos h).trans (if_pos (by omega : j < i + 1)).symm
    · exact (if_neg h).trans (if_neg (by omega : ¬ j < i + 1)).symm
theorem bs_mz_lt {f g : Nat → Int32} {i j : Nat} (h : j < i) : bs_mz f g i j = g j := if_pos h
theorem bs_mz_ge {f g : Nat → Int32} {i j : Nat} (h : i ≤ j) : bs_mz f g i j = f j := if_neg (by omega)
theorem bs_mz_all {f : Nat → Int32} {v : Int32} {i : Nat} (h : ∀ j, i ≤ j → f j = v) : bs_mz f (fun _ => v) i = fun _ => v := by
  funext j
  by_cases e : j < i
  · exact if_pos e
  · exact (if_neg e).trans (h j (by omega))
theorem bs_mz_more {f : Nat → Int32} {v : Int32} {i k : Nat} (h : ∀ j, i ≤ j → f j = v) (hk : i ≤ k) : bs_mz f (fun _ => v) k = fun _ => v := bs_mz_all (fun j hj => h j (by omega))
