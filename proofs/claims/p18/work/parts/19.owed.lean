/-! the law -/
theorem i_vc (xs : Nat → Int32) (L : Nat) (hL : L ≤ 260) : wpL_law (fun r => r = 1) L xs := by
  have b3 := sl_p_b (L := L) (xs := xs)
  unfold wpL_law
  refine sl_ntw hL (sl_nsw hL (sl_pw hL ⟨22, 249, by omega, by omega, ?_⟩))
  unfold wpX_init
  refine ⟨by omega, by omega, by omega, by omega, by omega, by omega, by omega, by omega, by omega, by omega, by omega, by omega, by omega, by omega, by omega, by omega, by omega, by omega, by omega, by omega, by omega, by omega, by omega, by omega, by omega, by omega, by omega, by omega, by omega, by omega, by omega, by omega, by omega, by omega, by omega, by omega, by omega, by omega, by omega, by omega, by omega, by omega, by omega, by omega, ?_⟩
  refine br_t (nI_le (a := 1) (b := sl_p L xs) b3.1 (by omega)) (br_t (nI_le (a := sl_p L xs) (b := 4) b3.2 (by omega)) (br_t (by decide) (br_t (by decide) ?_)))
  refine rs_x (c := 0) (n := 0) (by omega) (by omega) ?_
  exact ⟨sl_nt L xs + 1, la_30 hL rfl rfl rfl (sl_nt L xs) 0 _ _ _ _ _ _ _ _ _ _ _ _ _ _ _ _ _ _ _ _ _ _ _ _ (by omega) (fun x hx => by omega) ⟨fun x hx => by omega, fun x hx => by omega, fun x hx => by omega, fun x hx => by omega⟩ (pv_rst (c := 0) (n := 0) (aaN := fun _ => 0) (fun x hx => by omega) (fun x hx => by omega) (fun x hx => by omega)) (fun x hx => rfl)⟩
