/-! analyse -/
theorem i_vc_analyse {k : Nat} {u : SX} {v : SY} (I : i_Rel k u v) (hk : k + 5 ≤ 2562) : wpX_analyse (fun r u' => wpY_analyse (fun r' v' => r' = r ∧ i_Rel (k + 5) u' v') v) u := by
  have I' : i_Rel (k + 5) u v := I
  obtain ⟨c, n, p, kk, sT, tM, fR, pe, dl, hd, tl, os, ga, tx, rs, cs, pr, pd, nx, bX, na, fl, aa, co, ov, mx, rm, sX, lX, sY, dY, bY, nY, lY, rfl, rfl, hs, hf, hch, hsi, ha⟩ := I
  have hH := an_H0 hs.1 (by omega) hf hch
  unfold wpX_analyse
  refine sm_xc hs.1 (fun h0 hcm => ?_) (fun h0 => ?_)
  · refine br_f sm_1 (an_xana (rs := rs) (pr := pr) hH (fun R b hI hF hb => ?_))
    have fin : ∀ (r : Int32) (st : Int32), (((∀ j, j < n → ¬ R j = 1000000) ∧ r = 1) ∨ ((¬ ∀ j, j < n → ¬ R j = 1000000) ∧ r = 2)) → wpY_analyse (fun r' v' => r' = r ∧ i_Rel (k + 5) (nI p, nI kk, nI c, nI n, r, tM, fR, pe, dl, hd, tl, os, ga, tx, rs, cs, pr, pd, nx, b, na, fl, aa, co, ov, mx, rm, sX, lX) v') (nI p, nI kk, nI c, nI n, sT, tM, fR, pe, dl, os, ga, na, aa, co, ov, mx, fl, tx, rs, cs, pr, rm, sY, dY, bY, nY, lY) := by
      intro r st hr
      unfold wpY_analyse
      refine sm_yc hs.1 (by omega) hch.1 (fun _ _ => br_f sm_1 (an_yana hH hch.2.2.1 (fun R' b' q' hI' hF' hb' => ?_))) (fun z => absurd ⟨h0, hcm⟩ z)
      have eR := fx_end hI hI' hF hF'
      have rel : ∀ st, i_Rel (k + 5) (nI p, nI kk, nI c, nI n, st, tM, fR, pe, dl, hd, tl, os, ga, tx, rs, cs, pr, pd, nx, b, na, fl, aa, co, ov, mx, rm, sX, lX) (nI p, nI kk, nI c, nI n, st, tM, fR, pe, dl, os, ga, na, aa, co, ov, mx, fl, tx, rs, cs, pr, rm, sY, dY, b', q', lY) := fun st =>
        ⟨c, n, p, kk, st, tM, fR, pe, dl, hd, tl, os, ga, tx, rs, cs, pr, pd, nx, b, na, fl, aa, co, ov, mx, rm, sX, lX, sY, dY, b', q', lY, rfl, rfl, hs, hf, hch, hsi, Or.inr ⟨hcm, R, fun s hs' => ⟨hI.1 s hs', hb s hs', by rw [hb' s hs', eR s hs']⟩⟩⟩
      have same : (∀ j, j < n → ¬ R' j = 1000000) ↔ ∀ j, j < n → ¬ R j = 1000000 := ⟨fun z j hj => by rw [eR j hj]; exact z j hj, fun z j hj => by rw [← eR j hj]; exact z j hj⟩
      refine ⟨fun z => ?_, fun z => ?_⟩
      · rcases hr with ⟨_, rfl⟩ | ⟨w, _⟩
        · exact ⟨rfl, rel 1⟩
        · exact absurd (same.mp z) w
      · rcases hr with ⟨w, _⟩ | ⟨_, rfl⟩
        · exact absurd (same.mpr w) z
        · exact ⟨rfl, rel 2⟩
    exact ⟨fun z => fin 1 1 (Or.inl ⟨z, rfl⟩), fun z => fin 2 2 (Or.inr ⟨z, rfl⟩)⟩
  · refine br_t rfl ?_
    unfold wpY_analyse
    exact sm_yc hs.1 (by omega) hch.1 (fun a b => absurd ⟨a, b⟩ h0) (fun _ => br_t rfl ⟨rfl, I'⟩)
