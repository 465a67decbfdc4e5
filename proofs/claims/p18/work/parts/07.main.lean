section
variable {n H : Nat} {rs pr pd : Nat → Int32} {C T D R : Nat → Nat} {d e cv al : Nat → Nat → Nat}
/-- the demand of the more urgent steps in a window that nothing of theirs reaches into -/
theorem tq_hdem (hT : tq_Tr n H pd C T d e cv al) {J : Nat → Nat} {s a L : Nat} (hTp : ∀ j, j < n → 1 ≤ T j) (h0 : ∀ j, j < n → rs j = rs s ∧ pr s < pr j → cv a j = 0) (h : a + L ≤ H) (hJ : ∀ r j, r < a + L → j < n → e r j = 1 → r ≤ al r j + J j) : tq_hs rs pr s (fun j => tq_w (fun i => d i j) a L) n + tq_hs rs pr s (cv (a + L)) n ≤ fx_sm rs pr C T J s L n := by
  rw [tq_sm, ← tq_hs_add]
  exact tq_hs_le n (fun j hj hp => tq_dem hT hj (hTp j hj) (h0 j hj hp) h (fun r hr => hJ r j hr hj))
/-- a processor: in a window that the more urgent work fills up to the release, and the step from there on -/
theorem tq_proc (hT : tq_Tr n H pd C T d e cv al) (hP : tq_Pr n H rs pr C d e cv) {J : Nat → Nat} {s t r t0 : Nat} (hs : s < n) (h8 : ¬ rs s = 8) (ht : t < H) (hTp : ∀ j, j < n → 1 ≤ T j) (hCs : 1 ≤ C s)
    (hJ : ∀ r j, r ≤ t → j < n → e r j = 1 → r ≤ al r j + J j)
    (hr : r ≤ t) (hi : ∀ i, i ≤ t - r → 0 < cv (r + i) s + C s * e (r + i) s ∧ tq_w (fun u => d u s) r i + (cv (r + i) s + C s * e (r + i) s) = C s)
    (ht0 : t0 ≤ r) (h0 : ∀ j, j < n → rs j = rs s ∧ pr s < pr j → cv t0 j = 0) (hb : ∀ u, t0 < u → u ≤ r → ∃ j, j < n ∧ (rs j = rs s ∧ pr s < pr j) ∧ 0 < cv u j) :
    (∀ L, t0 + L ≤ t → L < C s + fx_sm rs pr C T J s L n) ∧ (t - t0) + (cv t s + C s * e t s) ≤ C s + fx_sm rs pr C T J s (t - t0) n := by
  have dem : ∀ L, t0 + L ≤ t → tq_hs rs pr s (fun j => tq_w (fun i => d i j) t0 L) n + tq_hs rs pr s (cv (t0 + L)) n ≤ fx_sm rs pr C T J s L n :=
    fun L hL => tq_hdem hT hTp h0 (by omega) (fun q j hq => hJ q j (by omega))
  -- up to the release
  have early : ∀ L, t0 + L ≤ r → L ≤ tq_hs rs pr s (fun j => tq_w (fun i => d i j) t0 L) n := by
    intro L
    induction L with
    | zero => intro _; omega
    | succ L ih =>
      intro hL
      have x := ih (by omega)
      rw [tq_hsw]
      obtain ⟨j, hj, hp, hc⟩ := hb (t0 + L + 1) (by omega) (by omega)
      have b := hT.2.2.1 (t0 + L) j (by omega) hj
      have h8j : ¬ rs j = 8 := by rw [hp.1]; exact h8
      obtain ⟨k, hk, e1, e2, e3⟩ := hP (t0 + L) j (by omega) hj h8j (by omega)
      have hpk : rs k = rs s ∧ pr s < pr k := by
        rcases e3 with z | z
        · rw [z]; exact hp
        · exact ⟨by rw [e1, hp.1], Int32.lt_trans hp.2 z⟩
      have y := tq_hs_ge (g := d (t0 + L)) hpk n hk
      omega
  -- from the release on
  have late : ∀ i, i ≤ t - r → (r - t0) + i ≤ tq_hs rs pr s (fun j => tq_w (fun u => d u j) t0 ((r - t0) + i)) n + tq_w (fun u => d u s) r i := by
    intro i
    induction i with
    | zero =>
      intro _
      have x := early (r - t0) (by omega)
      simp only [tq_w, Nat.add_zero]
      exact x
    | succ i ih =>
      intro hL
      have x := ih (by omega)
      have y := (hi i (by omega)).1
      rw [show (r - t0) + (i + 1) = (r - t0) + i + 1 from rfl, tq_hsw, show t0 + ((r - t0) + i) = r + i from by omega]
      simp only [tq_w]
      obtain ⟨k, hk, e1, e2, e3⟩ := hP (r + i) s (by omega) hs h8 y
      rcases e3 with z | z
      · subst z
        omega
      · have w := tq_hs_ge (g := d (r + i)) (⟨e1, z⟩ : rs k = rs s ∧ pr s < pr k) n hk
        omega
  have full : ∀ i, i ≤ t - r → (r - t0) + i + (cv (r + i) s + C s * e (r + i) s) ≤ C s + fx_sm rs pr C T J s ((r - t0) + i) n := by
    intro i hi'
    have x := late i hi'
    have y := (hi i hi').2
    have z := dem ((r - t0) + i) (by omega)
    omega
  refine ⟨fun L hL => ?_, ?_⟩
  · by_cases q : t0 + L ≤ r
    · by_cases z : L = 0
      · subst z; omega
      · have x := early L q
        have y := dem L hL
        obtain ⟨j, hj, hp, hc⟩ := hb (t0 + L) (by omega) q
        have w := tq_hs_ge (g := cv (t0 + L)) hp n hj
        omega
    · have x := full (t0 + L - r) (by omega)
      have y := (hi (t0 + L - r) (by omega)).1
      rw [show (r - t0) + (t0 + L - r) = L from by omega] at x
      omega
  · have x := full (t - r) (Nat.le_refl _)
    rw [show r + (t - r) = t from by omega, show (r - t0) + (t - r) = t - t0 from by omega] at x
    exact x
/-- the bus: a frame that isn't more urgent than s, at work in a window where s or something more urgent waits, has been at work since before the window -/
theorem tq_cont (hT : tq_Tr n H pd C T d e cv al) (hB : tq_Bu n H rs pr C d e cv) {s t0 M j : Nat} (hs : s < n) (h8 : rs s = 8) (hM : t0 + M < H) (hj : j < n) (hj8 : rs j = 8) (hnp : ¬ (rs j = rs s ∧ pr s < pr j))
    (hw : ∀ i, i ≤ M → (∃ k, k < n ∧ (rs k = rs s ∧ pr s < pr k) ∧ 0 < cv (t0 + i) k + C k * e (t0 + i) k) ∨ (0 < cv (t0 + i) s + C s * e (t0 + i) s ∧ d (t0 + i) s = 0)) :
    ∀ i, i ≤ M → d (t0 + i) j = 1 → i + 1 + cv (t0 + i + 1) j = cv t0 j ∧ 0 < t0 ∧ d (t0 - 1) j = 1 := by
  have go : ∀ i, i ≤ M → d (t0 + i) j = 1 → 0 < t0 + i ∧ d (t0 + i - 1) j = 1 ∧ 0 < cv (t0 + i) j ∧ 1 + cv (t0 + i + 1) j = cv (t0 + i) j := by
    intro i hi hd
    rcases hB.2.1 (t0 + i) j (by omega) hj hj8 hd with x | ⟨x1, x2, x3⟩
    · exfalso
      rcases hw i hi with ⟨k, hk, hp, hc⟩ | ⟨hc, h0⟩
      · rcases x k hk (by rw [hp.1]; exact h8) hc with z | z
        · rw [z] at hp; exact hnp hp
        · exact hnp ⟨by rw [hj8, h8], Int32.lt_trans hp.2 z⟩
      · rcases x s hs h8 hc with z | z
        · rw [z] at h0; omega
        · exact hnp ⟨by rw [hj8, h8], z⟩
    · have z := (hT.1 (t0 + i) j (by omega) hj).2
      have q0 : e (t0 + i) j = 0 := by
        by_cases q : e (t0 + i) j = 1
        · have := hT.2.2.2.1 (t0 + i) j (by omega) hj q
          omega
        · omega
      have b := hT.2.2.1 (t0 + i) j (by omega) hj
      rw [q0, Nat.mul_zero, hd] at b
      exact ⟨x1, x2, x3, by omega⟩
  intro i
  induction i with
  | zero =>
    intro hi hd
    have x := go 0 hi hd
    simp only [Nat.add_zero] at x ⊢
    exact ⟨by omega, x.1, x.2.1⟩
  | succ i ih =>
    intro hi hd
    have x := go (i + 1) hi hd
    have y : d (t0 + i) j = 1 := x.2.1
    obtain ⟨a, b, c⟩ := ih (by omega) y
    refine ⟨?_, b, c⟩
    have w := x.2.2.2
    rw [show t0 + (i + 1) = t0 + i + 1 from rfl] at w ⊢
    omega
theorem tq_bus (hT : tq_Tr n H pd C T d e cv al) (hB : tq_Bu n H rs pr C d e cv) (hu : ∀ i j, i < n → j < n → rs i = rs j → pr i = pr j → i = j) {J : Nat → Nat} {s t0 M : Nat} (hs : s < n) (h8 : rs s = 8) (hM : t0 + M < H) (hTp : ∀ j, j < n → 1 ≤ T j) (hCs : 1 ≤ C s)
    (hJ : ∀ r j, r ≤ t0 + M → j < n → e r j = 1 → r ≤ al r j + J j)
    (h0 : ∀ j, j < n → rs j = rs s ∧ pr s < pr j → cv t0 j = 0)
    (hw : ∀ i, i ≤ M → (∃ k, k < n ∧ (rs k = rs s ∧ pr s < pr k) ∧ 0 < cv (t0 + i) k + C k * e (t0 + i) k) ∨ (0 < cv (t0 + i) s + C s * e (t0 + i) s ∧ d (t0 + i) s = 0)) :
    M < fx_bl rs pr C s n + fx_sm rs pr C T J s (M + 1) n := by
  have hB1 : 1 ≤ fx_bl rs pr C s n := Nat.le_trans hCs (tq_bl_self C n)
  have fill : ∀ i, i ≤ M + 1 → i + 1 ≤ fx_bl rs pr C s n + tq_hs rs pr s (fun j => tq_w (fun u => d u j) t0 i) n := by
    intro i
    induction i with
    | zero => intro _; omega
    | succ i ih =>
      intro hi
      have x := ih (by omega)
      rw [tq_hsw]
      have busy : ∃ j, j < n ∧ rs j = 8 ∧ d (t0 + i) j = 1 := by
        rcases hw i (by omega) with ⟨k, hk, hp, hc⟩ | ⟨hc, _⟩
        · exact hB.1 (t0 + i) k (by omega) hk (by rw [hp.1]; exact h8) hc
        · exact hB.1 (t0 + i) s (by omega) hs h8 hc
      obtain ⟨j, hj, hj8, hd⟩ := busy
      by_cases hp : rs j = rs s ∧ pr s < pr j
      · have y := tq_hs_ge (g := d (t0 + i)) hp n hj
        omega
      · obtain ⟨a, b, c⟩ := tq_cont hT hB hs h8 hM hj hj8 hp hw i (by omega) hd
        have q := hT.2.2.1 (t0 - 1) j (by omega) hj
        have w := tq_rhoC hT hj (t := t0 - 1) (by omega)
        rw [show t0 - 1 + 1 = t0 from by omega, c] at q
        have hCj : C j ≤ fx_bl rs pr C s n := by
          by_cases z : pr j = pr s
          · have := hu j s hj hs (by rw [hj8, h8]) z
            rw [this]; exact tq_bl_self C n
          · have lt : pr j < pr s := by
              have nl : ¬ pr s < pr j := fun w => hp ⟨by rw [hj8, h8], w⟩
              exact Int32.lt_of_le_of_ne (Int32.not_lt.mp nl) z
            exact tq_bl_lp C ⟨by rw [hj8, h8], lt⟩ n hj
        omega
  have x := fill (M + 1) (Nat.le_refl _)
  have y := tq_hdem (L := M + 1) (a := t0) hT hTp h0 (by omega) (fun q j hq => hJ q j (by omega))
  omega
/-- no step is later than its bound -/
theorem tq_main (hc : fx_Cf n pd D) (hT : tq_Tr n H pd C T d e cv al) (hP : tq_Pr n H rs pr C d e cv) (hB : tq_Bu n H rs pr C d e cv) (hu : ∀ i j, i < n → j < n → rs i = rs j → pr i = pr j → i = j) (hC : ∀ j, j < n → 1 ≤ C j) (hTp : ∀ j, j < n → 1 ≤ T j) (hR : ∀ s, s < n → R s ≤ 200) (hF : ∀ s, s < n → fx_Fr n rs pr pd C T D R s (R s)) :
    ∀ t, t < H → ∀ s, s < n → 0 < cv t s + C s * e t s → t + (cv t s + C s * e t s) ≤ al t s + R s := by
  intro t
  induction t using Nat.strongRecOn with
  | _ t ih =>
    intro ht s hs hpos
    have hJ : ∀ r j, r ≤ t → j < n → e r j = 1 → r ≤ al r j + fx_J pd R j := by
      intro r j hr hj he
      obtain ⟨_, x⟩ := hT.2.2.2.2.2.1 r j (by omega) hj he
      unfold fx_J
      rcases x with ⟨x1, x2⟩ | ⟨x1, x2, x3, x4, x5, x6⟩
      · rw [if_pos x1]; omega
      · rw [if_neg x1]
        have b := hT.2.2.1 (r - 1) _ (by omega) x2
        rw [show r - 1 + 1 = r from by omega, x4, x5] at b
        have y := ih (r - 1) (by omega) (by omega) _ x2 (by omega)
        omega
    obtain ⟨r, hr, he, hal, hi⟩ := tq_rel hT hs t ht hpos
    obtain ⟨t0, ht0, h0, hb⟩ := tq_start (rs := rs) (pr := pr) hT s r
    have hjr := hJ r s hr hs he
    rw [hal] at hjr
    have hRs := hR s hs
    obtain ⟨w, ew, lw, hw, er⟩ : ∃ w, fx_f n rs pr pd C T R s w = w ∧ (∀ u, u < w → fx_f n rs pr pd C T R s u ≠ u) ∧ fx_out rs pd C R s + w ≤ D s ∧ R s = fx_out rs pd C R s + w := by
      rcases hF s hs with ⟨_, q⟩ | ⟨_, q | ⟨_, q⟩⟩
      · omega
      · exact q
      · omega
    by_cases h8 : rs s = 8
    · -- the bus
      have ef : ∀ u, fx_f n rs pr pd C T R s u = fx_bl rs pr C s n + fx_sm rs pr C T (fx_J pd R) s (u + 1) n := by
        intro u
        unfold fx_f fx_base fx_lead
        rw [if_pos h8, if_pos h8]
      have eo : fx_out rs pd C R s = fx_J pd R s + C s := by unfold fx_out; rw [if_pos h8]
      -- until it is the frame
      have wait : ∀ u, r ≤ u → u ≤ t → (∀ v, r ≤ v → v ≤ u → d v s = 0) → u < t0 + w := by
        intro u h1 h2 h3
        have lt : ∀ M, M ≤ u - t0 → M < fx_f n rs pr pd C T R s M := by
          intro M hM
          rw [ef]
          refine tq_bus hT hB hu hs h8 (t0 := t0) (M := M) (by omega) hTp (hC s hs) (fun q j hq => hJ q j (by omega)) h0 (fun i hiM => ?_)
          by_cases q : t0 + i < r
          · obtain ⟨j, hj, hp, hcv⟩ := hb (t0 + i + 1) (by omega) (by omega)
            have b := hT.2.2.1 (t0 + i) j (by omega) hj
            exact Or.inl ⟨j, hj, hp, by omega⟩
          · have x := (hi (t0 + i - r) (by omega)).1
            rw [show r + (t0 + i - r) = t0 + i from by omega] at x
            exact Or.inr ⟨x, h3 (t0 + i) (by omega) (by omega)⟩
        by_cases q : u < t0 + w
        · exact q
        · have := lt w (by omega)
          omega
      by_cases q : ∃ v, r ≤ v ∧ v < t ∧ d v s = 1
      · -- it has begun: take the first tick of its work
        have first : ∃ v, (r ≤ v ∧ v < t ∧ d v s = 1) ∧ ∀ u, u < v → ¬ (r ≤ u ∧ u < t ∧ d u s = 1) := by
          obtain ⟨v, hv⟩ := q
          induction v using Nat.strongRecOn with
          | _ v ihv =>
            by_cases z : ∃ u, u < v ∧ (r ≤ u ∧ u < t ∧ d u s = 1)
            · obtain ⟨u, hu1, hu2⟩ := z
              exact ihv u hu1 hu2
            · exact ⟨v, hv, fun u hu1 hu2 => z ⟨u, hu1, hu2⟩⟩
        obtain ⟨v, ⟨hv1, hv2, hv3⟩, hvf⟩ := first
        have hv0 : ∀ u, r ≤ u → u < v → d u s = 0 := by
          intro u h1 h2
          have x := (hT.1 u s (by omega) hs).1
          have y := hvf u h2
          by_cases z : d u s = 1
          · exact absurd ⟨h1, by omega, z⟩ y
          · omega
        have hvw : v ≤ t0 + w ∨ v = r := by
          by_cases z : v = r
          · exact Or.inr z
          · have := wait (v - 1) (by omega) (by omega) (fun u h1 h2 => hv0 u h1 (by omega))
            exact Or.inl (by omega)
        -- no work before v
        have w0 : ∀ i, r + i ≤ v → tq_w (fun u => d u s) r i = 0 := by
          intro i
          induction i with
          | zero => intro _; rfl
          | succ i ihi =>
            intro hi'
            simp only [tq_w]
            rw [ihi (by omega), hv0 (r + i) (by omega) (by omega)]
        -- from v on it works in every tick
        have all : ∀ i, v + i < t → d (v + i) s = 1 := by
          intro i
          induction i with
          | zero => intro _; exact hv3
          | succ i ihi =>
            intro hi'
            have a := ihi (by omega)
            refine hB.2.2 (v + i) s (by omega) hs h8 a ?_
            have x := (hi (v + i + 1 - r) (by omega)).1
            rw [show r + (v + i + 1 - r) = v + i + 1 from by omega] at x
            have z := (hT.1 (v + i + 1) s (by omega) hs).2
            by_cases k : e (v + i + 1) s = 1
            · exfalso
              have y := (hi (v + i + 1 - r) (by omega)).2
              rw [show r + (v + i + 1 - r) = v + i + 1 from by omega, k, hT.2.2.2.1 (v + i + 1) s (by omega) hs k] at y
              have ge : ∀ m, v < r + m → 1 ≤ tq_w (fun u => d u s) r m := by
                intro m
                induction m with
                | zero => intro hm; omega
                | succ m ihm =>
                  intro hm
                  simp only [tq_w]
                  by_cases o : v < r + m
                  · have := ihm o
                    omega
                  · have : r + m = v := by omega
                    rw [this, hv3]; omega
              have := ge (v + i + 1 - r) (by omega)
              omega
            · have k0 : e (v + i + 1) s = 0 := by omega
              rw [k0, Nat.mul_zero] at x
              omega
        have ws : ∀ m, v + m ≤ t → tq_w (fun u => d u s) r (v - r + m) = m := by
          intro m
          induction m with
          | zero => intro _; rw [Nat.add_zero]; exact w0 (v - r) (by omega)
          | succ m ihm =>
            intro hm
            rw [show v - r + (m + 1) = v - r + m + 1 from rfl]
            simp only [tq_w]
            rw [ihm (by omega), show r + (v - r + m) = v + m from by omega, all m (by omega)]
        have x := (hi (t - r) (Nat.le_refl _)).2
        rw [show r + (t - r) = t from by omega] at x
        have y := ws (t - v) (by omega)
        rw [show v - r + (t - v) = t - r from by omega] at y
        omega
      · have hn : ∀ v, r ≤ v → v < t → d v s = 0 := by
          intro v h1 h2
          have x := (hT.1 v s (by omega) hs).1
          by_cases z : d v s = 1
          · exact absurd ⟨v, h1, h2, z⟩ q
          · omega
        have ub := tq_rhoC hT hs ht
        have htw : t ≤ t0 + w ∨ t = r := by
          by_cases z : t = r
          · exact Or.inr z
          · have := wait (t - 1) (by omega) (by omega) (fun u h1 h2 => hn u h1 (by omega))
            exact Or.inl (by omega)
        omega
    · -- a processor
      have ef : ∀ u, fx_f n rs pr pd C T R s u = C s + fx_sm rs pr C T (fx_J pd R) s u n := by
        intro u
        unfold fx_f fx_base fx_lead
        rw [if_neg h8, if_neg h8]
        rfl
      have eo : fx_out rs pd C R s = fx_J pd R s := by unfold fx_out; rw [if_neg h8]; rfl
      obtain ⟨p1, p2⟩ := tq_proc hT hP hs h8 ht hTp (hC s hs) hJ hr hi ht0 h0 hb
      have lt : t - t0 < w := by
        by_cases q : t - t0 < w
        · exact q
        · have x := p1 w (by omega)
          rw [← ef, ew] at x
          omega
      have mono := fx_f_le (rs := rs) (pr := pr) (C := C) (T := T) hc (fun t _ => Nat.le_refl (R t)) (s := s) (a := t - t0) (b := w) (by omega)
      rw [ew, ef] at mono
      omega
end
