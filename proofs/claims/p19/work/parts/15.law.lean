/-! the law -/
section
variable {N s L : Nat} {fm : Int32} {xs : Nat → Int32}
theorem pz_cell {post : Int32 → Prop} {j : Nat} (hL : L ≤ 260) (hj : j ≤ 400) (hp : ∀ y, post y) : wpL_cell post L xs () (nI j) := by
  by_cases c : L ≤ j
  · exact br_t (nI_le c (by omega)) (hp _)
  · exact br_f (nI_ge (by omega) (by omega)) ⟨vp_in_nI (by omega) (by omega), hp _⟩
theorem pz_mod {post : Int32 → Prop} {M : Nat} (h0 : 0 < M) (hM : M ≤ 400) (x : Int32) (hp : ∀ t, t < M → post (nI t)) : wpL_mod post () x (nI M) := by
  have hM' : (nI M).toInt = (M : Int) := nI_toInt (by omega)
  have e := rem_toInt x (nI M)
  rw [hM'] at e
  obtain ⟨b1, b2⟩ := tmod_bounds (a := x.toInt) (M := (M : Int)) (by omega)
  refine ⟨nI_ne0 h0 (by omega), nm_e ?_⟩
  generalize x - x / nI M * nI M = y at e ⊢
  by_cases c : (0 : Int32) ≤ y
  · have c' : ¬ y < 0 := Int32.not_lt.mpr c
    obtain ⟨t, ht, rfl⟩ := nI_of c'
    rw [nI_toInt ht] at e
    exact br_t c (hp t (by omega))
  · refine br_f c ?_
    rw [Int32.le_iff_toInt_le, dq_t0] at c
    have a := dq_add (a := y) (b := nI M) (by omega) (by omega)
    have z : y + nI M = nI (y.toInt + (M : Int)).toNat := by
      apply Int32.toInt_inj.mp
      rw [a, hM', nI_toInt (by omega)]
      omega
    rw [z]
    exact hp _ (by omega)
theorem pz_loop {kc ks : Nat} (hL : L ≤ 260) (n2 : 2 ≤ N) (hN : N ≤ 32) : ∀ e i, L ≤ i + 4 * e → i ≤ 300 → ∀ n, e < n → ∀ (s : Nat) (fe : Int32) (W ds ho pa tD tH ds' ho' pa' tD' tH' : Nat → Int32), pv_ok W N s ds ho pa → pv_ok W N s ds' ho' pa' → wL_law_69 (fun r => r = 1) L xs kc ks n (nI i) (nI N) fm (nI s) fe (rq_cnt (dq_seq W N s (1024 * N)).1 N) W ds ho pa tD tH (nI N) fm (nI s) fe (rq_cnt (dq_seq W N s (1024 * N)).1 N) W ds' ho' pa' tD' tH' := by
  intro e
  induction e with
  | zero =>
    intro i h1 h2 n hn s fe W ds ho pa tD tH ds' ho' pa' tD' tH' I I'
    obtain ⟨n', rfl⟩ : ∃ n', n = n' + 1 := ⟨n - 1, by omega⟩
    exact br_t (nI_le (by omega) (by omega)) rfl
  | succ e ih =>
    intro i h1 h2 n hn s fe W ds ho pa tD tH ds' ho' pa' tD' tH' I I'
    obtain ⟨n', rfl⟩ : ∃ n', n = n' + 1 := ⟨n - 1, by omega⟩
    by_cases c : L ≤ i
    · exact br_t (nI_le c (by omega)) rfl
    have e1 : nI i + 1 = nI (i + 1) := nI_add i 1
    have e2 : nI i + 2 = nI (i + 2) := nI_add i 2
    have e3 : nI i + 3 = nI (i + 3) := nI_add i 3
    have e4 : nI i + 4 = nI (i + 4) := nI_add i 4
    obtain ⟨_, _, hs, hW, hok, hf⟩ := I
    have hf' := I'.2.2.2.2.2
    refine br_f (nI_ge (by omega) (by omega)) (px_vc ?_)
    refine br_f (nI_nlt (b := 2) n2 (by omega)) (br_t (nI_le (b := 32) hN (by omega)) ?_)
    refine pz_cell hL (by omega) fun y0 => pz_mod (M := 8) (by decide) (by decide) y0 fun op _ => ?_
    rw [e1]
    refine pz_cell hL (by omega) fun y1 => pz_mod (by omega) (by omega) y1 fun u hu => ?_
    rw [e2]
    refine pz_cell hL (by omega) fun y2 => pz_mod (by omega) (by omega) y2 fun v hv => ?_
    rw [e3]
    refine pz_cell hL (by omega) fun y3 => pz_mod (M := 241) (by decide) (by decide) y3 fun t ht => ?_
    refine fun w ew => ?_
    have w0 : w.toInt = (t : Int) - 80 := by
      have t80 : (80 : Int32).toInt = 80 := by decide
      rw [ew, Int32.toInt_sub, nI_toInt (by omega), t80]
      exact Int.bmod_eq_of_le (by omega) (by omega)
    have w1 : ¬ w < -1000 := by
      rw [Int32.lt_iff_toInt_lt, w0, show (-1000 : Int32).toInt = -1000 by decide]
      omega
    have w2 : ¬ 1000 < w := by
      rw [Int32.lt_iff_toInt_lt, w0, show (1000 : Int32).toInt = 1000 by decide]
      omega
    obtain ⟨r, s', fe', W', q1, q2, q3, q4, q5⟩ := po_apply (fm := fm) (fe := fe) (nI op) hN hs hW hok hu hv w1 w2 (by omega) (by omega)
    refine q5 _ ds ho pa tD tH hf fun ds1 ho1 pa1 tD1 tH1 hf1 => ?_
    have I1 : pv_ok W' N s' ds1 ho1 pa1 := ⟨n2, hN, q1, q2, q3, hf1⟩
    rcases q4 with r0 | ⟨r1, z1, z2, z3⟩
    · refine br_t r0 ?_
      refine q5 _ ds' ho' pa' tD' tH' hf' fun ds2 ho2 pa2 tD2 tH2 hf2 => ?_
      refine pv_valid I1 (br_f yn_10 (nm_r e4 ?_))
      exact ih (i + 4) (by omega) (by omega) n' (by omega) s' fe' W' ds1 ho1 pa1 tD1 tH1 ds2 ho2 pa2 tD2 tH2 I1 ⟨n2, hN, q1, q2, q3, hf2⟩
    · subst z1 z2 z3
      refine br_f (by rw [r1]; exact yn_10) ?_
      refine ps_same I1 I' (br_f yn_10 ?_)
      refine pv_valid I1 (br_f yn_10 (nm_r e4 ?_))
      exact ih (i + 4) (by omega) (by omega) n' (by omega) _ _ _ ds1 ho1 pa1 tD1 tH1 ds' ho' pa' tD' tH' I1 I'
theorem pz_clr : dq_gr xl_clr := fun _ hx => Or.inl (xl_clr1 hx)
theorem pz_init {post : St2 → Prop} {k0 k1 k2 : Int32} {N s m : Nat} (hN0 : 2 ≤ N) (hN : N ≤ 32) (hs : s < N) (h0 : xl_is k0 2 32 N) (h1 : xl_is k1 0 (N - 1) s) (h2 : xl_is k2 1 128 m)
    (hp : ∀ ds ho pa tD tH : Nat → Int32, xf_ok xl_clr N s ds ho pa → post (nI N, nI m, nI s, 0, rq_cnt (dq_seq xl_clr N s (1024 * N)).1 N, xl_clr, ds, ho, pa, tD, tH)) : wpX_init post 6 1184 (0, 0, 0, 0, 0) k0 k1 k2 := by
  have e1 : nI N - 1 = nI (N - 1) := pk_sub (b := 1) (by omega)
  unfold wpX_init
  refine ⟨by decide, by decide, by decide, by decide, by decide, by decide, by decide, by decide, by decide, by decide, by decide, by decide, ?_⟩
  refine xl_cx h0 ?_
  rw [e1]
  refine xl_cx h1 (xl_cx h2 ?_)
  refine ⟨1025, xl_cw ?_ 1024 0 (by omega) 1025 (by decide) _ (fun x => ⟨fun hx => absurd hx (Nat.not_lt_zero _), fun _ => rfl⟩)⟩
  exact xc_rec hN (by omega) hs pz_clr fun ds ho pa tD tH z => hp ds ho pa tD tH z
theorem i_vc (xs : Nat → Int32) (L : Nat) (hL : L ≤ 260) : wpL_law (fun r => r = 1) L xs := by
  unfold wpL_law
  refine pz_cell (j := 0) hL (by decide) fun y0 => pz_mod (M := 7) (by decide) (by decide) y0 fun t0 _ => nm_e ?_
  refine pz_cell (j := 1) hL (by decide) fun y1 => ?_
  refine pz_cell (j := 2) hL (by decide) fun y2 => pz_mod (M := 60) (by decide) (by decide) y2 fun t2 _ => nm_e ?_
  obtain ⟨N, a1, a2, h0⟩ := xl_clamp (2 + nI t0) (a := 2) (b := 32) (by decide) (by decide)
  obtain ⟨s, b1, b2, h1⟩ := xl_clamp y1 (a := 0) (b := N - 1) (by omega) (by omega)
  obtain ⟨m, c1, c2, h2⟩ := xl_clamp (4 + nI t2) (a := 1) (b := 128) (by decide) (by decide)
  refine ⟨6, 1184, by decide, by decide, ?_⟩
  refine pz_init a1 a2 (by omega) h0 h1 h2 fun ds ho pa tD tH hf => ?_
  refine ⟨by decide, by decide, 6, 1184, by decide, by decide, ?_⟩
  refine pz_init a1 a2 (by omega) h0 h1 h2 fun ds' ho' pa' tD' tH' hf' => ?_
  have ok : dq_ok xl_clr N s := dq_ok0 a2 (fun _ => xl_clr1)
  have I : pv_ok xl_clr N s ds ho pa := ⟨a1, a2, by omega, pz_clr, ok, hf⟩
  have I' : pv_ok xl_clr N s ds' ho' pa' := ⟨a1, a2, by omega, pz_clr, ok, hf'⟩
  exact pv_valid I (br_f yn_10 ⟨66, pz_loop hL a1 a2 65 3 (by omega) (by decide) 66 (by decide) s 0 xl_clr ds ho pa tD tH ds' ho' pa' tD' tH' I I'⟩)
end
