/-! one statement a call -/
section
theorem i_vc_addEdge {k : Nat} {u : SX} {v : SY} (I : i_Rel k u v) (hk : k + 4 ≤ 2051) (v1 : Int32) (v2 : Int32) (v3 : Int32) : wpX_addEdge (fun r u' => wpY_addEdge (fun r' v' => r' = r ∧ i_Rel (k + 4) u' v') v v1 v2 v3) u v1 v2 v3 := by
  have J := i_up I
  obtain ⟨fn, fm, fs, fe, fr, W, ds, ho, pa, tD, tH⟩ := u
  obtain ⟨gn, gs, gm, gc, pr, wt, d, h, r⟩ := v
  obtain ⟨N, s, m, rfl, rfl, rfl, rfl, rfl, rfl, rfl, rfl, n2, hN, hs, hm, b1, b2, hg, hf, hok, hz⟩ := I
  rcases xv_cases hN v1 with a1 | ⟨i, hi, rfl⟩
  · exact xa_1 a1 (ya_1 a1 ⟨rfl, J⟩)
  rcases xv_cases hN v2 with a2 | ⟨j, hj, rfl⟩
  · exact xa_2 hN hi a2 (ya_2 hN hi a2 ⟨rfl, J⟩)
  rcases xw_cases v3 with a3 | ⟨w1, w2, w3, w4, w5, w6⟩
  · exact xa_3 hN hi hj a3 (ya_3 hN hi hj a3 ⟨rfl, J⟩)
  have hq := xn_k hN hi hj
  rcases hg (32 * i + j) hq with ⟨p0, e0⟩ | ⟨p1, e1, _, _, _⟩
  · by_cases f : fe < nI m
    · have f' := (xl_lt hm).mp f
      have hg' := xl_set (q := 32 * i + j) hg w4 w5 w6
      have nf : ¬ fe = nI m := fun z => by
        have z' := (xl_eq hm).mp z
        omega
      obtain ⟨c1, c2⟩ := xl_inc hm (by omega) b1 f'
      refine xa_6 hN (by omega) hs hi hj w1 w2 e0 f (yg_gr hg') (fun q tD tH => ?_) (fun q ds ho pa tD tH hf' => ?_)
      · exact ya_6 (W := W) hN (by omega) hs hi hj w1 w3 p0 nf hg' hz (fun _ => ⟨rfl, xl_mk n2 hN hs hm (by omega) b2 (xl_back hg e0) hf hok (xl_hi hs hN)⟩) (fun z => absurd z q)
      · exact ya_6 (W := W) hN (by omega) hs hi hj w1 w3 p0 nf hg' hz (fun z => absurd q z) (fun _ => ⟨rfl, xl_mk n2 hN hs hm c1 c2 hg' hf' (dq_qok (yg_gr hg') hN hs q) (xl_hi hs hN)⟩)
    · have f' : ¬ fe.toInt < (m : Int) := fun z => f ((xl_lt hm).mpr z)
      exact xa_5 hN hi hj w1 w2 e0 f (ya_5 hN hi hj w1 w3 p0 ((xl_eq hm).mpr (by omega)) ⟨rfl, J⟩)
  · exact xa_4 hN hi hj w1 w2 e1 (ya_4 hN hi hj w1 w3 (by rw [p1]; exact yn_10) ⟨rfl, J⟩)
theorem i_vc_setWeight {k : Nat} {u : SX} {v : SY} (I : i_Rel k u v) (hk : k + 4 ≤ 2051) (v1 : Int32) (v2 : Int32) (v3 : Int32) : wpX_setWeight (fun r u' => wpY_setWeight (fun r' v' => r' = r ∧ i_Rel (k + 4) u' v') v v1 v2 v3) u v1 v2 v3 := by
  have J := i_up I
  obtain ⟨fn, fm, fs, fe, fr, W, ds, ho, pa, tD, tH⟩ := u
  obtain ⟨gn, gs, gm, gc, pr, wt, d, h, r⟩ := v
  obtain ⟨N, s, m, rfl, rfl, rfl, rfl, rfl, rfl, rfl, rfl, n2, hN, hs, hm, b1, b2, hg, hf, hok, hz⟩ := I
  rcases xv_cases hN v1 with a1 | ⟨i, hi, rfl⟩
  · exact xb_1 a1 (yb_1 a1 ⟨rfl, J⟩)
  rcases xv_cases hN v2 with a2 | ⟨j, hj, rfl⟩
  · exact xb_2 hN hi a2 (yb_2 hN hi a2 ⟨rfl, J⟩)
  rcases xw_cases v3 with a3 | ⟨w1, w2, w3, w4, w5, w6⟩
  · exact xb_3 hN hi hj a3 (yb_3 hN hi hj a3 ⟨rfl, J⟩)
  have hq := xn_k hN hi hj
  rcases hg (32 * i + j) hq with ⟨p0, e0⟩ | ⟨p1, e1, ew, _, _⟩
  · exact xb_4 hN hi hj w1 w2 e0 (yb_4 hN hi hj w1 w3 p0 ⟨rfl, J⟩)
  have p1' : ¬ pr (32 * i + j) = 0 := by rw [p1]; exact yn_10
  have hg' := xl_put (q := 32 * i + j) hg p1 w4 w5 w6
  by_cases f : wt (32 * i + j) = v3
  · have es : upd W (32 * i + j) v3 = W := xl_same (by rw [← ew]; exact f)
    refine xb_6 hN (by omega) hs hi hj w1 w2 e1 (yg_gr hg') (fun q tD tH => ?_) (fun q ds ho pa tD tH hf' => ?_)
    · rw [es] at q
      exact absurd (dq_okq (yg_gr hg) hN hs hok) q
    · rw [es] at hf' ⊢
      exact yb_5 hN hi hj w1 w3 p1' f ⟨rfl, xl_mk n2 hN hs hm (by omega) b2 hg hf' hok hz⟩
  · refine xb_6 hN (by omega) hs hi hj w1 w2 e1 (yg_gr hg') (fun q tD tH => ?_) (fun q ds ho pa tD tH hf' => ?_)
    · exact yb_6 (W := W) hN (by omega) hs hi hj w1 w3 p1' f hg' hz (fun _ => ⟨rfl, by rw [xl_bk]; exact xl_mk n2 hN hs hm (by omega) b2 hg hf hok (xl_hi hs hN)⟩) (fun z => absurd z q)
    · exact yb_6 (W := W) hN (by omega) hs hi hj w1 w3 p1' f hg' hz (fun z => absurd q z) (fun _ => ⟨rfl, xl_mk n2 hN hs hm (by omega) b2 hg' hf' (dq_qok (yg_gr hg') hN hs q) (xl_hi hs hN)⟩)
theorem i_vc_removeEdge {k : Nat} {u : SX} {v : SY} (I : i_Rel k u v) (hk : k + 4 ≤ 2051) (v1 : Int32) (v2 : Int32) : wpX_removeEdge (fun r u' => wpY_removeEdge (fun r' v' => r' = r ∧ i_Rel (k + 4) u' v') v v1 v2) u v1 v2 := by
  have J := i_up I
  obtain ⟨fn, fm, fs, fe, fr, W, ds, ho, pa, tD, tH⟩ := u
  obtain ⟨gn, gs, gm, gc, pr, wt, d, h, r⟩ := v
  obtain ⟨N, s, m, rfl, rfl, rfl, rfl, rfl, rfl, rfl, rfl, n2, hN, hs, hm, b1, b2, hg, hf, hok, hz⟩ := I
  rcases xv_cases hN v1 with a1 | ⟨i, hi, rfl⟩
  · exact xd_1 a1 (yd_1 a1 ⟨rfl, J⟩)
  rcases xv_cases hN v2 with a2 | ⟨j, hj, rfl⟩
  · exact xd_2 hN hi a2 (yd_2 hN hi a2 ⟨rfl, J⟩)
  have hq := xn_k hN hi hj
  rcases hg (32 * i + j) hq with ⟨p0, e0⟩ | ⟨p1, e1, ew, _, _⟩
  · exact xd_4 hN hi hj e0 (yd_4 hN hi hj p0 ⟨rfl, J⟩)
  have p1' : ¬ pr (32 * i + j) = 0 := by rw [p1]; exact yn_10
  have hg' := xl_del (q := 32 * i + j) hg
  obtain ⟨c1, c2⟩ := xl_dec (t := 1) (by decide) hm (by omega) b1 b2
  refine xd_6 hN (by omega) hs hi hj e1 (yg_gr hg') (fun ds ho pa tD tH hf' => ?_)
  refine yd_6 hN hi hj p1' ⟨rfl, xl_mk n2 hN hs hm c1 c2 hg' hf' (dq_okS hN (fun x _ z => ?_) hok) hz⟩
  by_cases c : x = 32 * i + j
  · rw [c] at z
    exact absurd pk_us z
  · exact pk_un c
theorem i_vc_isolate {k : Nat} {u : SX} {v : SY} (I : i_Rel k u v) (hk : k + 4 ≤ 2051) (v1 : Int32) : wpX_isolate (fun r u' => wpY_isolate (fun r' v' => r' = r ∧ i_Rel (k + 4) u' v') v v1) u v1 := by
  have J := i_up I
  obtain ⟨fn, fm, fs, fe, fr, W, ds, ho, pa, tD, tH⟩ := u
  obtain ⟨gn, gs, gm, gc, pr, wt, d, h, r⟩ := v
  obtain ⟨N, s, m, rfl, rfl, rfl, rfl, rfl, rfl, rfl, rfl, n2, hN, hs, hm, b1, b2, hg, hf, hok, hz⟩ := I
  rcases xv_cases hN v1 with a1 | ⟨i, hi, rfl⟩
  · exact xu_1 a1 (yu_1 a1 ⟨rfl, J⟩)
  obtain ⟨W', pr', wt', t, lt, hg', sub, hX, hY⟩ := io_all (s := s) hN (by omega) hs hi hg
  obtain ⟨c1, c2⟩ := xl_dec lt hm (by omega) b1 b2
  refine hX _ _ _ _ _ _ _ _ _ fun ds ho pa tD tH hf' => ?_
  exact hY _ _ _ _ _ _ _ ⟨rfl, xl_mk n2 hN hs hm c1 c2 hg' hf' (dq_okS hN sub hok) hz⟩
theorem i_vc_setSource {k : Nat} {u : SX} {v : SY} (I : i_Rel k u v) (hk : k + 4 ≤ 2051) (v1 : Int32) : wpX_setSource (fun r u' => wpY_setSource (fun r' v' => r' = r ∧ i_Rel (k + 4) u' v') v v1) u v1 := by
  have J := i_up I
  obtain ⟨fn, fm, fs, fe, fr, W, ds, ho, pa, tD, tH⟩ := u
  obtain ⟨gn, gs, gm, gc, pr, wt, d, h, r⟩ := v
  obtain ⟨N, s, m, rfl, rfl, rfl, rfl, rfl, rfl, rfl, rfl, n2, hN, hs, hm, b1, b2, hg, hf, hok, hz⟩ := I
  rcases xv_cases hN v1 with a1 | ⟨i, hi, rfl⟩
  · exact xe_1 a1 (ye_1 a1 ⟨rfl, J⟩)
  refine xe_6 hN (by omega) hi (yg_gr hg) (fun q tD tH => ?_) (fun q ds ho pa tD tH hf' => ?_)
  · exact ye_6 (W := W) hN (by omega) hi hg hz (fun _ => ⟨rfl, xl_mk n2 hN hs hm (by omega) b2 hg hf hok (xl_hi hi hN)⟩) (fun z => absurd z q)
  · exact ye_6 (W := W) hN (by omega) hi hg hz (fun z => absurd q z) (fun _ => ⟨rfl, xl_mk n2 hN hi hm (by omega) b2 hg hf' (dq_qok (yg_gr hg) hN hi q) (xl_hi hi hN)⟩)
theorem i_vc_canSet {k : Nat} {u : SX} {v : SY} (I : i_Rel k u v) (hk : k + 4 ≤ 2051) (v1 : Int32) (v2 : Int32) (v3 : Int32) : wpX_canSet (fun r u' => wpY_canSet (fun r' v' => r' = r ∧ i_Rel (k + 4) u' v') v v1 v2 v3) u v1 v2 v3 := by
  have J := i_up I
  obtain ⟨fn, fm, fs, fe, fr, W, ds, ho, pa, tD, tH⟩ := u
  obtain ⟨gn, gs, gm, gc, pr, wt, d, h, r⟩ := v
  obtain ⟨N, s, m, rfl, rfl, rfl, rfl, rfl, rfl, rfl, rfl, n2, hN, hs, hm, b1, b2, hg, hf, hok, hz⟩ := I
  rcases xv_cases hN v1 with a1 | ⟨i, hi, rfl⟩
  · exact xg_1 a1 (yf_1 a1 ⟨rfl, J⟩)
  rcases xv_cases hN v2 with a2 | ⟨j, hj, rfl⟩
  · exact xg_2 hN hi a2 (yf_2 hN hi a2 ⟨rfl, J⟩)
  rcases xw_cases v3 with a3 | ⟨w1, w2, w3, w4, w5, w6⟩
  · exact xg_3 hN hi hj a3 (yf_3 hN hi hj a3 ⟨rfl, J⟩)
  have hq := xn_k hN hi hj
  have hg' := xl_set (q := 32 * i + j) hg w4 w5 w6
  have fin : (¬ W (32 * i + j) = 2147483647 ∨ fe < nI m) → (pr (32 * i + j) = 1 ∨ (pr (32 * i + j) = 0 ∧ fe < nI m)) → wpX_canSet (fun ans u' => wpY_canSet (fun r' v' => r' = ans ∧ i_Rel (k + 4) u' v') (nI N, nI s, nI m, fe, pr, wt, d, h, r) (nI i) (nI j) v3) (nI N, nI m, nI s, fe, rq_cnt (dq_seq W N s (1024 * N)).1 N, W, ds, ho, pa, tD, tH) (nI i) (nI j) v3 := fun c1 c2 =>
    xg_6 hN (by omega) hs hi hj w1 w2 c1 (yg_gr hg') fun tD tH =>
      yf_6 (W := W) hN (by omega) hs hi hj w1 w3 c2 hg' hz ⟨rfl, xl_mk n2 hN hs hm (by omega) b2 hg hf hok (xl_hi hs hN)⟩
  rcases hg (32 * i + j) hq with ⟨p0, e0⟩ | ⟨p1, e1, _, _, _⟩
  · by_cases f : fe < nI m
    · exact fin (Or.inr f) (Or.inr ⟨p0, f⟩)
    · exact xg_5 hN hi hj w1 w2 e0 f (yf_5 hN hi hj w1 w3 p0 f ⟨rfl, J⟩)
  · exact fin (Or.inl e1) (Or.inl p1)
theorem i_vc_getDist {k : Nat} {u : SX} {v : SY} (I : i_Rel k u v) (hk : k + 4 ≤ 2051) (v1 : Int32) : wpX_getDist (fun r => wpY_getDist (fun r' v' => r' = r ∧ i_Rel (k + 4) u v') v v1) u v1 := by
  have J := i_up I
  obtain ⟨fn, fm, fs, fe, fr, W, ds, ho, pa, tD, tH⟩ := u
  obtain ⟨gn, gs, gm, gc, pr, wt, d, h, r⟩ := v
  obtain ⟨N, s, m, rfl, rfl, rfl, rfl, rfl, rfl, rfl, rfl, n2, hN, hs, hm, b1, b2, hg, hf, hok, hz⟩ := I
  rcases xv_cases hN v1 with a1 | ⟨i, hi, rfl⟩
  · exact xh_b a1 (yh_b a1 ⟨rfl, J⟩)
  have R := xl_mk (k := k + 4) (tD := tD) (tH := tH) n2 hN hs hm (by omega) b2 hg hf hok (xl_hi (W := W) hs hN)
  refine xh_o hN hi (yh_o (W := W) hN (by omega) hs hi hg hz (fun z => ⟨?_, R⟩) (fun z => ⟨?_, R⟩))
  · rcases hf.1 i hi with ⟨_, e, _⟩ | ⟨e, _, _⟩
    · exact e.symm
    · rw [e] at z
      exact absurd z yn_10
  · rcases hf.1 i hi with ⟨e, _, _⟩ | ⟨_, e, _⟩
    · exact absurd e z
    · exact e.symm
theorem i_vc_isReachable {k : Nat} {u : SX} {v : SY} (I : i_Rel k u v) (hk : k + 4 ≤ 2051) (v1 : Int32) : wpX_isReachable (fun r => wpY_isReachable (fun r' v' => r' = r ∧ i_Rel (k + 4) u v') v v1) u v1 := by
  have J := i_up I
  obtain ⟨fn, fm, fs, fe, fr, W, ds, ho, pa, tD, tH⟩ := u
  obtain ⟨gn, gs, gm, gc, pr, wt, d, h, r⟩ := v
  obtain ⟨N, s, m, rfl, rfl, rfl, rfl, rfl, rfl, rfl, rfl, n2, hN, hs, hm, b1, b2, hg, hf, hok, hz⟩ := I
  rcases xv_cases hN v1 with a1 | ⟨i, hi, rfl⟩
  · exact xi_b a1 (yi_b a1 ⟨rfl, J⟩)
  have R := xl_mk (k := k + 4) (tD := tD) (tH := tH) n2 hN hs hm (by omega) b2 hg hf hok (xl_hi (W := W) hs hN)
  have bd := dq_bdT (N := N) (s := s) (yg_gr hg) (1024 * N) (by omega)
  rcases hf.1 i hi with ⟨e, e2, _⟩ | ⟨e, e2, _⟩
  · exact xi_o hN hi (fun _ => yi_o (W := W) hN (by omega) hs hi hg hz (Or.inl e) ⟨e, R⟩) (fun z => absurd e2 z)
  · exact xi_o hN hi (fun z => absurd (e2.symm.trans z) (xe_ne (by omega) bd e)) (fun _ => yi_o (W := W) hN (by omega) hs hi hg hz (Or.inr e) ⟨e, R⟩)
theorem i_vc_getHops {k : Nat} {u : SX} {v : SY} (I : i_Rel k u v) (hk : k + 4 ≤ 2051) (v1 : Int32) : wpX_getHops (fun r => wpY_getHops (fun r' v' => r' = r ∧ i_Rel (k + 4) u v') v v1) u v1 := by
  have J := i_up I
  obtain ⟨fn, fm, fs, fe, fr, W, ds, ho, pa, tD, tH⟩ := u
  obtain ⟨gn, gs, gm, gc, pr, wt, d, h, r⟩ := v
  obtain ⟨N, s, m, rfl, rfl, rfl, rfl, rfl, rfl, rfl, rfl, n2, hN, hs, hm, b1, b2, hg, hf, hok, hz⟩ := I
  rcases xv_cases hN v1 with a1 | ⟨i, hi, rfl⟩
  · exact xj_b a1 (yj_b a1 ⟨rfl, J⟩)
  have R := xl_mk (k := k + 4) (tD := tD) (tH := tH) n2 hN hs hm (by omega) b2 hg hf hok (xl_hi (W := W) hs hN)
  refine xj_o hN hi (yj_o (W := W) hN (by omega) hs hi hg hz (fun z => ⟨?_, R⟩) (fun z => ⟨?_, R⟩))
  · rcases hf.1 i hi with ⟨_, _, e⟩ | ⟨e, _, _⟩
    · exact e.symm
    · rw [e] at z
      exact absurd z yn_10
  · rcases hf.1 i hi with ⟨e, _, _⟩ | ⟨_, _, e⟩
    · exact absurd e z
    · exact e.symm
theorem i_vc_getParent {k : Nat} {u : SX} {v : SY} (I : i_Rel k u v) (hk : k + 4 ≤ 2051) (v1 : Int32) : wpX_getParent (fun r => wpY_getParent (fun r' v' => r' = r ∧ i_Rel (k + 4) u v') v v1) u v1 := by
  have J := i_up I
  obtain ⟨fn, fm, fs, fe, fr, W, ds, ho, pa, tD, tH⟩ := u
  obtain ⟨gn, gs, gm, gc, pr, wt, d, h, r⟩ := v
  obtain ⟨N, s, m, rfl, rfl, rfl, rfl, rfl, rfl, rfl, rfl, n2, hN, hs, hm, b1, b2, hg, hf, hok, hz⟩ := I
  rcases xv_cases hN v1 with a1 | ⟨i, hi, rfl⟩
  · exact xm_b a1 (yk_b a1 ⟨rfl, J⟩)
  have R := xl_mk (k := k + 4) (tD := tD) (tH := tH) n2 hN hs hm (by omega) b2 hg hf hok (xl_hi (W := W) hs hN)
  exact xm_o hN hi (yk_o (W := W) hN (by omega) hs hi hg hz ⟨(hf.2 i hi).symm, R⟩)
theorem i_vc_getWeight {k : Nat} {u : SX} {v : SY} (I : i_Rel k u v) (hk : k + 4 ≤ 2051) (v1 : Int32) (v2 : Int32) : wpX_getWeight (fun r => wpY_getWeight (fun r' => r' = r ∧ i_Rel (k + 4) u v) v v1 v2) u v1 v2 := by
  have J := i_up I
  obtain ⟨fn, fm, fs, fe, fr, W, ds, ho, pa, tD, tH⟩ := u
  obtain ⟨gn, gs, gm, gc, pr, wt, d, h, r⟩ := v
  obtain ⟨N, s, m, rfl, rfl, rfl, rfl, rfl, rfl, rfl, rfl, n2, hN, hs, hm, b1, b2, hg, hf, hok, hz⟩ := I
  rcases xv_cases hN v1 with a1 | ⟨i, hi, rfl⟩
  · exact xo_1 a1 (yl_1 a1 ⟨rfl, J⟩)
  rcases xv_cases hN v2 with a2 | ⟨j, hj, rfl⟩
  · exact xo_2 hN hi a2 (yl_2 hN hi a2 ⟨rfl, J⟩)
  refine xo_o hN hi hj ?_
  rcases hg (32 * i + j) (xn_k hN hi hj) with ⟨p0, e0⟩ | ⟨p1, _, ew, _, _⟩
  · exact yl_o hN hi hj (fun _ => ⟨e0.symm, J⟩) (fun z => absurd p0 z)
  · exact yl_o hN hi hj (fun z => absurd (p1.symm.trans z) yn_10) (fun _ => ⟨ew, J⟩)
theorem i_vc_hasEdge {k : Nat} {u : SX} {v : SY} (I : i_Rel k u v) (hk : k + 4 ≤ 2051) (v1 : Int32) (v2 : Int32) : wpX_hasEdge (fun r => wpY_hasEdge (fun r' => r' = r ∧ i_Rel (k + 4) u v) v v1 v2) u v1 v2 := by
  have J := i_up I
  obtain ⟨fn, fm, fs, fe, fr, W, ds, ho, pa, tD, tH⟩ := u
  obtain ⟨gn, gs, gm, gc, pr, wt, d, h, r⟩ := v
  obtain ⟨N, s, m, rfl, rfl, rfl, rfl, rfl, rfl, rfl, rfl, n2, hN, hs, hm, b1, b2, hg, hf, hok, hz⟩ := I
  unfold wpX_hasEdge
  rcases xv_cases hN v1 with a1 | ⟨i, hi, rfl⟩
  · exact xo_1 a1 (br_t rfl (ym_1 a1 ⟨rfl, J⟩))
  rcases xv_cases hN v2 with a2 | ⟨j, hj, rfl⟩
  · exact xo_2 hN hi a2 (br_t rfl (ym_2 hN hi a2 ⟨rfl, J⟩))
  refine xo_o hN hi hj ?_
  rcases hg (32 * i + j) (xn_k hN hi hj) with ⟨p0, e0⟩ | ⟨p1, e1, _, _, _⟩
  · exact br_t e0 (ym_o hN hi hj (Or.inl p0) ⟨p0, J⟩)
  · exact br_f e1 (ym_o hN hi hj (Or.inr p1) ⟨p1, J⟩)
theorem i_vc_edgeCount {k : Nat} {u : SX} {v : SY} (I : i_Rel k u v) (hk : k + 4 ≤ 2051) : wpX_edgeCount (fun r => wpY_edgeCount (fun r' => r' = r ∧ i_Rel (k + 4) u v) v) u := by
  have J := i_up I
  obtain ⟨fn, fm, fs, fe, fr, W, ds, ho, pa, tD, tH⟩ := u
  obtain ⟨gn, gs, gm, gc, pr, wt, d, h, r⟩ := v
  obtain ⟨N, s, m, rfl, rfl, rfl, rfl, rfl, rfl, rfl, rfl, n2, hN, hs, hm, b1, b2, hg, hf, hok, hz⟩ := I
  exact ⟨rfl, J⟩
theorem i_vc_reachableCount {k : Nat} {u : SX} {v : SY} (I : i_Rel k u v) (hk : k + 4 ≤ 2051) : wpX_reachableCount (fun r => wpY_reachableCount (fun r' v' => r' = r ∧ i_Rel (k + 4) u v') v) u := by
  have J := i_up I
  obtain ⟨fn, fm, fs, fe, fr, W, ds, ho, pa, tD, tH⟩ := u
  obtain ⟨gn, gs, gm, gc, pr, wt, d, h, r⟩ := v
  obtain ⟨N, s, m, rfl, rfl, rfl, rfl, rfl, rfl, rfl, rfl, n2, hN, hs, hm, b1, b2, hg, hf, hok, hz⟩ := I
  have R := xl_mk (k := k + 4) (tD := tD) (tH := tH) n2 hN hs hm (by omega) b2 hg hf hok (xl_hi (W := W) hs hN)
  unfold wpX_reachableCount
  exact yo_o (W := W) hN (by omega) hs hg hz ⟨rfl, R⟩
theorem i_vc_getSource {k : Nat} {u : SX} {v : SY} (I : i_Rel k u v) (hk : k + 4 ≤ 2051) : wpX_getSource (fun r => wpY_getSource (fun r' => r' = r ∧ i_Rel (k + 4) u v) v) u := by
  have J := i_up I
  obtain ⟨fn, fm, fs, fe, fr, W, ds, ho, pa, tD, tH⟩ := u
  obtain ⟨gn, gs, gm, gc, pr, wt, d, h, r⟩ := v
  obtain ⟨N, s, m, rfl, rfl, rfl, rfl, rfl, rfl, rfl, rfl, n2, hN, hs, hm, b1, b2, hg, hf, hok, hz⟩ := I
  exact ⟨rfl, J⟩
theorem i_vc_vertexCount {k : Nat} {u : SX} {v : SY} (I : i_Rel k u v) (hk : k + 4 ≤ 2051) : wpX_vertexCount (fun r => wpY_vertexCount (fun r' => r' = r ∧ i_Rel (k + 4) u v) v) u := by
  have J := i_up I
  obtain ⟨fn, fm, fs, fe, fr, W, ds, ho, pa, tD, tH⟩ := u
  obtain ⟨gn, gs, gm, gc, pr, wt, d, h, r⟩ := v
  obtain ⟨N, s, m, rfl, rfl, rfl, rfl, rfl, rfl, rfl, rfl, n2, hN, hs, hm, b1, b2, hg, hf, hok, hz⟩ := I
  exact ⟨rfl, J⟩
end
