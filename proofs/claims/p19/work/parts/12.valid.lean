/-! the law's valid, over an object as it is between calls -/
section
variable {N s i j u v : Nat} {fm fe fr : Int32} {W ds ho pa tD tH : Nat → Int32}
/-- what holds of an object between calls -/
def pv_ok (W : Nat → Int32) (N s : Nat) (ds ho pa : Nat → Int32) : Prop := 2 ≤ N ∧ N ≤ 32 ∧ s < N ∧ dq_gr W ∧ dq_ok W N s ∧ xf_ok W N s ds ho pa
theorem pv_r {post : Int32 → Prop} (I : pv_ok W N s ds ho pa) (hi : i < N) (hp : post ((dq_seq W N s (1024 * N)).1 i)) : wpX_isReachable post (nI N, fm, nI s, fe, fr, W, ds, ho, pa, tD, tH) (nI i) := by
  obtain ⟨n2, hN, hs, hW, hok, hf⟩ := I
  have bd := dq_bdT (N := N) (s := s) hW (1024 * N) (by omega)
  rcases hf.1 i hi with ⟨e, e2, _⟩ | ⟨e, e2, _⟩
  · exact xi_o hN hi (fun _ => by rw [e] at hp; exact hp) (fun z => absurd e2 z)
  · exact xi_o hN hi (fun z => absurd (e2.symm.trans z) (xe_ne (by omega) bd e)) (fun _ => by rw [e] at hp; exact hp)
theorem pv_0 (I : pv_ok W N s ds ho pa) (hi : i < N) (h : (dq_seq W N s (1024 * N)).1 i = 0) : ds i = 2147483647 ∧ ho i = -1 ∧ pa i = -1 := by
  obtain ⟨n2, hN, hs, hW, hok, hf⟩ := I
  rcases hf.1 i hi with ⟨_, e2, e3⟩ | ⟨e, _, _⟩
  · refine ⟨e2, e3, ?_⟩
    rw [hf.2 i hi]
    unfold rq_par
    by_cases c : i = s
    · rw [if_pos c]
    · rw [if_neg c, if_pos h]
  · rw [e] at h
    exact absurd h yn_10
theorem pv_1 (I : pv_ok W N s ds ho pa) (hi : i < N) (h : (dq_seq W N s (1024 * N)).1 i = 1) : ds i = (dq_seq W N s (1024 * N)).2.1 i ∧ ho i = (dq_seq W N s (1024 * N)).2.2 i := by
  obtain ⟨n2, hN, hs, hW, hok, hf⟩ := I
  rcases hf.1 i hi with ⟨e, _, _⟩ | ⟨_, e2, e3⟩
  · rw [h] at e
    exact absurd e yn_10
  · exact ⟨e2, e3⟩
theorem pv_e {post : Int32 → Prop} (hN : N ≤ 32) (hi : i < N) (hj : j < N) (h0 : W (32 * i + j) = 2147483647 → post 0) (h1 : ¬ W (32 * i + j) = 2147483647 → post 1) : wpX_hasEdge post (nI N, fm, nI s, fe, fr, W, ds, ho, pa, tD, tH) (nI i) (nI j) := by
  unfold wpX_hasEdge
  exact xo_o hN hi hj ⟨h0, h1⟩
theorem pv_153 {post : Int32 → Prop} (I : pv_ok W N s ds ho pa) (hp : post 1) : ∀ e x, x + e = N → ∀ n, e < n → wL_valid_153 post (nI N) (nI s) (nI N) fm (nI s) fe fr W ds ho pa tD tH n (nI x) := by
  have J := I
  obtain ⟨n2, hN, hs, hW, hok, hf⟩ := J
  intro e
  induction e with
  | zero =>
    intro x hx n hn
    obtain ⟨n', rfl⟩ : ∃ n', n = n' + 1 := ⟨n - 1, by omega⟩
    exact br_t (nI_le (by omega) (by omega)) hp
  | succ e ih =>
    intro x hx n hn
    obtain ⟨n', rfl⟩ : ∃ n', n = n' + 1 := ⟨n - 1, by omega⟩
    have hxN : x < N := by omega
    have z := ih (x + 1) (by omega) n' (by omega)
    refine br_f (nI_ge (by omega) (by omega)) (pv_r I hxN ?_)
    rcases ph_01 (s := s) hW hN x with r0 | r1
    · obtain ⟨d0, h0, p0⟩ := pv_0 I hxN r0
      refine br_t r0 (xh_o hN hxN (br_t d0 (xj_o hN hxN (br_t h0 (xm_o hN hxN (br_t p0 (nm_r (nI_1 x) z)))))))
    · refine br_f (by rw [r1]; exact yn_10) ?_
      by_cases c : x = s
      · exact br_t (by rw [c]) (nm_r (nI_1 x) z)
      · obtain ⟨p, hp', ep, t1, t2, t3, t4⟩ := ph_par hW hN hs hok hxN c r1
        have q1 : (dq_seq W N s (1024 * N)).1 p = 1 := (ph_01 hW hN p).resolve_left t2
        obtain ⟨dx, hx'⟩ := pv_1 I hxN r1
        obtain ⟨dp, hp''⟩ := pv_1 I hp' q1
        have bd := dq_bdT (N := N) (s := s) hW (1024 * N) (by omega)
        obtain ⟨a1, a2, _⟩ := dq_sums hW (by omega) (by omega) bd t1 t2
        have s1 : (ds p).toInt64 + (W (32 * p + x)).toInt64 = (ds x).toInt64 := ph_leq (by rw [dp, dx, ← a1, t3])
        have s2 : (ho p).toInt64 + 1 = (ho x).toInt64 := ph_l1 (by rw [hp'', hx', ← a2, t4])
        refine br_f (fun y => c ((nI_eq (by omega) (by omega)).mp y)) (xm_o hN hxN ?_)
        rw [hf.2 x hxN, ep]
        refine br_f (nI_pos (by omega)) (br_t (nI_lt hp' (by omega)) ?_)
        refine pv_e hN hp' hxN (fun y => absurd y t1) (fun _ => br_f yn_10 ?_)
        refine pv_r I hp' (br_f (by rw [q1]; exact yn_10) ?_)
        refine xh_o hN hp' (xo_o hN hp' hxN (xh_o hN hxN (br_t s1 ?_)))
        exact xj_o hN hp' (xj_o hN hxN (br_t s2 (nm_r (nI_1 x) z)))
theorem pv_77 {post : Int32 → Prop} {J58 : Int32 → Prop} (I : pv_ok W N s ds ho pa) (hu : u < N) (hr : (dq_seq W N s (1024 * N)).1 u = 1) (hJ : J58 (nI (u + 1))) : ∀ e x, x + e = N → ∀ n, e < n → wL_valid_77 post J58 (nI N) (nI s) (nI u) (nI N) fm (nI s) fe fr W ds ho pa tD tH n (nI x) := by
  have J := I
  obtain ⟨n2, hN, hs, hW, hok, hf⟩ := J
  intro e
  induction e with
  | zero =>
    intro x hx n hn
    obtain ⟨n', rfl⟩ : ∃ n', n = n' + 1 := ⟨n - 1, by omega⟩
    exact br_t (nI_le (by omega) (by omega)) (nm_r (nI_1 u) hJ)
  | succ e ih =>
    intro x hx n hn
    obtain ⟨n', rfl⟩ : ∃ n', n = n' + 1 := ⟨n - 1, by omega⟩
    have hxN : x < N := by omega
    have z := ih (x + 1) (by omega) n' (by omega)
    refine br_f (nI_ge (by omega) (by omega)) (pv_e hN hu hxN (fun _ => br_t rfl (nm_r (nI_1 x) z)) (fun c => br_f yn_10 ?_))
    obtain ⟨r1, le⟩ := ph_edge hW hN hs hok hu hxN c hr
    obtain ⟨dx, _⟩ := pv_1 I hxN r1
    obtain ⟨du, _⟩ := pv_1 I hu hr
    refine pv_r I hxN (br_f (by rw [r1]; exact yn_10) ?_)
    refine xh_o hN hu (xo_o hN hu hxN (nm_e ?_))
    exact xh_o hN hxN (br_t (ph_lle (by rw [dx, du]; exact le)) (nm_r (nI_1 x) z))
theorem pv_58 {post : Int32 → Prop} (I : pv_ok W N s ds ho pa) (hp : post 1) : ∀ e x, x + e = N → ∀ n, e < n → wL_valid_58 post (nI N) (nI s) (nI N) fm (nI s) fe fr W ds ho pa tD tH n (nI x) := by
  have J := I
  obtain ⟨n2, hN, hs, hW, hok, hf⟩ := J
  intro e
  induction e with
  | zero =>
    intro x hx n hn
    obtain ⟨n', rfl⟩ : ∃ n', n = n' + 1 := ⟨n - 1, by omega⟩
    exact br_t (nI_le (by omega) (by omega)) ⟨N + 1, pv_153 I hp N 0 (by omega) (N + 1) (by omega)⟩
  | succ e ih =>
    intro x hx n hn
    obtain ⟨n', rfl⟩ : ∃ n', n = n' + 1 := ⟨n - 1, by omega⟩
    have hxN : x < N := by omega
    have z := ih (x + 1) (by omega) n' (by omega)
    refine br_f (nI_ge (by omega) (by omega)) (pv_r I hxN ?_)
    rcases ph_01 (s := s) hW hN x with r0 | r1
    · exact br_t r0 (nm_r (nI_1 x) z)
    · exact br_f (by rw [r1]; exact yn_10) ⟨N + 1, pv_77 I hxN r1 z N 0 (by omega) (N + 1) (by omega)⟩
/-- valid answers 1 -/
theorem pv_valid {post : Int32 → Prop} (I : pv_ok W N s ds ho pa) (hp : post 1) : wpL_valid post (nI N, fm, nI s, fe, fr, W, ds, ho, pa, tD, tH) := by
  have J := I
  obtain ⟨n2, hN, hs, hW, hok, hf⟩ := J
  obtain ⟨s1, s2, s3⟩ := ph_src hW hN hs hok
  obtain ⟨d1, d2⟩ := pv_1 I hs s1
  have ep : pa s = -1 := by
    rw [hf.2 s hs]
    exact if_pos rfl
  unfold wpL_valid wpX_vertexCount wpX_getSource
  refine br_f (nI_pos (by omega)) (br_t (nI_lt hs (by omega)) ?_)
  refine pv_r I hs (br_f (by rw [s1]; exact yn_10) ?_)
  refine xh_o hN hs (br_t (by rw [d1]; exact s2) ?_)
  refine xj_o hN hs (br_t (by rw [d2]; exact s3) ?_)
  exact xm_o hN hs (br_t ep ⟨N + 1, pv_58 I hp N 0 (by omega) (N + 1) (by omega)⟩)
end
