/-! what the settled state is like, where no negative cycle is reached -/
section
variable {N s u v k : Nat} {c : Int} {W ds ho pa : Nat → Int32}
theorem ph_no (hW : dq_gr W) (hN : N ≤ 32) (hs : s < N) (h : dq_ok W N s) : ∀ k, k < 1024 → ¬ dq_imp W N (dq_seq W N s (1024 * N)) k := by
  have q := dq_okq hW hN hs h
  have e := (dq_later (j' := N) q (by omega)).1
  intro k hk
  rw [e]
  exact (dq_const q).1 k hk
theorem ph_set (hW : dq_gr W) (hN : N ≤ 32) (hs : s < N) (h : sp_best (dq_E W N) (dq_w W) s v k c) : dq_R W N s (1024 * N) v ∧ dq_D W N s (1024 * N) v = c ∧ dq_H W N s (1024 * N) v = k := by
  have l := sp_len hs (fun u v e => ⟨e.1, e.2.1⟩) h
  exact sp_settle hN (fun u v e => ⟨e.1, e.2.1⟩) dq_R0 dq_D0 (dq_step hW) (N - 1) k v c h (by omega) (1024 * N) (by omega) (by omega)
theorem ph_01 (hW : dq_gr W) (hN : N ≤ 32) (i : Nat) : (dq_seq W N s (1024 * N)).1 i = 0 ∨ (dq_seq W N s (1024 * N)).1 i = 1 := by
  rcases dq_bdT (N := N) (s := s) hW (1024 * N) (by omega) i with z | z
  · exact Or.inl z
  · exact Or.inr z.1
theorem ph_src (hW : dq_gr W) (hN : N ≤ 32) (hs : s < N) (h : dq_ok W N s) : (dq_seq W N s (1024 * N)).1 s = 1 ∧ (dq_seq W N s (1024 * N)).2.1 s = 0 ∧ (dq_seq W N s (1024 * N)).2.2 s = 0 := by
  obtain ⟨Q, f, q1, q2⟩ := h
  have hb : sp_best (dq_E W N) (dq_w W) s s 0 0 := ⟨⟨rfl, rfl⟩, fun k' c' hk => by
    have z := (sp_lb q1 q2 k' s c' hk).2
    omega⟩
  obtain ⟨a1, a2, a3⟩ := ph_set hW hN hs hb
  rcases dq_bdT (N := N) (s := s) hW (1024 * N) (by omega) s with z | ⟨z0, _, _, z3, _⟩
  · exact absurd z a1
  · refine ⟨z0, Int32.toInt_inj.mp ?_, Int32.toInt_inj.mp ?_⟩
    · rw [dq_t0]; exact a2
    · unfold dq_H at a3
      rw [dq_t0]
      omega
theorem ph_edge (hW : dq_gr W) (hN : N ≤ 32) (hs : s < N) (h : dq_ok W N s) (hu : u < N) (hv : v < N) (he : ¬ W (32 * u + v) = 2147483647) (hr : (dq_seq W N s (1024 * N)).1 u = 1) : (dq_seq W N s (1024 * N)).1 v = 1 ∧ ((dq_seq W N s (1024 * N)).2.1 v).toInt ≤ ((dq_seq W N s (1024 * N)).2.1 u).toInt + (W (32 * u + v)).toInt := by
  have n := ph_no hW hN hs h (32 * u + v) (by omega)
  have bd := dq_bdT (N := N) (s := s) hW (1024 * N) (by omega)
  generalize dq_seq W N s (1024 * N) = q at n hr bd ⊢
  have hr0 : ¬ q.1 u = 0 := by rw [hr]; exact yn_10
  obtain ⟨a1, _⟩ := dq_sums hW (by omega) (by omega) bd he hr0
  have eu : (32 * u + v) / 32 = u := by omega
  have ev : (32 * u + v) % 32 = v := by omega
  unfold dq_imp at n
  rw [eu, ev] at n
  rcases bd v with z | ⟨z, _⟩
  · exact absurd ⟨hu, hv, he, hr0, Or.inl z⟩ n
  · refine ⟨z, ?_⟩
    have m : ¬ q.2.1 u + W (32 * u + v) < q.2.1 v := fun y => n ⟨hu, hv, he, hr0, Or.inr (Or.inl y)⟩
    rw [Int32.lt_iff_toInt_lt, a1] at m
    omega
theorem ph_scan {q : dq_S} {v : Nat} : ∀ e a, (∃ u, a ≤ u ∧ u < a + e ∧ rq_tight W q u v) → ∃ p, a ≤ p ∧ p < a + e ∧ rq_scan W q v e a = nI p ∧ rq_tight W q p v := by
  intro e
  induction e with
  | zero =>
    intro a h
    obtain ⟨u, h1, h2, _⟩ := h
    omega
  | succ e ih =>
    intro a h
    by_cases c : rq_tight W q a v
    · exact ⟨a, Nat.le_refl _, by omega, rq_scT c, c⟩
    · obtain ⟨u, h1, h2, h3⟩ := h
      have hne : u ≠ a := fun z => c (by rw [← z]; exact h3)
      obtain ⟨p, p1, p2, p3, p4⟩ := ih (a + 1) ⟨u, by omega, by omega, h3⟩
      exact ⟨p, by omega, by omega, by rw [rq_scF c]; exact p3, p4⟩
theorem ph_par (hW : dq_gr W) (hN : N ≤ 32) (hs : s < N) (h : dq_ok W N s) (hv : v < N) (hvs : ¬ v = s) (hr : (dq_seq W N s (1024 * N)).1 v = 1) : ∃ p, p < N ∧ rq_par W N s (dq_seq W N s (1024 * N)) v = nI p ∧ rq_tight W (dq_seq W N s (1024 * N)) p v := by
  have hr0 : ¬ (dq_seq W N s (1024 * N)).1 v = 0 := by rw [hr]; exact yn_10
  have bd := dq_bdT (N := N) (s := s) hW (1024 * N) (by omega)
  obtain ⟨Q, f, q1, q2⟩ := h
  have wv := sp_sound dq_D0 (dq_step (N := N) (s := s) hW) (1024 * N) (by omega) v hr0
  obtain ⟨k, c, hb⟩ := sp_bestE q1 q2 wv
  obtain ⟨_, b2, b3⟩ := ph_set hW hN hs hb
  cases k with
  | zero =>
    have e : v = s ∧ c = 0 := hb.1
    exact absurd e.1 hvs
  | succ k =>
    obtain ⟨u, c', hb', he, hc⟩ := sp_prev hb
    obtain ⟨d1, d2, d3⟩ := ph_set hW hN hs hb'
    obtain ⟨e1, e2, e3⟩ := he
    unfold dq_R at d1
    unfold dq_D at b2 d2
    unfold dq_H at b3 d3
    unfold dq_w at hc
    obtain ⟨a1, a2, _, _, u3, _, _, _⟩ := dq_sums hW (by omega) (by omega) bd e3 d1
    obtain ⟨_, _, _, v3, _⟩ := (bd v).resolve_left hr0
    have t : rq_tight W (dq_seq W N s (1024 * N)) u v := by
      refine ⟨e3, d1, Int32.toInt_inj.mp ?_, Int32.toInt_inj.mp ?_⟩
      · rw [a1]; omega
      · rw [a2]; omega
    obtain ⟨p, _, p2, p3, p4⟩ := ph_scan N 0 ⟨u, Nat.zero_le _, by omega, t⟩
    refine ⟨p, by omega, ?_, p4⟩
    unfold rq_par
    rw [if_neg hvs, if_neg hr0]
    exact p3
/-- long sums of ints do not wrap -/
theorem ph_l (a b : Int32) : (a.toInt64 + b.toInt64).toInt = a.toInt + b.toInt := by
  have a1 := a.toInt_lt
  have a2 := a.le_toInt
  have b1 := b.toInt_lt
  have b2 := b.le_toInt
  rw [Int64.toInt_add, Int32.toInt_toInt64, Int32.toInt_toInt64]
  exact Int.bmod_eq_of_le (by omega) (by omega)
theorem ph_leq {a b c : Int32} (h : a.toInt + b.toInt = c.toInt) : a.toInt64 + b.toInt64 = c.toInt64 := by
  apply Int64.toInt_inj.mp
  rw [ph_l, Int32.toInt_toInt64]
  exact h
theorem ph_lle {a b c : Int32} (h : c.toInt ≤ a.toInt + b.toInt) : c.toInt64 ≤ a.toInt64 + b.toInt64 := by
  rw [Int64.le_iff_toInt_le, ph_l, Int32.toInt_toInt64]
  exact h
theorem ph_l1 {a c : Int32} (h : a.toInt + 1 = c.toInt) : a.toInt64 + 1 = c.toInt64 := by
  have e : (1 : Int64) = (1 : Int32).toInt64 := by decide
  rw [e]
  exact ph_leq (by rw [dq_t1]; exact h)
end
