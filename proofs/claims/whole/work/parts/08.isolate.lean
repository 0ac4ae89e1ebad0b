/-! isolate: both sides drop the same slots, one place at a time -/
section
variable {N s k : Nat} {fm fs fe fr gs gm gc : Int32} {W ds ho pa tD tH pr wt d h r : Nat → Int32}
theorem io_sub (a : Int32) (x y : Nat) : a - nI x - nI y = a - nI (x + y) := by
  rw [← nI_add]
  grind
theorem io_add (a : Int32) (x y : Nat) : a + nI x + nI y = a + nI (x + y) := by
  rw [← nI_add]
  grind
theorem io_s0 (a : Int32) : a - nI 0 = a := by
  rw [nI_0]
  grind
theorem io_a0 (a : Int32) : a + nI 0 = a := by
  rw [nI_0]
  grind
/-- the slot k is dropped on both sides, if it is there: t edges go -/
def io_one (k : Nat) (W pr wt W1 pr1 wt1 : Nat → Int32) (t : Nat) : Prop :=
  (pr k = 0 ∧ W k = 2147483647 ∧ t = 0 ∧ W1 = W ∧ pr1 = pr ∧ wt1 = wt) ∨ (pr k = 1 ∧ ¬ W k = 2147483647 ∧ t = 1 ∧ W1 = upd W k 2147483647 ∧ pr1 = upd pr k 0 ∧ wt1 = upd wt k 0)
theorem io_ex (hk : k < 1024) (hg : yg_ok W pr wt) : ∃ (W1 pr1 wt1 : Nat → Int32) (t : Nat), io_one k W pr wt W1 pr1 wt1 t := by
  rcases hg k hk with ⟨a, b⟩ | ⟨a, b, _, _, _⟩
  · exact ⟨W, pr, wt, 0, Or.inl ⟨a, b, rfl, rfl, rfl, rfl⟩⟩
  · exact ⟨_, _, _, 1, Or.inr ⟨a, b, rfl, rfl, rfl, rfl⟩⟩
theorem io_pr {W1 pr1 wt1 : Nat → Int32} {t : Nat} (hg : yg_ok W pr wt) (o : io_one k W pr wt W1 pr1 wt1 t) : yg_ok W1 pr1 wt1 ∧ W1 k = 2147483647 ∧ pr1 k = 0 ∧ t ≤ 1 ∧ ∀ i, i < 1024 → ¬ W1 i = 2147483647 → W1 i = W i := by
  rcases o with ⟨a, b, e1, e2, e3, e4⟩ | ⟨a, b, e1, e2, e3, e4⟩
  · subst e1 e2 e3 e4
    exact ⟨hg, b, a, by decide, fun _ _ _ => rfl⟩
  · subst e1 e2 e3 e4
    refine ⟨fun i hi => ?_, pk_us, pk_us, by decide, fun i _ z => ?_⟩
    · by_cases c : i = k
      · rw [c]
        exact Or.inl ⟨pk_us, pk_us⟩
      · rw [pk_un c, pk_un c, pk_un c]
        exact hg i hi
    · by_cases c : i = k
      · rw [c] at z
        exact absurd pk_us z
      · rw [pk_un c]
theorem io_x {post : SX → Prop} {W1 pr1 wt1 : Nat → Int32} {t : Nat} (hk : k < 1024) (o : io_one k W pr wt W1 pr1 wt1 t) (hp : post (nI N, fm, fs, fe - nI t, fr, W1, ds, ho, pa, tD, tH)) : wpX_dropSlot post (nI N, fm, fs, fe, fr, W, ds, ho, pa, tD, tH) (nI k) := by
  have ck := xn_c hk
  rcases o with ⟨a, b, e1, e2, e3, e4⟩ | ⟨a, b, e1, e2, e3, e4⟩
  · subst e1 e2
    rw [io_s0] at hp
    exact ⟨xn_v hk, br_t (by rw [ck]; exact b) hp⟩
  · subst e1 e2
    exact ⟨xn_v hk, br_f (by rw [ck]; exact b) ⟨xn_v hk, nm_r (show upd W (nI k).toNatClampNeg 2147483647 = upd W k 2147483647 by rw [ck]) (nm_e hp)⟩⟩
theorem io_y {post : Int32 → SY → Prop} {J14 : Int32 → Int32 → (Nat → Int32) → (Nat → Int32) → (Nat → Int32) → (Nat → Int32) → (Nat → Int32) → Prop} {c : Int32} {v x : Nat} {W1 pr1 wt1 : Nat → Int32} {t : Nat} (hN : N ≤ 32) (hv : v < N) (hx : x < N) (o : io_one (32 * x + v) W pr wt W1 pr1 wt1 t) (hxv : x = v → pr (32 * x + v) = 0) (hJ : J14 (c + nI t) (nI (x + 1)) pr1 wt1 d h r) : wY_isolate_59 post J14 (nI v) c (nI x) (nI N) gs gm gc pr wt d h r := by
  have hk : 32 * x + v < 1024 := by omega
  have ck := xn_c hk
  refine nm_r xn_slot ?_
  rcases o with ⟨a, b, e1, e2, e3, e4⟩ | ⟨a, b, e1, e2, e3, e4⟩
  · subst e1 e3 e4
    rw [io_a0] at hJ
    by_cases c1 : x = v
    · exact br_t (by rw [c1]) (nm_r (nI_1 x) hJ)
    · exact br_f (fun z => c1 ((nI_eq (by omega) (by omega)).mp z)) ⟨xn_v hk, br_t (by rw [ck]; exact a) (nm_r (nI_1 x) hJ)⟩
  · subst e1 e3 e4
    have c1 : ¬ x = v := fun z => by
      rw [hxv z] at a
      exact yn_10 a.symm
    exact br_f (fun z => c1 ((nI_eq (by omega) (by omega)).mp z)) ⟨xn_v hk, br_f (by rw [ck, a]; exact yn_10) ⟨xn_v hk, nm_r (show upd pr (nI (32 * x + v)).toNatClampNeg (vp_nar .boolean 0) = upd pr (32 * x + v) 0 by rw [ck, yn_b0]) ⟨xn_v hk, nm_r (show upd wt (nI (32 * x + v)).toNatClampNeg 0 = upd wt (32 * x + v) 0 by rw [ck]) (nm_e (nm_r (nI_1 x) hJ))⟩⟩⟩
theorem io_main {v : Nat} (hN : N ≤ 32) (hN0 : 1 ≤ N) (hs : s < N) (hv : v < N) : ∀ e x, x + e = N → ∀ W pr wt : Nat → Int32, yg_ok W pr wt → ∃ (W' pr' wt' : Nat → Int32) (t : Nat), t ≤ 2 * e ∧ yg_ok W' pr' wt' ∧ (∀ i, i < 1024 → ¬ W' i = 2147483647 → W' i = W i) ∧
    (∀ (post : Int32 → SX → Prop) (fm fe fr x2 : Int32) (ds ho pa tD tH : Nat → Int32) (n : Nat), e < n → (∀ ds ho pa tD tH : Nat → Int32, xf_ok W' N s ds ho pa → post (x2 - (fe - nI t)) (nI N, fm, nI s, fe - nI t, rq_cnt (dq_seq W' N s (1024 * N)).1 N, W', ds, ho, pa, tD, tH)) → wX_isolate_17 post (nI v) x2 n (nI x) (nI N) fm (nI s) fe fr W ds ho pa tD tH) ∧
    (∀ (post : Int32 → SY → Prop) (gs gm gc c : Int32) (d h r : Nat → Int32) (n : Nat), e < n → post (c + nI t) (nI N, gs, gm, gc - (c + nI t), pr', wt', d, h, r) → wY_isolate_14 post (nI v) (nI N) gs gm gc n c (nI x) pr wt d h r) := by
  intro e
  induction e with
  | zero =>
    intro x hx W pr wt hg
    refine ⟨W, pr, wt, 0, by omega, hg, fun _ _ _ => rfl, ?_, ?_⟩
    · intro post fm fe fr x2 ds ho pa tD tH n hn hp
      obtain ⟨n', rfl⟩ : ∃ n', n = n' + 1 := ⟨n - 1, by omega⟩
      rw [io_s0] at hp
      refine br_t (nI_le (by omega) (by omega)) ?_
      exact xc_rec hN hN0 hs (yg_gr hg) fun ds ho pa tD tH z => hp ds ho pa tD tH z
    · intro post gs gm gc c d h r n hn hp
      obtain ⟨n', rfl⟩ : ∃ n', n = n' + 1 := ⟨n - 1, by omega⟩
      rw [io_a0] at hp
      exact br_t (nI_le (by omega) (by omega)) (nm_e hp)
  | succ e ih =>
    intro x hx W pr wt hg
    have hk1 : 32 * v + x < 1024 := by omega
    have hk2 : 32 * x + v < 1024 := by omega
    obtain ⟨W1, pr1, wt1, t1, o1⟩ := io_ex hk1 hg
    obtain ⟨g1, w1, p1, l1, s1⟩ := io_pr hg o1
    obtain ⟨W2, pr2, wt2, t2, o2⟩ := io_ex hk2 g1
    obtain ⟨g2, w2, p2, l2, s2⟩ := io_pr g1 o2
    obtain ⟨W', pr', wt', t, lt, gt, st, hX, hY⟩ := ih (x + 1) (by omega) W2 pr2 wt2 g2
    refine ⟨W', pr', wt', t1 + t2 + t, by omega, gt, ?_, ?_, ?_⟩
    · intro i hi z
      have z1 := st i hi z
      have z2 := s2 i hi (by rw [← z1]; exact z)
      have z3 := s1 i hi (by rw [← z2, ← z1]; exact z)
      rw [z1, z2, z3]
    · intro post fm fe fr x2 ds ho pa tD tH n hn hp
      obtain ⟨n', rfl⟩ : ∃ n', n = n' + 1 := ⟨n - 1, by omega⟩
      rw [← io_sub, ← io_sub] at hp
      refine br_f (nI_ge (by omega) (by omega)) (xs_slot (io_x hk1 o1 ?_))
      refine xs_slot (io_x hk2 o2 ?_)
      exact nm_r (nI_1 x) (hX post fm (fe - nI t1 - nI t2) fr x2 ds ho pa tD tH n' (by omega) hp)
    · intro post gs gm gc c d h r n hn hp
      obtain ⟨n', rfl⟩ : ∃ n', n = n' + 1 := ⟨n - 1, by omega⟩
      rw [← io_add, ← io_add] at hp
      have ck := xn_c hk1
      have hJ := hY post gs gm gc (c + nI t1 + nI t2) d h r n' (by omega) hp
      have z := io_y (post := post) (gs := gs) (gm := gm) (gc := gc) hN hv (by omega) o2 (fun q => by rw [q]; rw [q] at p1; exact p1) hJ
      refine br_f (nI_ge (by omega) (by omega)) (nm_r xn_slot ⟨xn_v hk1, ?_⟩)
      rcases o1 with ⟨a, b, e1, e2, e3, e4⟩ | ⟨a, b, e1, e2, e3, e4⟩
      · subst e1 e3 e4
        rw [io_a0] at z
        exact br_t (by rw [ck]; exact a) z
      · subst e1 e3 e4
        exact br_f (by rw [ck, a]; exact yn_10) ⟨xn_v hk1, nm_r (show upd pr (nI (32 * v + x)).toNatClampNeg (vp_nar .boolean 0) = upd pr (32 * v + x) 0 by rw [ck, yn_b0]) ⟨xn_v hk1, nm_r (show upd wt (nI (32 * v + x)).toNatClampNeg 0 = upd wt (32 * v + x) 0 by rw [ck]) (nm_e z)⟩⟩
theorem xu_1 {post : Int32 → SX → Prop} {x : Int32} (a : xv_bad N x) (hp : post (-1) (nI N, fm, fs, fe, fr, W, ds, ho, pa, tD, tH)) : wpX_isolate post (nI N, fm, fs, fe, fr, W, ds, ho, pa, tD, tH) x := by
  unfold wpX_isolate
  exact xv_b a (br_t rfl hp)
theorem yu_1 {post : Int32 → SY → Prop} {x : Int32} (a : xv_bad N x) (hp : post (-1) (nI N, gs, gm, gc, pr, wt, d, h, r)) : wpY_isolate post (nI N, gs, gm, gc, pr, wt, d, h, r) x := by
  unfold wpY_isolate
  exact yv_b a (br_t rfl hp)
/-- both sides' isolate -/
theorem io_all {v : Nat} (hN : N ≤ 32) (hN0 : 1 ≤ N) (hs : s < N) (hv : v < N) (hg : yg_ok W pr wt) : ∃ (W' pr' wt' : Nat → Int32) (t : Nat), t ≤ 64 ∧ yg_ok W' pr' wt' ∧ (∀ i, i < 1024 → ¬ W' i = 2147483647 → W' i = W i) ∧
    (∀ (post : Int32 → SX → Prop) (fm fe fr : Int32) (ds ho pa tD tH : Nat → Int32), (∀ ds ho pa tD tH : Nat → Int32, xf_ok W' N s ds ho pa → post (nI t) (nI N, fm, nI s, fe - nI t, rq_cnt (dq_seq W' N s (1024 * N)).1 N, W', ds, ho, pa, tD, tH)) → wpX_isolate post (nI N, fm, nI s, fe, fr, W, ds, ho, pa, tD, tH) (nI v)) ∧
    (∀ (post : Int32 → SY → Prop) (gs gm gc : Int32) (d h r : Nat → Int32), post (nI t) (nI N, gs, gm, gc - nI t, pr', wt', d, h, r) → wpY_isolate post (nI N, gs, gm, gc, pr, wt, d, h, r) (nI v)) := by
  obtain ⟨W', pr', wt', t, lt, gt, st, hX, hY⟩ := io_main (s := s) hN hN0 hs hv N 0 (by omega) W pr wt hg
  refine ⟨W', pr', wt', t, by omega, gt, st, ?_, ?_⟩
  · intro post fm fe fr ds ho pa tD tH hp
    have e : fe - (fe - nI t) = nI t := by grind
    unfold wpX_isolate
    refine xv_o hN hv (br_f yn_10 ⟨N + 1, ?_⟩)
    exact hX post fm fe fr fe ds ho pa tD tH (N + 1) (by omega) (by rw [e]; exact hp)
  · intro post gs gm gc d h r hp
    have e : (0 : Int32) + nI t = nI t := by grind
    unfold wpY_isolate
    refine yv_o hN hv (br_f yn_10 ⟨N + 1, ?_⟩)
    exact hY post gs gm gc 0 d h r (N + 1) (by omega) (by rw [e]; exact hp)
end
