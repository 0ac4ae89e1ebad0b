section
/-! rows taken from kit/rows/PURE-ROWS -/
section
theorem pk_us {f : Nat → Int32} {k : Nat} {x : Int32} : upd f k x k = x := if_pos rfl
theorem pk_un {f : Nat → Int32} {k j : Nat} {x : Int32} (h : j ≠ k) : upd f k x j = f j := if_neg h
theorem pk_sub {a b : Nat} (h : b ≤ a) : nI a - nI b = nI (a - b) := by
  obtain ⟨c, rfl⟩ : ∃ c, a = c + b := ⟨a - b, by omega⟩
  rw [← nI_add, Int32.add_sub_cancel, Nat.add_sub_cancel]
theorem pk_mul (a b : Nat) : nI a * nI b = nI (a * b) := (Int32.ofNat_mul a b).symm
theorem pk_div {a d : Nat} (ha : a < 2 ^ 31) (h0 : 0 < d) (hd : d < 2 ^ 31) : nI a / nI d = nI (a / d) := by
  apply Int32.toInt_inj.mp
  rw [lg_idiv_nonneg (by rw [nI_toInt ha]; omega) (by rw [nI_toInt hd]; omega), nI_toInt ha, nI_toInt hd, nI_toInt (Nat.lt_of_le_of_lt (Nat.div_le_self a d) ha)]
  first | rfl | exact (Int.natCast_ediv _ _).symm
theorem pk_rem {a d : Nat} (ha : a < 2 ^ 31) (h0 : 0 < d) (hd : d < 2 ^ 31) : nI a - nI a / nI d * nI d = nI (a % d) := by
  rw [pk_div ha h0 hd, pk_mul, pk_sub (Nat.div_mul_le_self a d)]
  exact congrArg nI (by have := Nat.div_add_mod' a d; omega)
theorem pk_ix (x : Int32) {n : Nat} (hn : n < 2 ^ 31) : x < 0 ∨ nI n ≤ x ∨ ∃ j : Nat, j < n ∧ x = nI j := by
  by_cases h : x < 0
  · exact Or.inl h
  · obtain ⟨j, hj, rfl⟩ := nI_of h
    by_cases h2 : j < n
    · exact Or.inr (Or.inr ⟨j, h2, rfl⟩)
    · exact Or.inr (Or.inl (nI_le (by omega) hj))
end
end
section
/-! walks over plain integers: least weight, then least length; a relaxing process settles them -/
section
/-- there is a walk of k edges from s to v, of weight c -/
def sp_wk (E : Nat → Nat → Prop) (w : Nat → Nat → Int) (s : Nat) : Nat → Nat → Int → Prop
  | 0, v, c => v = s ∧ c = 0
  | k + 1, v, c => ∃ (u : Nat) (c' : Int), sp_wk E w s k u c' ∧ E u v ∧ c = c' + w u v
/-- k and c are the best walk's, by weight and then by length -/
def sp_best (E : Nat → Nat → Prop) (w : Nat → Nat → Int) (s v k : Nat) (c : Int) : Prop :=
  sp_wk E w s k v c ∧ ∀ (k' : Nat) (c' : Int), sp_wk E w s k' v c' → c < c' ∨ (c = c' ∧ k ≤ k')
theorem sp_ws {E : Nat → Nat → Prop} {w : Nat → Nat → Int} {s k u v : Nat} {c : Int} (a : sp_wk E w s k u c) (e : E u v) : sp_wk E w s (k + 1) v (c + w u v) := ⟨u, c, a, e, rfl⟩
theorem sp_lb {E : Nat → Nat → Prop} {w : Nat → Nat → Int} {s : Nat} {Q : Nat → Prop} {f : Nat → Int} (hs : Q s) (hQ : ∀ u v, E u v → Q u → Q v ∧ f v ≤ f u + w u v) : ∀ (k v : Nat) (c : Int), sp_wk E w s k v c → Q v ∧ f v - f s ≤ c := by
  intro k
  induction k with
  | zero =>
    intro v c h
    have h' : v = s ∧ c = 0 := h
    rw [h'.1, h'.2]
    exact ⟨hs, by omega⟩
  | succ k ih =>
    intro v c h
    have h' : ∃ (u : Nat) (c' : Int), sp_wk E w s k u c' ∧ E u v ∧ c = c' + w u v := h
    obtain ⟨u, c', h1, h2, h3⟩ := h'
    obtain ⟨q1, q2⟩ := ih u c' h1
    obtain ⟨q3, q4⟩ := hQ u v h2 q1
    exact ⟨q3, by omega⟩
theorem sp_least (P : Nat → Prop) : ∀ k, P k → ∃ m, P m ∧ ∀ j, j < m → ¬ P j := by
  intro k
  induction k using Nat.strongRecOn with
  | ind k ih =>
    intro hk
    by_cases q : ∃ j, j < k ∧ P j
    · obtain ⟨j, hj, pj⟩ := q
      exact ih j hj pj
    · exact ⟨k, hk, fun j hj pj => q ⟨j, hj, pj⟩⟩
theorem sp_bestE {E : Nat → Nat → Prop} {w : Nat → Nat → Int} {s : Nat} {Q : Nat → Prop} {f : Nat → Int} (hs : Q s) (hQ : ∀ u v, E u v → Q u → Q v ∧ f v ≤ f u + w u v) {k v : Nat} {c : Int} (h : sp_wk E w s k v c) : ∃ (k0 : Nat) (c0 : Int), sp_best E w s v k0 c0 := by
  have z := sp_least (fun m => ∃ (k : Nat) (c : Int), sp_wk E w s k v c ∧ (c - (f v - f s)).toNat = m) (c - (f v - f s)).toNat ⟨k, c, h, rfl⟩
  obtain ⟨m, ⟨k1, c1, h1, e1⟩, hm⟩ := z
  have hm' : ∀ (k' : Nat) (c' : Int), sp_wk E w s k' v c' → ¬ (c' - (f v - f s)).toNat < m := fun k' c' h' q => hm _ q ⟨k', c', h', rfl⟩
  obtain ⟨k0, h0, hk⟩ := sp_least (fun k => sp_wk E w s k v c1) k1 h1
  refine ⟨k0, c1, h0, fun k' c' h' => ?_⟩
  have b1 := (sp_lb hs hQ k1 v c1 h1).2
  have b2 := (sp_lb hs hQ k' v c' h').2
  have q := hm' k' c' h'
  by_cases e : c1 = c'
  · subst e
    have q3 : ¬ k' < k0 := fun z => hk k' z h'
    exact Or.inr ⟨rfl, by omega⟩
  · exact Or.inl (by omega)
theorem sp_prev {E : Nat → Nat → Prop} {w : Nat → Nat → Int} {s v k : Nat} {c : Int} (h : sp_best E w s v (k + 1) c) : ∃ (u : Nat) (c' : Int), sp_best E w s u k c' ∧ E u v ∧ c = c' + w u v := by
  obtain ⟨h1, h2⟩ := h
  have h1' : ∃ (u : Nat) (c' : Int), sp_wk E w s k u c' ∧ E u v ∧ c = c' + w u v := h1
  obtain ⟨u, c', a, e, q⟩ := h1'
  refine ⟨u, c', ⟨a, fun k2 c2 hk => ?_⟩, e, q⟩
  have z := h2 (k2 + 1) (c2 + w u v) (sp_ws hk e)
  omega
theorem sp_uniq {E : Nat → Nat → Prop} {w : Nat → Nat → Int} {s v k k' : Nat} {c c' : Int} (h : sp_best E w s v k c) (h' : sp_best E w s v k' c') : k = k' ∧ c = c' := by
  have a := h.2 k' c' h'.1
  have b := h'.2 k c h.1
  omega
theorem sp_pig : ∀ (N k : Nat) (f : Nat → Nat), (∀ j, j ≤ k → f j < N) → (∀ i j, i ≤ k → j ≤ k → f i = f j → i = j) → k < N := by
  intro N
  induction N with
  | zero => intro k f h _; exact absurd (h 0 (Nat.zero_le _)) (Nat.not_lt_zero _)
  | succ N ih =>
    intro k f h hi
    cases k with
    | zero => omega
    | succ k =>
      have q : k < N := by
        refine ih k (fun j => if f j = N then f (k + 1) else f j) ?_ ?_
        · intro j hj
          have a := h j (by omega)
          have b := h (k + 1) (Nat.le_refl _)
          show (if f j = N then f (k + 1) else f j) < N
          by_cases e : f j = N
          · rw [if_pos e]
            have z : f (k + 1) ≠ N := fun z => by
              have := hi j (k + 1) (by omega) (Nat.le_refl _) (e.trans z.symm)
              omega
            omega
          · rw [if_neg e]; omega
        · intro i j hi' hj' e'
          have e : (if f i = N then f (k + 1) else f i) = (if f j = N then f (k + 1) else f j) := e'
          by_cases a : f i = N
          · by_cases b : f j = N
            · exact hi i j (by omega) (by omega) (a.trans b.symm)
            · rw [if_pos a, if_neg b] at e
              have := hi (k + 1) j (Nat.le_refl _) (by omega) e
              omega
          · by_cases b : f j = N
            · rw [if_neg a, if_pos b] at e
              have := hi i (k + 1) (by omega) (Nat.le_refl _) e
              omega
            · rw [if_neg a, if_neg b] at e
              exact hi i j (by omega) (by omega) e
      omega
theorem sp_chain {E : Nat → Nat → Prop} {w : Nat → Nat → Int} {s N : Nat} (hs : s < N) (hE : ∀ u v, E u v → u < N ∧ v < N) : ∀ (k v : Nat) (c : Int), sp_best E w s v k c → ∃ f : Nat → Nat, ∀ j, j ≤ k → f j < N ∧ ∃ c', sp_best E w s (f j) j c' := by
  intro k
  induction k with
  | zero =>
    intro v c h
    have e : v = s ∧ c = 0 := h.1
    refine ⟨fun _ => v, fun j hj => ?_⟩
    have j0 : j = 0 := by omega
    subst j0
    exact ⟨by show v < N; omega, c, h⟩
  | succ k ih =>
    intro v c h
    obtain ⟨u, c', hb, he, _⟩ := sp_prev h
    obtain ⟨f, hf⟩ := ih u c' hb
    refine ⟨fun j => if j = k + 1 then v else f j, fun j hj => ?_⟩
    show (if j = k + 1 then v else f j) < N ∧ ∃ c', sp_best E w s (if j = k + 1 then v else f j) j c'
    by_cases e : j = k + 1
    · rw [if_pos e, e]
      exact ⟨(hE u v he).2, c, h⟩
    · rw [if_neg e]
      exact hf j (by omega)
theorem sp_len {E : Nat → Nat → Prop} {w : Nat → Nat → Int} {s N : Nat} (hs : s < N) (hE : ∀ u v, E u v → u < N ∧ v < N) {k v : Nat} {c : Int} (h : sp_best E w s v k c) : k < N := by
  obtain ⟨f, hf⟩ := sp_chain hs hE k v c h
  refine sp_pig N k f (fun j hj => (hf j hj).1) (fun i j hi hj e => ?_)
  obtain ⟨_, c1, b1⟩ := hf i hi
  obtain ⟨_, c2, b2⟩ := hf j hj
  rw [e] at b1
  exact (sp_uniq b1 b2).1
/-- at time T the edge (u, v) betters v -/
def sp_fire (E : Nat → Nat → Prop) (w : Nat → Nat → Int) (R : Nat → Nat → Prop) (D : Nat → Nat → Int) (H : Nat → Nat → Nat) (T u v : Nat) : Prop :=
  E u v ∧ R T u ∧ (¬ R T v ∨ D T u + w u v < D T v ∨ (D T u + w u v = D T v ∧ H T u + 1 < H T v))
/-- from time T to T + 1 the edge (u, v) is relaxed -/
def sp_step (E : Nat → Nat → Prop) (w : Nat → Nat → Int) (R : Nat → Nat → Prop) (D : Nat → Nat → Int) (H : Nat → Nat → Nat) (T u v : Nat) : Prop :=
  (sp_fire E w R D H T u v ∧ R (T + 1) v ∧ D (T + 1) v = D T u + w u v ∧ H (T + 1) v = H T u + 1 ∧ ∀ x, x ≠ v → (R (T + 1) x ↔ R T x) ∧ D (T + 1) x = D T x ∧ H (T + 1) x = H T x)
  ∨ (¬ sp_fire E w R D H T u v ∧ ∀ x, (R (T + 1) x ↔ R T x) ∧ D (T + 1) x = D T x ∧ H (T + 1) x = H T x)
/-- the process: all slots of a square of 32, over and over, up to time M -/
def sp_all (E : Nat → Nat → Prop) (w : Nat → Nat → Int) (R : Nat → Nat → Prop) (D : Nat → Nat → Int) (H : Nat → Nat → Nat) (M : Nat) : Prop :=
  ∀ T, T < M → sp_step E w R D H T (T % 1024 / 32) (T % 1024 % 32)
theorem sp_sound {E : Nat → Nat → Prop} {w : Nat → Nat → Int} {R : Nat → Nat → Prop} {D : Nat → Nat → Int} {H : Nat → Nat → Nat} {s M : Nat} (h0 : ∀ x, R 0 x → x = s ∧ D 0 x = 0 ∧ H 0 x = 0) (hs : sp_all E w R D H M) : ∀ T, T ≤ M → ∀ x, R T x → sp_wk E w s (H T x) x (D T x) := by
  intro T
  induction T with
  | zero =>
    intro _ x hx
    obtain ⟨a, b, c⟩ := h0 x hx
    rw [b, c]
    exact ⟨a, rfl⟩
  | succ T ih =>
    intro hT x hx
    have ih' := ih (by omega)
    rcases hs T (by omega) with ⟨f, _, d, h, o⟩ | ⟨_, o⟩
    · by_cases e : x = T % 1024 % 32
      · subst e
        rw [d, h]
        exact sp_ws (ih' _ f.2.1) f.1
      · obtain ⟨a, b, c⟩ := o x e
        rw [b, c]
        exact ih' x (a.mp hx)
    · obtain ⟨a, b, c⟩ := o x
      rw [b, c]
      exact ih' x (a.mp hx)
theorem sp_mono1 {E : Nat → Nat → Prop} {w : Nat → Nat → Int} {R : Nat → Nat → Prop} {D : Nat → Nat → Int} {H : Nat → Nat → Nat} {T u v : Nat} (h : sp_step E w R D H T u v) {x : Nat} (hx : R T x) : R (T + 1) x ∧ (D (T + 1) x < D T x ∨ (D (T + 1) x = D T x ∧ H (T + 1) x ≤ H T x)) := by
  rcases h with ⟨f, r, d, hh, o⟩ | ⟨_, o⟩
  · by_cases e : x = v
    · subst e
      refine ⟨r, ?_⟩
      rcases f.2.2 with q | q | q
      · exact absurd hx q
      · exact Or.inl (by omega)
      · exact Or.inr (by omega)
    · obtain ⟨a, b, c⟩ := o x e
      exact ⟨a.mpr hx, Or.inr (by omega)⟩
  · obtain ⟨a, b, c⟩ := o x
    exact ⟨a.mpr hx, Or.inr (by omega)⟩
theorem sp_mono {E : Nat → Nat → Prop} {w : Nat → Nat → Int} {R : Nat → Nat → Prop} {D : Nat → Nat → Int} {H : Nat → Nat → Nat} {M : Nat} (hs : sp_all E w R D H M) {x T : Nat} (hx : R T x) : ∀ e, T + e ≤ M → R (T + e) x ∧ (D (T + e) x < D T x ∨ (D (T + e) x = D T x ∧ H (T + e) x ≤ H T x)) := by
  intro e
  induction e with
  | zero => intro _; exact ⟨hx, Or.inr ⟨rfl, Nat.le_refl _⟩⟩
  | succ e ih =>
    intro hM
    obtain ⟨a, b⟩ := ih (by omega)
    obtain ⟨c, d⟩ := sp_mono1 (hs (T + e) (by omega)) a
    show R (T + e + 1) x ∧ (D (T + e + 1) x < D T x ∨ (D (T + e + 1) x = D T x ∧ H (T + e + 1) x ≤ H T x))
    exact ⟨c, by omega⟩
theorem sp_fix {E : Nat → Nat → Prop} {w : Nat → Nat → Int} {R : Nat → Nat → Prop} {D : Nat → Nat → Int} {H : Nat → Nat → Nat} {s M : Nat} (h0 : ∀ x, R 0 x → x = s ∧ D 0 x = 0 ∧ H 0 x = 0) (hs : sp_all E w R D H M) {v k T : Nat} {c : Int} (hb : sp_best E w s v k c) (hT : T ≤ M) (hr : R T v) (hle : D T v < c ∨ (D T v = c ∧ H T v ≤ k)) : D T v = c ∧ H T v = k := by
  have z := hb.2 _ _ (sp_sound h0 hs T hT v hr)
  omega
theorem sp_settle {E : Nat → Nat → Prop} {w : Nat → Nat → Int} {R : Nat → Nat → Prop} {D : Nat → Nat → Int} {H : Nat → Nat → Nat} {s M N : Nat} (hN : N ≤ 32) (hE : ∀ u v, E u v → u < N ∧ v < N) (hr0 : R 0 s) (h0 : ∀ x, R 0 x → x = s ∧ D 0 x = 0 ∧ H 0 x = 0) (hs : sp_all E w R D H M) : ∀ (j k v : Nat) (c : Int), sp_best E w s v k c → k ≤ j → ∀ T, 1024 * j ≤ T → T ≤ M → R T v ∧ D T v = c ∧ H T v = k := by
  intro j
  induction j with
  | zero =>
    intro k v c hb hk T _ hT
    have hk0 : k = 0 := by omega
    subst hk0
    have e : v = s ∧ c = 0 := hb.1
    have q := sp_mono hs hr0 T (by omega)
    rw [Nat.zero_add] at q
    obtain ⟨_, z1, z2⟩ := h0 s hr0
    obtain ⟨q1, q2⟩ := q
    rw [← e.1] at q1 q2 z1 z2
    exact ⟨q1, sp_fix h0 hs hb hT q1 (by omega)⟩
  | succ j ih =>
    intro k v c hb hk T hT hM
    by_cases hkj : k ≤ j
    · exact ih k v c hb hkj T (by omega) hM
    · have hk1 : k = j + 1 := by omega
      subst hk1
      obtain ⟨u, c', hb', he, hc⟩ := sp_prev hb
      obtain ⟨hu, hv⟩ := hE u v he
      obtain ⟨T0, hT0⟩ : ∃ T0, T0 = 1024 * j + (32 * u + v) := ⟨_, rfl⟩
      obtain ⟨r1, d1, h1⟩ := ih j u c' hb' (Nat.le_refl _) T0 (by omega) (by omega)
      have st := hs T0 (by omega)
      have eu : T0 % 1024 / 32 = u := by omega
      have ev : T0 % 1024 % 32 = v := by omega
      rw [eu, ev] at st
      have q : R (T0 + 1) v ∧ (D (T0 + 1) v < c ∨ (D (T0 + 1) v = c ∧ H (T0 + 1) v ≤ j + 1)) := by
        rcases st with ⟨_, r, d, h, _⟩ | ⟨nf, o⟩
        · exact ⟨r, Or.inr (by omega)⟩
        · obtain ⟨a, b, e⟩ := o v
          have rv : R T0 v := Classical.byContradiction fun z => nf ⟨he, r1, Or.inl z⟩
          have n1 : ¬ (D T0 u + w u v < D T0 v) := fun z => nf ⟨he, r1, Or.inr (Or.inl z)⟩
          have n2 : ¬ (D T0 u + w u v = D T0 v ∧ H T0 u + 1 < H T0 v) := fun z => nf ⟨he, r1, Or.inr (Or.inr z)⟩
          exact ⟨a.mpr rv, by omega⟩
      have m := sp_mono hs q.1 (T - (T0 + 1)) (by omega)
      rw [show T0 + 1 + (T - (T0 + 1)) = T by omega] at m
      obtain ⟨m1, m2⟩ := m
      obtain ⟨_, q2⟩ := q
      exact ⟨m1, sp_fix h0 hs hb hM m1 (by omega)⟩
/-- with a potential, nothing is bettered from the round N - 1 on -/
theorem sp_quiet {E : Nat → Nat → Prop} {w : Nat → Nat → Int} {R : Nat → Nat → Prop} {D : Nat → Nat → Int} {H : Nat → Nat → Nat} {s M N : Nat} {Q : Nat → Prop} {f : Nat → Int} (hN : N ≤ 32) (hsN : s < N) (hE : ∀ u v, E u v → u < N ∧ v < N) (hr0 : R 0 s) (h0 : ∀ x, R 0 x → x = s ∧ D 0 x = 0 ∧ H 0 x = 0) (hs : sp_all E w R D H M) (hQs : Q s) (hQ : ∀ u v, E u v → Q u → Q v ∧ f v ≤ f u + w u v) {T u v : Nat} (h1 : 1024 * (N - 1) ≤ T) (h2 : T < M) : ¬ sp_fire E w R D H T u v := by
  intro hf
  obtain ⟨he, hr, hi⟩ := hf
  have wu := sp_sound h0 hs T (by omega) u hr
  have wv := sp_ws wu he
  obtain ⟨ku, cu, bu⟩ := sp_bestE hQs hQ wu
  obtain ⟨kv, cv, bv⟩ := sp_bestE hQs hQ wv
  have lu := sp_len hsN hE bu
  have lv := sp_len hsN hE bv
  obtain ⟨_, a, b⟩ := sp_settle hN hE hr0 h0 hs (N - 1) ku u cu bu (by omega) T h1 (by omega)
  obtain ⟨r, c, d⟩ := sp_settle hN hE hr0 h0 hs (N - 1) kv v cv bv (by omega) T h1 (by omega)
  have z := bv.2 _ _ wv
  rcases hi with i | i | i
  · exact i r
  · omega
  · omega
end
end
section
/-! the process over arrays as the reference keeps them (reach, dist, hops), over the graph as the class keeps it (2147483647: no edge) -/
section
theorem dq_add {a b : Int32} (h1 : -2147483648 ≤ a.toInt + b.toInt) (h2 : a.toInt + b.toInt < 2147483648) : (a + b).toInt = a.toInt + b.toInt := by
  rw [Int32.toInt_add]
  exact Int.bmod_eq_of_le (by omega) (by omega)
theorem dq_t0 : (0 : Int32).toInt = 0 := by decide
theorem dq_t1 : (1 : Int32).toInt = 1 := by decide
theorem dq_tM : (2147483647 : Int32).toInt = 2147483647 := by decide
/-- every present edge has an allowed weight -/
def dq_gr (W : Nat → Int32) : Prop := ∀ k, k < 1024 → W k = 2147483647 ∨ (-1000 ≤ (W k).toInt ∧ (W k).toInt ≤ 1000)
/-- reach, dist, hops -/
abbrev dq_S : Type := (Nat → Int32) × (Nat → Int32) × (Nat → Int32)
/-- the slot k betters its head -/
abbrev dq_imp (W : Nat → Int32) (N : Nat) (q : dq_S) (k : Nat) : Prop :=
  k / 32 < N ∧ k % 32 < N ∧ ¬ W k = 2147483647 ∧ ¬ q.1 (k / 32) = 0 ∧ (q.1 (k % 32) = 0 ∨ q.2.1 (k / 32) + W k < q.2.1 (k % 32) ∨ (q.2.1 (k / 32) + W k = q.2.1 (k % 32) ∧ q.2.2 (k / 32) + 1 < q.2.2 (k % 32)))
def dq_up (W : Nat → Int32) (q : dq_S) (k : Nat) : dq_S := (upd q.1 (k % 32) 1, upd q.2.1 (k % 32) (q.2.1 (k / 32) + W k), upd q.2.2 (k % 32) (q.2.2 (k / 32) + 1))
def dq_st (W : Nat → Int32) (N : Nat) (q : dq_S) (k : Nat) : dq_S := if dq_imp W N q k then dq_up W q k else q
def dq_0 (s : Nat) : dq_S := (upd (fun _ => 0) s 1, fun _ => 0, fun _ => 0)
/-- after T slots, of the rounds one behind another -/
def dq_seq (W : Nat → Int32) (N s : Nat) : Nat → dq_S
  | 0 => dq_0 s
  | T + 1 => dq_st W N (dq_seq W N s T) (T % 1024)
/-- 'changed' in round j, after k slots -/
def dq_ch (W : Nat → Int32) (N s j : Nat) : Nat → Int32
  | 0 => 0
  | k + 1 => if dq_imp W N (dq_seq W N s (1024 * j + k)) k then 1 else dq_ch W N s j k
theorem dq_st_t {W : Nat → Int32} {N k : Nat} {q : dq_S} (h : dq_imp W N q k) : dq_st W N q k = dq_up W q k := if_pos h
theorem dq_st_f {W : Nat → Int32} {N k : Nat} {q : dq_S} (h : ¬ dq_imp W N q k) : dq_st W N q k = q := if_neg h
theorem dq_u1 {W : Nat → Int32} {q : dq_S} {k : Nat} : (dq_up W q k).1 (k % 32) = 1 := pk_us
theorem dq_u2 {W : Nat → Int32} {q : dq_S} {k : Nat} : (dq_up W q k).2.1 (k % 32) = q.2.1 (k / 32) + W k := pk_us
theorem dq_u3 {W : Nat → Int32} {q : dq_S} {k : Nat} : (dq_up W q k).2.2 (k % 32) = q.2.2 (k / 32) + 1 := pk_us
theorem dq_n1 {W : Nat → Int32} {q : dq_S} {k i : Nat} (h : i ≠ k % 32) : (dq_up W q k).1 i = q.1 i := pk_un h
theorem dq_n2 {W : Nat → Int32} {q : dq_S} {k i : Nat} (h : i ≠ k % 32) : (dq_up W q k).2.1 i = q.2.1 i := pk_un h
theorem dq_n3 {W : Nat → Int32} {q : dq_S} {k i : Nat} (h : i ≠ k % 32) : (dq_up W q k).2.2 i = q.2.2 i := pk_un h
theorem dq_seqS {W : Nat → Int32} {N s j k : Nat} (hk : k < 1024) : dq_seq W N s (1024 * j + (k + 1)) = dq_st W N (dq_seq W N s (1024 * j + k)) k := by
  have e : dq_seq W N s (1024 * j + (k + 1)) = dq_st W N (dq_seq W N s (1024 * j + k)) ((1024 * j + k) % 1024) := rfl
  rw [e, show (1024 * j + k) % 1024 = k by omega]
/-- what is reached has a small distance and few hops -/
def dq_bd (T : Nat) (q : dq_S) : Prop := ∀ i, q.1 i = 0 ∨ (q.1 i = 1 ∧ -(1000 * (T : Int)) ≤ (q.2.1 i).toInt ∧ (q.2.1 i).toInt ≤ 1000 * (T : Int) ∧ 0 ≤ (q.2.2 i).toInt ∧ (q.2.2 i).toInt ≤ (T : Int))
theorem dq_bd0 (s : Nat) : dq_bd 0 (dq_0 s) := by
  intro i
  by_cases e : i = s
  · refine Or.inr ⟨if_pos e, ?_⟩
    show -(1000 * ((0 : Nat) : Int)) ≤ (0 : Int32).toInt ∧ (0 : Int32).toInt ≤ 1000 * ((0 : Nat) : Int) ∧ 0 ≤ (0 : Int32).toInt ∧ (0 : Int32).toInt ≤ ((0 : Nat) : Int)
    rw [dq_t0]
    omega
  · exact Or.inl (if_neg e)
theorem dq_bdm {T : Nat} {q : dq_S} (h : dq_bd T q) : dq_bd (T + 1) q := by
  intro i
  rcases h i with z | ⟨z0, z1, z2, z3, z4⟩
  · exact Or.inl z
  · exact Or.inr ⟨z0, by omega, by omega, by omega, by omega⟩
/-- the sums do not wrap -/
theorem dq_sums {W : Nat → Int32} {T k u : Nat} {q : dq_S} (hW : dq_gr W) (hk : k < 1024) (hT : T ≤ 32768) (h : dq_bd T q) (h3 : ¬ W k = 2147483647) (h4 : ¬ q.1 u = 0) : (q.2.1 u + W k).toInt = (q.2.1 u).toInt + (W k).toInt ∧ (q.2.2 u + 1).toInt = (q.2.2 u).toInt + 1 ∧ -(1000 * (T : Int)) ≤ (q.2.1 u).toInt ∧ (q.2.1 u).toInt ≤ 1000 * (T : Int) ∧ 0 ≤ (q.2.2 u).toInt ∧ (q.2.2 u).toInt ≤ (T : Int) ∧ -1000 ≤ (W k).toInt ∧ (W k).toInt ≤ 1000 := by
  obtain ⟨_, u1, u2, u3, u4⟩ := (h u).resolve_left h4
  obtain ⟨w1, w2⟩ := (hW k hk).resolve_left h3
  have a1 := dq_add (a := q.2.1 u) (b := W k) (by omega) (by omega)
  have a2 := dq_add (a := q.2.2 u) (b := 1) (by rw [dq_t1]; omega) (by rw [dq_t1]; omega)
  rw [dq_t1] at a2
  exact ⟨a1, a2, u1, u2, u3, u4, w1, w2⟩
theorem dq_bdS {W : Nat → Int32} {N T k : Nat} {q : dq_S} (hW : dq_gr W) (hk : k < 1024) (hT : T ≤ 32768) (h : dq_bd T q) : dq_bd (T + 1) (dq_st W N q k) := by
  by_cases c : dq_imp W N q k
  · rw [dq_st_t c]
    obtain ⟨a1, a2, u1, u2, u3, u4, w1, w2⟩ := dq_sums hW hk hT h c.2.2.1 c.2.2.2.1
    intro i
    by_cases e : i = k % 32
    · rw [e, dq_u1, dq_u2, dq_u3, a1, a2]
      exact Or.inr ⟨rfl, by omega, by omega, by omega, by omega⟩
    · rw [dq_n1 e, dq_n2 e, dq_n3 e]
      exact dq_bdm h i
  · rw [dq_st_f c]
    exact dq_bdm h
theorem dq_bdT {W : Nat → Int32} {N s : Nat} (hW : dq_gr W) : ∀ T, T ≤ 32768 → dq_bd T (dq_seq W N s T) := by
  intro T
  induction T with
  | zero => intro _; exact dq_bd0 s
  | succ T ih => intro h; exact dq_bdS hW (Nat.mod_lt _ (by decide)) (by omega) (ih (by omega))
/-- beyond the 32 places nothing is stored -/
theorem dq_hi {W : Nat → Int32} {N s : Nat} (hs : s < 32) : ∀ T i, 32 ≤ i → (dq_seq W N s T).1 i = 0 ∧ (dq_seq W N s T).2.1 i = 0 ∧ (dq_seq W N s T).2.2 i = 0 := by
  intro T
  induction T with
  | zero => intro i hi; exact ⟨if_neg (by omega), rfl, rfl⟩
  | succ T ih =>
    intro i hi
    have e : dq_seq W N s (T + 1) = dq_st W N (dq_seq W N s T) (T % 1024) := rfl
    rw [e]
    by_cases c : dq_imp W N (dq_seq W N s T) (T % 1024)
    · rw [dq_st_t c, dq_n1 (by omega), dq_n2 (by omega), dq_n3 (by omega)]
      exact ih i hi
    · rw [dq_st_f c]
      exact ih i hi
/-- the process, read in integers -/
def dq_E (W : Nat → Int32) (N u v : Nat) : Prop := u < N ∧ v < N ∧ ¬ W (32 * u + v) = 2147483647
def dq_w (W : Nat → Int32) (u v : Nat) : Int := (W (32 * u + v)).toInt
def dq_R (W : Nat → Int32) (N s T v : Nat) : Prop := ¬ (dq_seq W N s T).1 v = 0
def dq_D (W : Nat → Int32) (N s T v : Nat) : Int := ((dq_seq W N s T).2.1 v).toInt
def dq_H (W : Nat → Int32) (N s T v : Nat) : Nat := ((dq_seq W N s T).2.2 v).toInt.toNat
theorem dq_fire {W : Nat → Int32} {N s T : Nat} (hW : dq_gr W) (hT : T < 32768) : dq_imp W N (dq_seq W N s T) (T % 1024) ↔ sp_fire (dq_E W N) (dq_w W) (dq_R W N s) (dq_D W N s) (dq_H W N s) T (T % 1024 / 32) (T % 1024 % 32) := by
  have hb := dq_bdT (N := N) (s := s) hW T (by omega)
  have hk : T % 1024 < 1024 := Nat.mod_lt _ (by decide)
  unfold sp_fire dq_E dq_w dq_R dq_D dq_H
  rw [Nat.div_add_mod]
  generalize dq_seq W N s T = q at hb ⊢
  generalize T % 1024 = k at hk ⊢
  constructor
  · intro c
    obtain ⟨h1, h2, h3, h4, h5⟩ := c
    refine ⟨⟨h1, h2, h3⟩, h4, ?_⟩
    obtain ⟨a1, a2, u1, u2, u3, u4, w1, w2⟩ := dq_sums hW hk (by omega) hb h3 h4
    by_cases v0 : q.1 (k % 32) = 0
    · exact Or.inl (fun n => n v0)
    · obtain ⟨_, v1, v2, v3, v4⟩ := (hb (k % 32)).resolve_left v0
      rcases h5 with z | z | ⟨z1, z2⟩
      · exact absurd z v0
      · rw [Int32.lt_iff_toInt_lt, a1] at z
        exact Or.inr (Or.inl z)
      · rw [Int32.lt_iff_toInt_lt, a2] at z2
        have z3 := congrArg Int32.toInt z1
        rw [a1] at z3
        exact Or.inr (Or.inr ⟨z3, by omega⟩)
  · intro c
    obtain ⟨⟨h1, h2, h3⟩, h4, h5⟩ := c
    refine ⟨h1, h2, h3, h4, ?_⟩
    obtain ⟨a1, a2, u1, u2, u3, u4, w1, w2⟩ := dq_sums hW hk (by omega) hb h3 h4
    by_cases v0 : q.1 (k % 32) = 0
    · exact Or.inl v0
    · obtain ⟨_, v1, v2, v3, v4⟩ := (hb (k % 32)).resolve_left v0
      rcases h5 with z | z | ⟨z1, z2⟩
      · exact absurd v0 z
      · refine Or.inr (Or.inl ?_)
        rw [Int32.lt_iff_toInt_lt, a1]
        exact z
      · refine Or.inr (Or.inr ⟨Int32.toInt_inj.mp (by rw [a1]; exact z1), ?_⟩)
        rw [Int32.lt_iff_toInt_lt, a2]
        omega
theorem dq_step {W : Nat → Int32} {N s : Nat} (hW : dq_gr W) : sp_all (dq_E W N) (dq_w W) (dq_R W N s) (dq_D W N s) (dq_H W N s) 32768 := by
  intro T hT
  have hf := dq_fire (N := N) (s := s) hW hT
  have hb := dq_bdT (N := N) (s := s) hW T (by omega)
  have hk : T % 1024 < 1024 := Nat.mod_lt _ (by decide)
  have e : dq_seq W N s (T + 1) = dq_st W N (dq_seq W N s T) (T % 1024) := rfl
  by_cases c : dq_imp W N (dq_seq W N s T) (T % 1024)
  · rw [dq_st_t c] at e
    obtain ⟨a1, a2, u1, u2, u3, u4, w1, w2⟩ := dq_sums hW hk (by omega) hb c.2.2.1 c.2.2.2.1
    refine Or.inl ⟨hf.mp c, ?_, ?_, ?_, fun x hx => ⟨?_, ?_, ?_⟩⟩
    · unfold dq_R
      rw [e, dq_u1]
      decide
    · unfold dq_D dq_w
      rw [e, dq_u2, a1, Nat.div_add_mod]
    · unfold dq_H
      rw [e, dq_u3, a2]
      omega
    · unfold dq_R
      rw [e, dq_n1 hx]
    · unfold dq_D
      rw [e, dq_n2 hx]
    · unfold dq_H
      rw [e, dq_n3 hx]
  · rw [dq_st_f c] at e
    refine Or.inr ⟨fun z => c (hf.mpr z), fun x => ⟨?_, ?_, ?_⟩⟩
    · unfold dq_R
      rw [e]
    · unfold dq_D
      rw [e]
    · unfold dq_H
      rw [e]
theorem dq_R0 {W : Nat → Int32} {N s : Nat} : dq_R W N s 0 s := by
  unfold dq_R
  show ¬ upd (fun _ => 0) s 1 s = 0
  rw [pk_us]
  decide
theorem dq_D0 {W : Nat → Int32} {N s : Nat} : ∀ x, dq_R W N s 0 x → x = s ∧ dq_D W N s 0 x = 0 ∧ dq_H W N s 0 x = 0 := by
  intro x hx
  refine ⟨Classical.byContradiction fun z => hx (if_neg z), dq_t0, ?_⟩
  show (0 : Int32).toInt.toNat = 0
  rw [dq_t0]
  rfl
theorem dq_ch01 {W : Nat → Int32} {N s j : Nat} : ∀ k, dq_ch W N s j k = 0 ∨ dq_ch W N s j k = 1 := by
  intro k
  induction k with
  | zero => exact Or.inl rfl
  | succ k ih =>
    show (if dq_imp W N (dq_seq W N s (1024 * j + k)) k then (1 : Int32) else dq_ch W N s j k) = 0 ∨ (if dq_imp W N (dq_seq W N s (1024 * j + k)) k then (1 : Int32) else dq_ch W N s j k) = 1
    by_cases c : dq_imp W N (dq_seq W N s (1024 * j + k)) k
    · rw [if_pos c]; exact Or.inr rfl
    · rw [if_neg c]; exact ih
theorem dq_chT {W : Nat → Int32} {N s j k : Nat} (c : dq_imp W N (dq_seq W N s (1024 * j + k)) k) : dq_ch W N s j (k + 1) = 1 := if_pos c
theorem dq_chF {W : Nat → Int32} {N s j k : Nat} (c : ¬ dq_imp W N (dq_seq W N s (1024 * j + k)) k) : dq_ch W N s j (k + 1) = dq_ch W N s j k := if_neg c
theorem dq_ch0 {W : Nat → Int32} {N s j : Nat} : ∀ k, dq_ch W N s j k = 0 ↔ ∀ i, i < k → ¬ dq_imp W N (dq_seq W N s (1024 * j + i)) i := by
  intro k
  induction k with
  | zero => exact ⟨fun _ i hi => absurd hi (Nat.not_lt_zero _), fun _ => rfl⟩
  | succ k ih =>
    by_cases c : dq_imp W N (dq_seq W N s (1024 * j + k)) k
    · rw [dq_chT c]
      exact ⟨fun h => absurd h (by decide), fun h => absurd c (h k (Nat.lt_succ_self k))⟩
    · rw [dq_chF c, ih]
      constructor
      · intro h i hi
        by_cases e : i = k
        · rw [e]; exact c
        · exact h i (by omega)
      · intro h i hi
        exact h i (by omega)
/-- a quiet round stays quiet -/
theorem dq_const {W : Nat → Int32} {N s j : Nat} (h : dq_ch W N s j 1024 = 0) : (∀ i, i < 1024 → ¬ dq_imp W N (dq_seq W N s (1024 * j)) i) ∧ ∀ e, dq_seq W N s (1024 * j + e) = dq_seq W N s (1024 * j) := by
  have h' := (dq_ch0 1024).mp h
  have a : ∀ k, k ≤ 1024 → dq_seq W N s (1024 * j + k) = dq_seq W N s (1024 * j) := by
    intro k
    induction k with
    | zero => intro _; rfl
    | succ k ih =>
      intro hk
      rw [dq_seqS (by omega), dq_st_f (h' k (by omega))]
      exact ih (by omega)
  have b : ∀ i, i < 1024 → ¬ dq_imp W N (dq_seq W N s (1024 * j)) i := by
    intro i hi
    have z := h' i hi
    rw [a i (by omega)] at z
    exact z
  refine ⟨b, fun e => ?_⟩
  induction e with
  | zero => rfl
  | succ e ih =>
    have z : dq_seq W N s (1024 * j + (e + 1)) = dq_st W N (dq_seq W N s (1024 * j + e)) ((1024 * j + e) % 1024) := rfl
    rw [z, ih, dq_st_f (b _ (Nat.mod_lt _ (by decide)))]
theorem dq_later {W : Nat → Int32} {N s j j' : Nat} (h : dq_ch W N s j 1024 = 0) (hj : j ≤ j') : dq_seq W N s (1024 * j') = dq_seq W N s (1024 * j) ∧ dq_ch W N s j' 1024 = 0 := by
  obtain ⟨b, a⟩ := dq_const h
  have e : ∀ k, dq_seq W N s (1024 * j' + k) = dq_seq W N s (1024 * j) := by
    intro k
    have z := a (1024 * (j' - j) + k)
    rw [show 1024 * j + (1024 * (j' - j) + k) = 1024 * j' + k by omega] at z
    exact z
  refine ⟨e 0, (dq_ch0 1024).mpr fun i hi => ?_⟩
  rw [e i]
  exact b i hi
/-- a potential: no negative cycle can be reached -/
def dq_ok (W : Nat → Int32) (N s : Nat) : Prop := ∃ (Q : Nat → Prop) (f : Nat → Int), Q s ∧ ∀ u v, dq_E W N u v → Q u → Q v ∧ f v ≤ f u + dq_w W u v
theorem dq_okq {W : Nat → Int32} {N s : Nat} (hW : dq_gr W) (hN : N ≤ 32) (hs : s < N) (h : dq_ok W N s) : dq_ch W N s (N - 1) 1024 = 0 := by
  obtain ⟨Q, f, q1, q2⟩ := h
  refine (dq_ch0 1024).mpr fun i hi => ?_
  have hT : 1024 * (N - 1) + i < 32768 := by omega
  have z := dq_fire (N := N) (s := s) hW hT
  rw [show (1024 * (N - 1) + i) % 1024 = i by omega] at z
  intro c
  exact sp_quiet hN hs (fun u v e => ⟨e.1, e.2.1⟩) dq_R0 dq_D0 (dq_step hW) q1 q2 (by omega) hT (z.mp c)
theorem dq_qok {W : Nat → Int32} {N s : Nat} (hW : dq_gr W) (hN : N ≤ 32) (hs : s < N) (h : dq_ch W N s (N - 1) 1024 = 0) : dq_ok W N s := by
  obtain ⟨_, a⟩ := dq_const h
  have h' := (dq_ch0 1024).mp h
  have hm := sp_mono (dq_step (N := N) (s := s) hW) (dq_R0 (W := W) (N := N) (s := s)) (1024 * (N - 1)) (by omega)
  rw [Nat.zero_add] at hm
  refine ⟨dq_R W N s (1024 * (N - 1)), dq_D W N s (1024 * (N - 1)), hm.1, fun u v he hu => ?_⟩
  obtain ⟨e1, e2, e3⟩ := he
  have hT : 1024 * (N - 1) + (32 * u + v) < 32768 := by omega
  have z := dq_fire (N := N) (s := s) hW hT
  rw [show (1024 * (N - 1) + (32 * u + v)) % 1024 = 32 * u + v by omega, show (32 * u + v) / 32 = u by omega, show (32 * u + v) % 32 = v by omega] at z
  have nf := fun y => h' (32 * u + v) (by omega) (z.mpr y)
  have er : ∀ x, dq_R W N s (1024 * (N - 1) + (32 * u + v)) x ↔ dq_R W N s (1024 * (N - 1)) x := fun x => by
    unfold dq_R
    rw [a]
  have ed : ∀ x, dq_D W N s (1024 * (N - 1) + (32 * u + v)) x = dq_D W N s (1024 * (N - 1)) x := fun x => by
    unfold dq_D
    rw [a]
  have hu' := (er u).mpr hu
  constructor
  · exact (er v).mp (Classical.byContradiction fun y => nf ⟨⟨e1, e2, e3⟩, hu', Or.inl y⟩)
  · rw [← ed u, ← ed v]
    exact Int.not_lt.mp fun y => nf ⟨⟨e1, e2, e3⟩, hu', Or.inr (Or.inl y)⟩
theorem dq_okS {W W' : Nat → Int32} {N s : Nat} (hN : N ≤ 32) (hW : ∀ k, k < 1024 → ¬ W' k = 2147483647 → W' k = W k) (h : dq_ok W N s) : dq_ok W' N s := by
  obtain ⟨Q, f, q1, q2⟩ := h
  refine ⟨Q, f, q1, fun u v e hu => ?_⟩
  obtain ⟨e1, e2, e3⟩ := e
  have z := hW (32 * u + v) (by omega) e3
  have y := q2 u v ⟨e1, e2, by rw [← z]; exact e3⟩ hu
  unfold dq_w at y ⊢
  rw [z]
  exact y
theorem dq_ok0 {W : Nat → Int32} {N s : Nat} (hN : N ≤ 32) (hW : ∀ k, k < 1024 → W k = 2147483647) : dq_ok W N s :=
  ⟨fun _ => True, fun _ => 0, trivial, fun u v e _ => absurd (hW (32 * u + v) (by have := e.1; have := e.2.1; omega)) e.2.2⟩
end
end
section
/-! the reference's compute against the process -/
section
variable {N s : Nat} {gs gm gc : Int32} {W pr wt d h r : Nat → Int32}
/-- the class's graph and the reference's -/
def yg_ok (W pr wt : Nat → Int32) : Prop := ∀ k, k < 1024 → (pr k = 0 ∧ W k = 2147483647) ∨ (pr k = 1 ∧ ¬ W k = 2147483647 ∧ wt k = W k ∧ -1000 ≤ (W k).toInt ∧ (W k).toInt ≤ 1000)
theorem yg_gr (h : yg_ok W pr wt) : dq_gr W := by
  intro k hk
  rcases h k hk with ⟨_, a⟩ | ⟨_, _, _, a, b⟩
  · exact Or.inl a
  · exact Or.inr ⟨a, b⟩
theorem yn_10 : ¬ (1 : Int32) = 0 := by decide
theorem yn_b1 : vp_nar .boolean 1 = 1 := by decide
theorem yn_b0 : vp_nar .boolean 0 = 0 := by decide
theorem yn_nb {x : Int32} (h : x = 0 ∨ x = 1) : narrow .boolean (.int x) = .int x := by
  rcases h with e | e
  · rw [e]; rfl
  · rw [e]; rfl
theorem yc_step {post : Int32 → SY → Prop} {J49 : Int32 → Int32 → (Nat → Int32) → (Nat → Int32) → (Nat → Int32) → (Nat → Int32) → (Nat → Int32) → Prop} {x2 x1 : Int32} {n k : Nat} {q : dq_S} (hN : N ≤ 32) (hk : k < 1024) (hg : yg_ok W pr wt)
    (hF : ¬ dq_imp W N q k → wY_compute_61 post J49 x2 (nI N) gs gm gc n x1 (nI (k + 1)) pr wt q.2.1 q.2.2 q.1)
    (hT : dq_imp W N q k → wY_compute_61 post J49 x2 (nI N) gs gm gc n 1 (nI (k + 1)) pr wt (dq_up W q k).2.1 (dq_up W q k).2.2 (dq_up W q k).1) :
    wY_compute_61 post J49 x2 (nI N) gs gm gc (n + 1) x1 (nI k) pr wt q.2.1 q.2.2 q.1 := by
  obtain ⟨r, d, h⟩ := q
  have hk' : ¬ (1024 : Int32) ≤ nI k := nI_ge (b := 1024) hk (by decide)
  have e4 : nI k / 32 = nI (k / 32) := pk_div (d := 32) (by omega) (by decide) (by decide)
  have e5 : nI k - nI k / 32 * 32 = nI (k % 32) := pk_rem (d := 32) (by omega) (by decide) (by decide)
  have ek : (nI k).toNatClampNeg = k := nI_clamp (by omega)
  have eu : (nI (k / 32)).toNatClampNeg = k / 32 := nI_clamp (by omega)
  have ev : (nI (k % 32)).toNatClampNeg = k % 32 := nI_clamp (by omega)
  have vk : vp_in (nI k) 1024 := vp_in_nI hk (by decide)
  have vu : vp_in (nI (k / 32)) 32 := vp_in_nI (by omega) (by decide)
  have vv : vp_in (nI (k % 32)) 32 := vp_in_nI (by omega) (by decide)
  have n32 : ¬ (32 : Int32) = 0 := by decide
  have hT' : dq_imp W N (r, d, h) k → wY_compute_190 post J49 (wY_compute_61 post J49 x2 (nI N) gs gm gc n) x2 (nI k) (nI (k % 32)) (d (k / 32) + W k) (h (k / 32) + 1) (nI N) gs gm gc pr wt d h r := fun c =>
    ⟨vv, nm_r (show upd r (nI (k % 32)).toNatClampNeg (vp_nar .boolean 1) = upd r (k % 32) 1 by rw [ev, yn_b1]) ⟨vv, nm_r (show upd d (nI (k % 32)).toNatClampNeg (d (k / 32) + W k) = upd d (k % 32) (d (k / 32) + W k) by rw [ev]) ⟨vv, nm_r (show upd h (nI (k % 32)).toNatClampNeg (h (k / 32) + 1) = upd h (k % 32) (h (k / 32) + 1) by rw [ev]) (nm_r (nI_1 k) (hT c))⟩⟩⟩
  refine br_f hk' ⟨n32, nm_r e4 ⟨n32, nm_r e5 ?_⟩⟩
  by_cases a1 : N ≤ k / 32
  · exact br_t (nI_le a1 (by omega)) (nm_r (nI_1 k) (hF fun c => absurd c.1 (by omega)))
  refine br_f (nI_ge (by omega) (by omega)) ?_
  by_cases a2 : N ≤ k % 32
  · exact br_t (nI_le a2 (by omega)) (nm_r (nI_1 k) (hF fun c => absurd c.2.1 (by omega)))
  refine br_f (nI_ge (by omega) (by omega)) ⟨vk, ?_⟩
  rcases hg k hk with ⟨p0, w0⟩ | ⟨p1, w1, ew, _, _⟩
  · exact br_t (by rw [ek]; exact p0) (nm_r (nI_1 k) (hF fun c => c.2.2.1 w0))
  refine br_f (by rw [ek, p1]; exact yn_10) ⟨vu, ?_⟩
  by_cases a3 : r (k / 32) = 0
  · exact br_t (by rw [eu]; exact a3) (nm_r (nI_1 k) (hF fun c => c.2.2.2.1 a3))
  refine br_f (by rw [eu]; exact a3) ⟨vu, vk, nm_r (show d (nI (k / 32)).toNatClampNeg + wt (nI k).toNatClampNeg = d (k / 32) + W k by rw [eu, ek, ew]) ⟨vu, nm_r (show h (nI (k / 32)).toNatClampNeg + 1 = h (k / 32) + 1 by rw [eu]) ⟨vv, ?_⟩⟩⟩
  by_cases a4 : r (k % 32) = 0
  · exact br_t (by rw [ev]; exact a4) (hT' ⟨by omega, by omega, w1, a3, Or.inl a4⟩)
  refine br_f (by rw [ev]; exact a4) ⟨vv, ?_⟩
  by_cases a5 : d (k / 32) + W k < d (k % 32)
  · exact br_t (by rw [ev]; exact a5) (hT' ⟨by omega, by omega, w1, a3, Or.inr (Or.inl a5)⟩)
  refine br_f (by rw [ev]; exact a5) ⟨vv, ?_⟩
  by_cases a6 : d (k / 32) + W k = d (k % 32)
  · refine br_t (by rw [ev]; exact a6) ⟨vv, ?_⟩
    by_cases a7 : h (k % 32) ≤ h (k / 32) + 1
    · refine br_t (by rw [ev]; exact a7) (nm_r (nI_1 k) (hF fun c => ?_))
      rcases c.2.2.2.2 with z | z | z
      · exact a4 z
      · exact a5 z
      · exact absurd a7 (Int32.not_le.mpr z.2)
    · exact br_f (by rw [ev]; exact a7) (hT' ⟨by omega, by omega, w1, a3, Or.inr (Or.inr ⟨a6, Int32.not_le.mp a7⟩)⟩)
  · refine br_f (by rw [ev]; exact a6) (nm_r (nI_1 k) (hF fun c => ?_))
    rcases c.2.2.2.2 with z | z | z
    · exact a4 z
    · exact a5 z
    · exact a6 z.1
theorem yc_61 {post : Int32 → SY → Prop} {J49 : Int32 → Int32 → (Nat → Int32) → (Nat → Int32) → (Nat → Int32) → (Nat → Int32) → (Nat → Int32) → Prop} {j : Nat} (hN : N ≤ 32) (hg : yg_ok W pr wt)
    (hJ : J49 (dq_ch W N s j 1024) (nI (j + 1)) pr wt (dq_seq W N s (1024 * (j + 1))).2.1 (dq_seq W N s (1024 * (j + 1))).2.2 (dq_seq W N s (1024 * (j + 1))).1) :
    ∀ e k, k + e = 1024 → ∀ n, e < n → wY_compute_61 post J49 (nI j) (nI N) gs gm gc n (dq_ch W N s j k) (nI k) pr wt (dq_seq W N s (1024 * j + k)).2.1 (dq_seq W N s (1024 * j + k)).2.2 (dq_seq W N s (1024 * j + k)).1 := by
  intro e
  induction e with
  | zero =>
    intro k hk n hn
    obtain ⟨n', rfl⟩ : ∃ n', n = n' + 1 := ⟨n - 1, by omega⟩
    have hk2 : k = 1024 := by omega
    subst hk2
    rw [show 1024 * j + 1024 = 1024 * (j + 1) by omega]
    exact br_t (nI_le (a := 1024) (b := 1024) (Nat.le_refl _) (by decide)) (nm_r (nI_1 j) hJ)
  | succ e ih =>
    intro k hk n hn
    obtain ⟨n', rfl⟩ : ∃ n', n = n' + 1 := ⟨n - 1, by omega⟩
    have z := ih (k + 1) (by omega) n' (by omega)
    rw [dq_seqS (by omega)] at z
    refine yc_step hN (by omega) hg (fun c => ?_) (fun c => ?_)
    · rw [dq_chF c, dq_st_f c] at z
      exact z
    · rw [dq_chT c, dq_st_t c] at z
      exact z
theorem yc_49 {post : Int32 → SY → Prop} (hN : N ≤ 32) (hN0 : 1 ≤ N) (hg : yg_ok W pr wt)
    (hp : post (if dq_ch W N s (N - 1) 1024 = 0 then 1 else 0) (nI N, gs, gm, gc, pr, wt, (dq_seq W N s (1024 * N)).2.1, (dq_seq W N s (1024 * N)).2.2, (dq_seq W N s (1024 * N)).1)) :
    ∀ e j, j + e = N → ∀ n, e < n → ∀ x1, (1 ≤ j → x1 = dq_ch W N s (j - 1) 1024) → wY_compute_49 post (nI N) gs gm gc n x1 (nI j) pr wt (dq_seq W N s (1024 * j)).2.1 (dq_seq W N s (1024 * j)).2.2 (dq_seq W N s (1024 * j)).1 := by
  intro e
  induction e with
  | zero =>
    intro j hj n hn x1 hx
    obtain ⟨n', rfl⟩ : ∃ n', n = n' + 1 := ⟨n - 1, by omega⟩
    have hj2 : j = N := by omega
    subst hj2
    rw [hx hN0]
    refine br_t (nI_le (Nat.le_refl _) (by omega)) ?_
    by_cases c : dq_ch W j s (j - 1) 1024 = 0
    · rw [if_pos c] at hp
      exact br_t c hp
    · rw [if_neg c] at hp
      exact br_f c hp
  | succ e ih =>
    intro j hj n hn x1 hx
    obtain ⟨n', rfl⟩ : ∃ n', n = n' + 1 := ⟨n - 1, by omega⟩
    refine br_f (nI_ge (by omega) (by omega)) ⟨1025, ?_⟩
    exact yc_61 hN hg (ih (j + 1) (by omega) n' (by omega) _ (fun _ => rfl)) 1024 0 rfl 1025 (by decide)
theorem yc_2 {post : Int32 → SY → Prop} (hN : N ≤ 32) (hN0 : 1 ≤ N) (hs : s < N) (hg : yg_ok W pr wt)
    (hp : post (if dq_ch W N s (N - 1) 1024 = 0 then 1 else 0) (nI N, nI s, gm, gc, pr, wt, (dq_seq W N s (1024 * N)).2.1, (dq_seq W N s (1024 * N)).2.2, (dq_seq W N s (1024 * N)).1)) :
    ∀ e i, i + e = 32 → ∀ n, e < n → ∀ d h r : Nat → Int32, (∀ x, x < i ∨ 32 ≤ x → r x = 0 ∧ d x = 0 ∧ h x = 0) → wY_compute_2 post (nI N) (nI s) gm gc n (nI i) pr wt d h r := by
  intro e
  induction e with
  | zero =>
    intro i hi n hn d h r hz
    obtain ⟨n', rfl⟩ : ∃ n', n = n' + 1 := ⟨n - 1, by omega⟩
    have hi2 : i = 32 := by omega
    subst hi2
    have e1 : r = fun _ => 0 := funext fun x => (hz x (by omega)).1
    have e2 : d = fun _ => 0 := funext fun x => (hz x (by omega)).2.1
    have e3 : h = fun _ => 0 := funext fun x => (hz x (by omega)).2.2
    have es : (nI s).toNatClampNeg = s := nI_clamp (by omega)
    subst e1 e2 e3
    exact br_t (nI_le (a := 32) (b := 32) (Nat.le_refl _) (by decide)) ⟨vp_in_nI (by omega) (by decide), nm_r (show upd (fun _ => 0) (nI s).toNatClampNeg (vp_nar .boolean 1) = upd (fun _ => 0) s 1 by rw [es, yn_b1]) ⟨N + 1, yc_49 hN hN0 hg hp N 0 (by omega) (N + 1) (by omega) 0 (fun z => absurd z (by decide))⟩⟩
  | succ e ih =>
    intro i hi n hn d h r hz
    obtain ⟨n', rfl⟩ : ∃ n', n = n' + 1 := ⟨n - 1, by omega⟩
    have ei : (nI i).toNatClampNeg = i := nI_clamp (by omega)
    have vi : vp_in (nI i) 32 := vp_in_nI (by omega) (by decide)
    refine br_f (nI_ge (b := 32) (by omega) (by decide)) ⟨vi, nm_r (show upd r (nI i).toNatClampNeg (vp_nar .boolean 0) = upd r i 0 by rw [ei, yn_b0]) ⟨vi, nm_r (show upd d (nI i).toNatClampNeg 0 = upd d i 0 by rw [ei]) ⟨vi, nm_r (show upd h (nI i).toNatClampNeg 0 = upd h i 0 by rw [ei]) (nm_r (nI_1 i) (ih (i + 1) (by omega) n' (by omega) _ _ _ fun x hx => ?_))⟩⟩⟩
    by_cases c : x = i
    · rw [c]
      exact ⟨pk_us, pk_us, pk_us⟩
    · rw [pk_un c, pk_un c, pk_un c]
      exact hz x (by omega)
/-- the reference's compute -/
theorem yc_compute {post : Int32 → SY → Prop} (hN : N ≤ 32) (hN0 : 1 ≤ N) (hs : s < N) (hg : yg_ok W pr wt) (hz : ∀ x, 32 ≤ x → r x = 0 ∧ d x = 0 ∧ h x = 0)
    (hp : post (if dq_ch W N s (N - 1) 1024 = 0 then 1 else 0) (nI N, nI s, gm, gc, pr, wt, (dq_seq W N s (1024 * N)).2.1, (dq_seq W N s (1024 * N)).2.2, (dq_seq W N s (1024 * N)).1)) :
    wpY_compute post (nI N, nI s, gm, gc, pr, wt, d, h, r) :=
  ⟨33, yc_2 hN hN0 hs hg hp 32 0 rfl 33 (by decide) d h r fun x hx => hz x (by omega)⟩
end
end
section
/-! the class's search against the process -/
section
variable {N s : Nat} {fm fs fe fr : Int32} {W ds ho pa tD tH : Nat → Int32}
/-- the class's distances and hops a, b stand for the state q, on the places below N -/
def xe_enc (N : Nat) (q : dq_S) (a b : Nat → Int32) : Prop := ∀ i, i < N → (q.1 i = 0 ∧ a i = 2147483647 ∧ b i = -1) ∨ (q.1 i = 1 ∧ a i = q.2.1 i ∧ b i = q.2.2 i)
theorem xe_0 {a b : Nat → Int32} (h : ∀ i, i < N → a i = 2147483647 ∧ b i = -1) : xe_enc N (dq_0 s) (upd a s 0) (upd b s 0) := by
  intro i hi
  by_cases e : i = s
  · rw [e, pk_us, pk_us]
    exact Or.inr ⟨if_pos rfl, rfl, rfl⟩
  · rw [pk_un e, pk_un e]
    exact Or.inl ⟨if_neg e, h i hi⟩
theorem xe_up {q : dq_S} {k : Nat} {a b : Nat → Int32} (h : xe_enc N q a b) : xe_enc N (dq_up W q k) (upd a (k % 32) (q.2.1 (k / 32) + W k)) (upd b (k % 32) (q.2.2 (k / 32) + 1)) := by
  intro i hi
  by_cases e : i = k % 32
  · rw [e]
    exact Or.inr ⟨dq_u1, pk_us.trans dq_u2.symm, pk_us.trans dq_u3.symm⟩
  · rw [pk_un e, pk_un e, dq_n1 e, dq_n2 e, dq_n3 e]
    exact h i hi
/-- reached is not 2147483647 -/
theorem xe_ne {T i : Nat} {q : dq_S} (hT : T ≤ 32768) (hb : dq_bd T q) (h : q.1 i = 1) : ¬ q.2.1 i = 2147483647 := by
  intro e
  rcases hb i with z | ⟨_, z1, z2, _, _⟩
  · rw [h] at z
    exact yn_10 z
  · rw [e, dq_tM] at z2
    omega
theorem xn_slot {u v : Nat} : nI u * 32 + nI v = nI (32 * u + v) := by
  have e : nI u * 32 = nI (u * 32) := pk_mul u 32
  rw [e, nI_add, Nat.mul_comm]
theorem xs_slot {post : Int32 → Prop} {u v : Nat} (h : post (nI (32 * u + v))) : wpX_slotOf post (nI u) (nI v) := by
  unfold wpX_slotOf
  rw [xn_slot]
  exact h
theorem xr_relax {post : Int32 → SX → Prop} {T u v k : Nat} {q : dq_S} (hN : N ≤ 32) (hk : k < 1024) (eu : k / 32 = u) (ev : k % 32 = v) (hu : u < N) (hv : v < N) (hW : dq_gr W) (hT : T ≤ 32767) (hb : dq_bd T q) (he : xe_enc N q tD tH) (hw : ¬ W k = 2147483647) (hr : q.1 u = 1)
    (hF : ¬ dq_imp W N q k → post 0 (nI N, fm, fs, fe, fr, W, ds, ho, pa, tD, tH))
    (hI : dq_imp W N q k → ∀ a b : Nat → Int32, xe_enc N (dq_up W q k) a b → post 1 (nI N, fm, fs, fe, fr, W, ds, ho, pa, a, b)) :
    wpX_relax post (nI N, fm, fs, fe, fr, W, ds, ho, pa, tD, tH) (nI u) (nI v) (W k) := by
  have cu : (nI u).toNatClampNeg = u := nI_clamp (by omega)
  have cv : (nI v).toNatClampNeg = v := nI_clamp (by omega)
  have vu : vp_in (nI u) 32 := vp_in_nI (by omega) (by decide)
  have vv : vp_in (nI v) 32 := vp_in_nI (by omega) (by decide)
  have hr0 : ¬ q.1 u = 0 := by rw [hr]; exact yn_10
  obtain ⟨_, du, hu'⟩ := (he u hu).resolve_left (fun z => hr0 z.1)
  obtain ⟨a1, a2, u1, u2, u3, u4, w1, w2⟩ := dq_sums hW hk (by omega) hb hw hr0
  have hi : (q.1 v = 0 ∨ q.2.1 u + W k < q.2.1 v ∨ (q.2.1 u + W k = q.2.1 v ∧ q.2.2 u + 1 < q.2.2 v)) → dq_imp W N q k := fun x => by
    refine ⟨by omega, by omega, hw, ?_, ?_⟩
    · rw [eu]; exact hr0
    · rw [eu, ev]; exact x
  have hx : dq_imp W N q k → (q.1 v = 0 ∨ q.2.1 u + W k < q.2.1 v ∨ (q.2.1 u + W k = q.2.1 v ∧ q.2.2 u + 1 < q.2.2 v)) := fun c => by
    have c5 := c.2.2.2.2
    rw [eu, ev] at c5
    exact c5
  have h55 : dq_imp W N q k → wX_relax_55 post (nI v) (q.2.1 u + W k) (q.2.2 u + 1) (nI N) fm fs fe fr W ds ho pa tD tH := fun c => by
    have z := hI c _ _ (xe_up (k := k) he)
    rw [eu, ev] at z
    exact ⟨vv, nm_r (show upd tD (nI v).toNatClampNeg (q.2.1 u + W k) = upd tD v (q.2.1 u + W k) by rw [cv]) ⟨vv, nm_r (show upd tH (nI v).toNatClampNeg (q.2.2 u + 1) = upd tH v (q.2.2 u + 1) by rw [cv]) z⟩⟩
  refine ⟨vu, nm_r (show tD (nI u).toNatClampNeg + W k = q.2.1 u + W k by rw [cu, du]) ⟨vu, nm_r (show tH (nI u).toNatClampNeg + 1 = q.2.2 u + 1 by rw [cu, hu']) ⟨vv, ?_⟩⟩⟩
  rcases he v hv with ⟨r0, dv, hv'⟩ | ⟨r1, dv, hv'⟩
  · have n1 : ¬ (2147483647 : Int32) < q.2.1 u + W k := by
      rw [Int32.lt_iff_toInt_lt, a1, dq_tM]; omega
    have n2 : ¬ q.2.1 u + W k = 2147483647 := fun z => by
      have z' := congrArg Int32.toInt z
      rw [a1, dq_tM] at z'
      omega
    exact br_f (by rw [cv, dv]; exact n1) ⟨vv, br_f (by rw [cv, dv]; exact n2) (h55 (hi (Or.inl r0)))⟩
  · have r0 : ¬ q.1 v = 0 := by rw [r1]; exact yn_10
    by_cases b1 : q.2.1 v < q.2.1 u + W k
    · refine br_t (by rw [cv, dv]; exact b1) (hF fun c => ?_)
      rw [Int32.lt_iff_toInt_lt] at b1
      rcases hx c with z | z | z
      · exact r0 z
      · rw [Int32.lt_iff_toInt_lt] at z
        omega
      · rw [z.1] at b1
        omega
    · refine br_f (by rw [cv, dv]; exact b1) ⟨vv, ?_⟩
      by_cases b2 : q.2.1 u + W k = q.2.1 v
      · refine br_t (by rw [cv, dv]; exact b2) ⟨vv, ?_⟩
        by_cases b3 : q.2.2 u + 1 < q.2.2 v
        · exact br_t (by rw [cv, hv']; exact b3) (h55 (hi (Or.inr (Or.inr ⟨b2, b3⟩))))
        · refine br_f (by rw [cv, hv']; exact b3) (hF fun c => ?_)
          rcases hx c with z | z | z
          · exact r0 z
          · rw [Int32.lt_iff_toInt_lt, b2] at z
            omega
          · exact b3 z.2
      · refine br_f (by rw [cv, dv]; exact b2) (h55 (hi (Or.inr (Or.inl ?_))))
        rw [Int32.lt_iff_toInt_lt] at b1 ⊢
        have b4 : ¬ (q.2.1 u + W k).toInt = (q.2.1 v).toInt := fun z => b2 (Int32.toInt_inj.mp z)
        omega
theorem xr_step {post : Int32 → SX → Prop} {J4 : Int32 → Int32 → Int32 → Int32 → Int32 → Int32 → Int32 → (Nat → Int32) → (Nat → Int32) → (Nat → Int32) → (Nat → Int32) → (Nat → Int32) → (Nat → Int32) → Prop} {x1 : Int32} {n T u v : Nat} {q : dq_S} (hN : N ≤ 32) (hu : u < N) (hv : v < N) (hW : dq_gr W) (hT : T ≤ 32767) (hb : dq_bd T q) (he : xe_enc N q tD tH)
    (hF : ¬ dq_imp W N q (32 * u + v) → wX_relaxAll_14 post J4 (nI u) n x1 (nI (v + 1)) (nI N) fm fs fe fr W ds ho pa tD tH)
    (hI : dq_imp W N q (32 * u + v) → ∀ a b : Nat → Int32, xe_enc N (dq_up W q (32 * u + v)) a b → wX_relaxAll_14 post J4 (nI u) n 1 (nI (v + 1)) (nI N) fm fs fe fr W ds ho pa a b) :
    wX_relaxAll_14 post J4 (nI u) (n + 1) x1 (nI v) (nI N) fm fs fe fr W ds ho pa tD tH := by
  have cu : (nI u).toNatClampNeg = u := nI_clamp (by omega)
  have ck : (nI (32 * u + v)).toNatClampNeg = 32 * u + v := nI_clamp (by omega)
  have eu : (32 * u + v) / 32 = u := by omega
  have ev : (32 * u + v) % 32 = v := by omega
  have hk : 32 * u + v < 1024 := by omega
  refine br_f (nI_ge hv (by omega)) (xs_slot ⟨vp_in_nI hk (by decide), nm_r (show W (nI (32 * u + v)).toNatClampNeg = W (32 * u + v) by rw [ck]) ?_⟩)
  by_cases c3 : W (32 * u + v) = 2147483647
  · exact br_t c3 (nm_r (nI_1 v) (hF fun c => c.2.2.1 c3))
  refine br_f c3 ⟨vp_in_nI (by omega) (by decide), ?_⟩
  rcases he u hu with ⟨r0, du, hu'⟩ | ⟨r1, du, hu'⟩
  · refine br_t (by rw [cu]; exact du) (nm_r (nI_1 v) (hF fun c => ?_))
    have c4 := c.2.2.2.1
    rw [eu] at c4
    exact c4 r0
  · refine br_f (by rw [cu, du]; exact xe_ne (by omega) hb r1) ?_
    refine xr_relax hN hk eu ev hu hv hW hT hb he c3 r1 (fun c => ?_) (fun c a b z => ?_)
    · exact br_t rfl (nm_r (nI_1 v) (hF c))
    · exact br_f yn_10 (nm_r (nI_1 v) (hI c a b z))
/-- the slots beyond the square do nothing -/
theorem xq_skip {j k : Nat} : ∀ e, k + e ≤ 1024 → (∀ i, k ≤ i → i < k + e → N ≤ i / 32 ∨ N ≤ i % 32) → dq_seq W N s (1024 * j + (k + e)) = dq_seq W N s (1024 * j + k) ∧ dq_ch W N s j (k + e) = dq_ch W N s j k := by
  intro e
  induction e with
  | zero => intro _ _; exact ⟨rfl, rfl⟩
  | succ e ih =>
    intro h1 h2
    obtain ⟨a, b⟩ := ih (by omega) (fun i hi hi2 => h2 i hi (by omega))
    have c : ¬ dq_imp W N (dq_seq W N s (1024 * j + (k + e))) (k + e) := fun c => by
      have z1 := c.1
      have z2 := c.2.1
      have z3 := h2 (k + e) (by omega) (by omega)
      omega
    refine ⟨?_, ?_⟩
    · show dq_seq W N s (1024 * j + (k + e + 1)) = _
      rw [dq_seqS (by omega), dq_st_f c, a]
    · show dq_ch W N s j (k + e + 1) = _
      rw [dq_chF c, b]
theorem xr_14 {post : Int32 → SX → Prop} {J4 : Int32 → Int32 → Int32 → Int32 → Int32 → Int32 → Int32 → (Nat → Int32) → (Nat → Int32) → (Nat → Int32) → (Nat → Int32) → (Nat → Int32) → (Nat → Int32) → Prop} {j u : Nat} (hN : N ≤ 32) (hj : j < N) (hu : u < N) (hW : dq_gr W)
    (hJ : ∀ a b : Nat → Int32, xe_enc N (dq_seq W N s (1024 * j + 32 * (u + 1))) a b → J4 (dq_ch W N s j (32 * (u + 1))) (nI (u + 1)) (nI N) fm fs fe fr W ds ho pa a b) :
    ∀ e v, v + e = N → ∀ n, e < n → ∀ tD tH : Nat → Int32, xe_enc N (dq_seq W N s (1024 * j + (32 * u + v))) tD tH → wX_relaxAll_14 post J4 (nI u) n (dq_ch W N s j (32 * u + v)) (nI v) (nI N) fm fs fe fr W ds ho pa tD tH := by
  intro e
  induction e with
  | zero =>
    intro v hv n hn tD tH he
    obtain ⟨n', rfl⟩ : ∃ n', n = n' + 1 := ⟨n - 1, by omega⟩
    have hv2 : v = N := by omega
    subst hv2
    obtain ⟨a, b⟩ := xq_skip (W := W) (N := v) (s := s) (j := j) (k := 32 * u + v) (32 - v) (by omega) (fun i h1 h2 => by omega)
    rw [show 32 * u + v + (32 - v) = 32 * (u + 1) by omega] at a b
    rw [← a] at he
    rw [← b]
    exact br_t (nI_le (Nat.le_refl _) (by omega)) (nm_r (nI_1 u) (hJ tD tH he))
  | succ e ih =>
    intro v hv n hn tD tH he
    obtain ⟨n', rfl⟩ : ∃ n', n = n' + 1 := ⟨n - 1, by omega⟩
    have z := ih (v + 1) (by omega) n' (by omega)
    rw [show 32 * u + (v + 1) = 32 * u + v + 1 by omega, dq_seqS (by omega)] at z
    refine xr_step (T := 1024 * j + (32 * u + v)) hN hu (by omega) hW (by omega) (dq_bdT hW _ (by omega)) he (fun c => ?_) (fun c a b y => ?_)
    · rw [dq_chF c, dq_st_f c] at z
      exact z tD tH he
    · rw [dq_chT c, dq_st_t c] at z
      exact z a b y
theorem xr_4 {post : Int32 → SX → Prop} {j : Nat} (hN : N ≤ 32) (hj : j < N) (hW : dq_gr W)
    (hp : ∀ a b : Nat → Int32, xe_enc N (dq_seq W N s (1024 * (j + 1))) a b → post (dq_ch W N s j 1024) (nI N, fm, fs, fe, fr, W, ds, ho, pa, a, b)) :
    ∀ e u, u + e = N → ∀ n, e < n → ∀ tD tH : Nat → Int32, xe_enc N (dq_seq W N s (1024 * j + 32 * u)) tD tH → wX_relaxAll_4 post n (dq_ch W N s j (32 * u)) (nI u) (nI N) fm fs fe fr W ds ho pa tD tH := by
  intro e
  induction e with
  | zero =>
    intro u hu n hn tD tH he
    obtain ⟨n', rfl⟩ : ∃ n', n = n' + 1 := ⟨n - 1, by omega⟩
    have hu2 : u = N := by omega
    subst hu2
    obtain ⟨a, b⟩ := xq_skip (W := W) (N := u) (s := s) (j := j) (k := 32 * u) (1024 - 32 * u) (by omega) (fun i h1 h2 => by omega)
    rw [show 32 * u + (1024 - 32 * u) = 1024 by omega] at a b
    rw [← a, show 1024 * j + 1024 = 1024 * (j + 1) by omega] at he
    rw [← b]
    exact br_t (nI_le (Nat.le_refl _) (by omega)) ⟨yn_nb (dq_ch01 1024), hp tD tH he⟩
  | succ e ih =>
    intro u hu n hn tD tH he
    obtain ⟨n', rfl⟩ : ∃ n', n = n' + 1 := ⟨n - 1, by omega⟩
    refine br_f (nI_ge (by omega) (by omega)) ⟨N + 1, ?_⟩
    exact xr_14 hN hj (by omega) hW (fun a b z => ih (u + 1) (by omega) n' (by omega) a b z) N 0 (by omega) (N + 1) (by omega) tD tH he
theorem xr_all {post : Int32 → SX → Prop} {j : Nat} (hN : N ≤ 32) (hj : j < N) (hW : dq_gr W) (he : xe_enc N (dq_seq W N s (1024 * j)) tD tH)
    (hp : ∀ a b : Nat → Int32, xe_enc N (dq_seq W N s (1024 * (j + 1))) a b → post (dq_ch W N s j 1024) (nI N, fm, fs, fe, fr, W, ds, ho, pa, a, b)) :
    wpX_relaxAll post (nI N, fm, fs, fe, fr, W, ds, ho, pa, tD, tH) :=
  ⟨N + 1, xr_4 hN hj hW hp N 0 (by omega) (N + 1) (by omega) tD tH he⟩
theorem xs_47 {post : Int32 → SX → Prop} (hN : N ≤ 32) (hN0 : 1 ≤ N) (hW : dq_gr W)
    (hp : ∀ a b : Nat → Int32, xe_enc N (dq_seq W N s (1024 * N)) a b → post (if dq_ch W N s (N - 1) 1024 = 0 then 1 else 0) (nI N, fm, fs, fe, fr, W, ds, ho, pa, a, b)) :
    ∀ e j, j + e = N → ∀ n, e < n → (1 ≤ j → ¬ dq_ch W N s (j - 1) 1024 = 0) → ∀ tD tH : Nat → Int32, xe_enc N (dq_seq W N s (1024 * j)) tD tH → wX_search_47 post n (nI j) (nI N) fm fs fe fr W ds ho pa tD tH := by
  intro e
  induction e with
  | zero =>
    intro j hj n hn hc tD tH he
    obtain ⟨n', rfl⟩ : ∃ n', n = n' + 1 := ⟨n - 1, by omega⟩
    have hj2 : j = N := by omega
    subst hj2
    have z := hp tD tH he
    rw [if_neg (hc hN0)] at z
    exact br_t (nI_le (Nat.le_refl _) (by omega)) z
  | succ e ih =>
    intro j hj n hn hc tD tH he
    obtain ⟨n', rfl⟩ : ∃ n', n = n' + 1 := ⟨n - 1, by omega⟩
    refine br_f (nI_ge (by omega) (by omega)) (xr_all hN (by omega) hW he fun a b z => ?_)
    by_cases c : dq_ch W N s j 1024 = 0
    · have e1 := (dq_later (j' := N) c (by omega)).1
      have e2 := (dq_later (j' := j + 1) c (by omega)).1
      have e3 := (dq_later (j' := N - 1) c (by omega)).2
      have y := hp a b (by rw [e1, ← e2]; exact z)
      rw [if_pos e3] at y
      exact br_t c y
    · exact br_f c (nm_r (nI_1 j) (ih (j + 1) (by omega) n' (by omega) (fun _ => c) a b z))
theorem xs_2 {post : Int32 → SX → Prop} (hN : N ≤ 32) (hN0 : 1 ≤ N) (hs : s < N) (hW : dq_gr W)
    (hp : ∀ a b : Nat → Int32, xe_enc N (dq_seq W N s (1024 * N)) a b → post (if dq_ch W N s (N - 1) 1024 = 0 then 1 else 0) (nI N, fm, fs, fe, fr, W, ds, ho, pa, a, b)) :
    ∀ e i, i + e = N → ∀ n, e < n → ∀ tD tH : Nat → Int32, (∀ x, x < i → tD x = 2147483647 ∧ tH x = -1) → wX_search_2 post (nI s) (nI N) fm fs fe fr n (nI i) W ds ho pa tD tH := by
  intro e
  induction e with
  | zero =>
    intro i hi n hn tD tH hz
    obtain ⟨n', rfl⟩ : ∃ n', n = n' + 1 := ⟨n - 1, by omega⟩
    have hi2 : i = N := by omega
    subst hi2
    have es : (nI s).toNatClampNeg = s := nI_clamp (by omega)
    have vs : vp_in (nI s) 32 := vp_in_nI (by omega) (by decide)
    exact br_t (nI_le (Nat.le_refl _) (by omega)) ⟨vs, nm_r (show upd tD (nI s).toNatClampNeg 0 = upd tD s 0 by rw [es]) ⟨vs, nm_r (show upd tH (nI s).toNatClampNeg 0 = upd tH s 0 by rw [es]) ⟨i + 1, xs_47 hN hN0 hW hp i 0 (by omega) (i + 1) (by omega) (fun z => absurd z (by decide)) _ _ (xe_0 hz)⟩⟩⟩
  | succ e ih =>
    intro i hi n hn tD tH hz
    obtain ⟨n', rfl⟩ : ∃ n', n = n' + 1 := ⟨n - 1, by omega⟩
    have ei : (nI i).toNatClampNeg = i := nI_clamp (by omega)
    have vi : vp_in (nI i) 32 := vp_in_nI (by omega) (by decide)
    refine br_f (nI_ge (by omega) (by omega)) ⟨vi, nm_r (show upd tD (nI i).toNatClampNeg 2147483647 = upd tD i 2147483647 by rw [ei]) ⟨vi, nm_r (show upd tH (nI i).toNatClampNeg (-1) = upd tH i (-1) by rw [ei]) (nm_r (nI_1 i) (ih (i + 1) (by omega) n' (by omega) _ _ fun x hx => ?_))⟩⟩
    by_cases c : x = i
    · rw [c]
      exact ⟨pk_us, pk_us⟩
    · rw [pk_un c, pk_un c]
      exact hz x (by omega)
/-- the class's search from s -/
theorem xs_search {post : Int32 → SX → Prop} (hN : N ≤ 32) (hN0 : 1 ≤ N) (hs : s < N) (hW : dq_gr W)
    (hp : ∀ a b : Nat → Int32, xe_enc N (dq_seq W N s (1024 * N)) a b → post (if dq_ch W N s (N - 1) 1024 = 0 then 1 else 0) (nI N, fm, fs, fe, fr, W, ds, ho, pa, a, b)) :
    wpX_search post (nI N, fm, fs, fe, fr, W, ds, ho, pa, tD, tH) (nI s) :=
  ⟨N + 1, xs_2 hN hN0 hs hW hp N 0 (by omega) (N + 1) (by omega) tD tH fun x hx => absurd hx (Nat.not_lt_zero _)⟩
/-- a slot changed, searched, restored -/
theorem xk_cons {post : Int32 → SX → Prop} {k : Nat} {w : Int32} (hN : N ≤ 32) (hN0 : 1 ≤ N) (hs : s < N) (hk : k < 1024) (hW : dq_gr (upd W k w))
    (hp : ∀ a b : Nat → Int32, post (if dq_ch (upd W k w) N s (N - 1) 1024 = 0 then 1 else 0) (nI N, fm, nI s, fe, fr, W, ds, ho, pa, a, b)) :
    wpX_isConsistentWith post (nI N, fm, nI s, fe, fr, W, ds, ho, pa, tD, tH) (nI k) w := by
  have ck : (nI k).toNatClampNeg = k := nI_clamp (by omega)
  have vk : vp_in (nI k) 1024 := vp_in_nI hk (by decide)
  refine ⟨vk, nm_r (show W (nI k).toNatClampNeg = W k by rw [ck]) ⟨vk, nm_r (show upd W (nI k).toNatClampNeg w = upd W k w by rw [ck]) ?_⟩⟩
  refine xs_search hN hN0 hs hW fun a b _ => ?_
  have e : upd (upd W k w) (nI k).toNatClampNeg (W k) = W := by
    rw [ck]
    funext x
    by_cases c : x = k
    · rw [c]; exact pk_us
    · rw [pk_un c, pk_un c]
  refine ⟨vk, nm_r e ⟨yn_nb ?_, hp a b⟩⟩
  by_cases c : dq_ch (upd W k w) N s (N - 1) 1024 = 0
  · rw [if_pos c]; exact Or.inr rfl
  · rw [if_neg c]; exact Or.inl rfl
end
end
section
/-! what the class keeps between calls: distances, hops, parents, the count; and the reference's own loops over them -/
section
variable {N s : Nat} {fm fs fe fr gm gc : Int32} {W ds ho pa tD tH pr wt d h r : Nat → Int32}
/-- how many are reached, of the first i -/
def rq_cnt (r : Nat → Int32) : Nat → Int32
  | 0 => 0
  | i + 1 => if r i = 0 then rq_cnt r i else rq_cnt r i + 1
/-- u is a tight predecessor of v -/
abbrev rq_tight (W : Nat → Int32) (q : dq_S) (u v : Nat) : Prop := ¬ W (32 * u + v) = 2147483647 ∧ ¬ q.1 u = 0 ∧ q.2.1 u + W (32 * u + v) = q.2.1 v ∧ q.2.2 u + 1 = q.2.2 v
/-- the first tight predecessor from u on, of e places -/
def rq_scan (W : Nat → Int32) (q : dq_S) (v : Nat) : Nat → Nat → Int32
  | 0, _ => -1
  | e + 1, u => if rq_tight W q u v then nI u else rq_scan W q v e (u + 1)
def rq_par (W : Nat → Int32) (N s : Nat) (q : dq_S) (v : Nat) : Int32 := if v = s then -1 else if q.1 v = 0 then -1 else rq_scan W q v N 0
theorem rq_scT {W : Nat → Int32} {q : dq_S} {v e u : Nat} (c : rq_tight W q u v) : rq_scan W q v (e + 1) u = nI u := if_pos c
theorem rq_scF {W : Nat → Int32} {q : dq_S} {v e u : Nat} (c : ¬ rq_tight W q u v) : rq_scan W q v (e + 1) u = rq_scan W q v e (u + 1) := if_neg c
/-- the class's isTight -/
theorem xp_tight {post : Int32 → Prop} {T u v : Nat} {q : dq_S} (hN : N ≤ 32) (hu : u < N) (hv : v < N) (hT : T ≤ 32768) (hb : dq_bd T q) (he : xe_enc N q ds ho) (hv0 : ¬ q.1 v = 0) (hp : post (if rq_tight W q u v then 1 else 0)) : wpX_isTight post (nI N, fm, fs, fe, fr, W, ds, ho, pa, tD, tH) (nI u) (nI v) := by
  have cu : (nI u).toNatClampNeg = u := nI_clamp (by omega)
  have cv : (nI v).toNatClampNeg = v := nI_clamp (by omega)
  have ck : (nI (32 * u + v)).toNatClampNeg = 32 * u + v := nI_clamp (by omega)
  have vu : vp_in (nI u) 32 := vp_in_nI (by omega) (by decide)
  have vv : vp_in (nI v) 32 := vp_in_nI (by omega) (by decide)
  have vk : vp_in (nI (32 * u + v)) 1024 := vp_in_nI (by omega) (by decide)
  obtain ⟨_, dv, hv'⟩ := (he v hv).resolve_left (fun z => hv0 z.1)
  unfold wpX_isTight
  refine xs_slot ⟨vk, ?_⟩
  by_cases c1 : W (32 * u + v) = 2147483647
  · rw [if_neg (fun c => c.1 c1)] at hp
    exact br_t (by rw [ck]; exact c1) hp
  refine br_f (by rw [ck]; exact c1) ⟨vu, ?_⟩
  rcases he u hu with ⟨r0, du, hu'⟩ | ⟨r1, du, hu'⟩
  · rw [if_neg (fun c => c.2.1 r0)] at hp
    exact br_t (by rw [cu]; exact du) hp
  have r0 : ¬ q.1 u = 0 := by rw [r1]; exact yn_10
  refine br_f (by rw [cu, du]; exact xe_ne hT hb r1) ⟨vu, vk, vv, ?_⟩
  by_cases c2 : q.2.1 u + W (32 * u + v) = q.2.1 v
  · refine br_t (by rw [cu, ck, cv, du, dv]; exact c2) ⟨vu, vv, ?_⟩
    by_cases c3 : q.2.2 u + 1 = q.2.2 v
    · rw [if_pos ⟨c1, r0, c2, c3⟩] at hp
      exact br_t (by rw [cu, cv, hu', hv']; exact c3) hp
    · rw [if_neg (fun c => c3 c.2.2.2)] at hp
      exact br_f (by rw [cu, cv, hu', hv']; exact c3) hp
  · rw [if_neg (fun c => c2 c.2.2.1)] at hp
    exact br_f (by rw [cu, ck, cv, du, dv]; exact c2) hp
theorem xp_23 {post : Int32 → Prop} {T v : Nat} {q : dq_S} (hN : N ≤ 32) (hv : v < N) (hT : T ≤ 32768) (hb : dq_bd T q) (he : xe_enc N q ds ho) (hv0 : ¬ q.1 v = 0) :
    ∀ e u, u + e = N → ∀ n, e < n → post (rq_scan W q v e u) → wX_leastParent_23 post (nI v) (nI N) fm fs fe fr W ds ho pa tD tH n (nI u) := by
  intro e
  induction e with
  | zero =>
    intro u hu n hn hp
    obtain ⟨n', rfl⟩ : ∃ n', n = n' + 1 := ⟨n - 1, by omega⟩
    exact br_t (nI_le (by omega) (by omega)) hp
  | succ e ih =>
    intro u hu n hn hp
    obtain ⟨n', rfl⟩ : ∃ n', n = n' + 1 := ⟨n - 1, by omega⟩
    refine br_f (nI_ge (by omega) (by omega)) (xp_tight hN (by omega) hv hT hb he hv0 ?_)
    by_cases c : rq_tight W q u v
    · rw [rq_scT c] at hp
      rw [if_pos c]
      exact br_f yn_10 hp
    · rw [rq_scF c] at hp
      rw [if_neg c]
      exact br_t rfl (nm_r (nI_1 u) (ih (u + 1) (by omega) n' (by omega) hp))
theorem xp_least {post : Int32 → Prop} {T v : Nat} {q : dq_S} (hN : N ≤ 32) (hs : s < N) (hv : v < N) (hT : T ≤ 32768) (hb : dq_bd T q) (he : xe_enc N q ds ho) (hp : post (rq_par W N s q v)) : wpX_leastParent post (nI N, fm, nI s, fe, fr, W, ds, ho, pa, tD, tH) (nI v) := by
  have cv : (nI v).toNatClampNeg = v := nI_clamp (by omega)
  unfold rq_par at hp
  by_cases c1 : v = s
  · rw [if_pos c1] at hp
    exact br_t (by rw [c1]) hp
  rw [if_neg c1] at hp
  refine br_f (fun z => c1 ((nI_eq (by omega) (by omega)).mp z)) ⟨vp_in_nI (by omega) (by decide), ?_⟩
  rcases he v hv with ⟨r0, dv, _⟩ | ⟨r1, dv, _⟩
  · rw [if_pos r0] at hp
    exact br_t (by rw [cv]; exact dv) hp
  · have r0 : ¬ q.1 v = 0 := by rw [r1]; exact yn_10
    rw [if_neg r0] at hp
    exact br_f (by rw [cv, dv]; exact xe_ne hT hb r1) ⟨N + 1, xp_23 hN hv hT hb he r0 N 0 (by omega) (N + 1) (by omega) hp⟩
/-- what the class keeps -/
def xf_ok (W : Nat → Int32) (N s : Nat) (ds ho pa : Nat → Int32) : Prop := xe_enc N (dq_seq W N s (1024 * N)) ds ho ∧ ∀ x, x < N → pa x = rq_par W N s (dq_seq W N s (1024 * N)) x
theorem xc_77 {post : SX → Prop} {T : Nat} {q : dq_S} (hN : N ≤ 32) (hs : s < N) (hT : T ≤ 32768) (hb : dq_bd T q) (he : xe_enc N q ds ho)
    (hp : ∀ pa : Nat → Int32, (∀ x, x < N → pa x = rq_par W N s q x) → post (nI N, fm, nI s, fe, fr, W, ds, ho, pa, tD, tH)) :
    ∀ e i, i + e = N → ∀ n, e < n → ∀ pa : Nat → Int32, (∀ x, x < i → pa x = rq_par W N s q x) → wX_recompute_77 post (nI N) fm (nI s) fe fr n (nI i) W ds ho pa tD tH := by
  intro e
  induction e with
  | zero =>
    intro i hi n hn pa hz
    obtain ⟨n', rfl⟩ : ∃ n', n = n' + 1 := ⟨n - 1, by omega⟩
    have hi2 : i = N := by omega
    subst hi2
    exact br_t (nI_le (Nat.le_refl _) (by omega)) (hp pa hz)
  | succ e ih =>
    intro i hi n hn pa hz
    obtain ⟨n', rfl⟩ : ∃ n', n = n' + 1 := ⟨n - 1, by omega⟩
    have ei : (nI i).toNatClampNeg = i := nI_clamp (by omega)
    refine br_f (nI_ge (by omega) (by omega)) (xp_least hN hs (by omega) hT hb he ?_)
    refine ⟨vp_in_nI (by omega) (by decide), nm_r (show upd pa (nI i).toNatClampNeg (rq_par W N s q i) = upd pa i (rq_par W N s q i) by rw [ei]) (nm_r (nI_1 i) (ih (i + 1) (by omega) n' (by omega) _ fun x hx => ?_))⟩
    by_cases c : x = i
    · rw [c]; exact pk_us
    · rw [pk_un c]; exact hz x (by omega)
theorem xc_16 {post : SX → Prop} {T : Nat} {q : dq_S} (hN : N ≤ 32) (hs : s < N) (hT : T ≤ 32768) (hb : dq_bd T q) (he : xe_enc N q tD tH)
    (hp : ∀ ds ho pa : Nat → Int32, xe_enc N q ds ho → (∀ x, x < N → pa x = rq_par W N s q x) → post (nI N, fm, nI s, fe, rq_cnt q.1 N, W, ds, ho, pa, tD, tH)) :
    ∀ e i, i + e = N → ∀ n, e < n → ∀ ds ho : Nat → Int32, (∀ x, x < i → ds x = tD x ∧ ho x = tH x) → wX_recompute_16 post (nI N) fm (nI s) fe n (nI i) (rq_cnt q.1 i) W ds ho pa tD tH := by
  intro e
  induction e with
  | zero =>
    intro i hi n hn ds ho hz
    obtain ⟨n', rfl⟩ : ∃ n', n = n' + 1 := ⟨n - 1, by omega⟩
    have hi2 : i = N := by omega
    subst hi2
    have he' : xe_enc i q ds ho := fun x hx => by
      rw [(hz x hx).1, (hz x hx).2]
      exact he x hx
    exact br_t (nI_le (Nat.le_refl _) (by omega)) ⟨i + 1, xc_77 hN hs hT hb he' (fun pa hpa => hp ds ho pa he' hpa) i 0 (by omega) (i + 1) (by omega) pa fun x hx => absurd hx (Nat.not_lt_zero _)⟩
  | succ e ih =>
    intro i hi n hn ds ho hz
    obtain ⟨n', rfl⟩ : ∃ n', n = n' + 1 := ⟨n - 1, by omega⟩
    have ei : (nI i).toNatClampNeg = i := nI_clamp (by omega)
    have vi : vp_in (nI i) 32 := vp_in_nI (by omega) (by decide)
    have z := ih (i + 1) (by omega) n' (by omega) (upd ds i (tD i)) (upd ho i (tH i)) (fun x hx => by
      by_cases c : x = i
      · rw [c]; exact ⟨pk_us, pk_us⟩
      · rw [pk_un c, pk_un c]; exact hz x (by omega))
    have ec : rq_cnt q.1 (i + 1) = if q.1 i = 0 then rq_cnt q.1 i else rq_cnt q.1 i + 1 := rfl
    rw [ec] at z
    refine br_f (nI_ge (by omega) (by omega)) ⟨vi, vi, nm_r (show upd ds (nI i).toNatClampNeg (tD (nI i).toNatClampNeg) = upd ds i (tD i) by rw [ei]) ⟨vi, vi, nm_r (show upd ho (nI i).toNatClampNeg (tH (nI i).toNatClampNeg) = upd ho i (tH i) by rw [ei]) ⟨vi, ?_⟩⟩⟩
    rcases he i (by omega) with ⟨r0, dv, _⟩ | ⟨r1, dv, _⟩
    · rw [if_pos r0] at z
      exact br_t (by rw [ei, pk_us]; exact dv) (nm_r (nI_1 i) z)
    · rw [if_neg (by rw [r1]; exact yn_10)] at z
      exact br_f (by rw [ei, pk_us, dv]; exact xe_ne hT hb r1) (nm_e (nm_r (nI_1 i) z))
/-- the class's recompute -/
theorem xc_rec {post : SX → Prop} (hN : N ≤ 32) (hN0 : 1 ≤ N) (hs : s < N) (hW : dq_gr W)
    (hp : ∀ ds ho pa tD tH : Nat → Int32, xf_ok W N s ds ho pa → post (nI N, fm, nI s, fe, rq_cnt (dq_seq W N s (1024 * N)).1 N, W, ds, ho, pa, tD, tH)) :
    wpX_recompute post (nI N, fm, nI s, fe, fr, W, ds, ho, pa, tD, tH) := by
  unfold wpX_recompute
  refine xs_search hN hN0 hs hW fun a b z => ?_
  exact ⟨N + 1, xc_16 (T := 1024 * N) hN hs (by omega) (dq_bdT hW _ (by omega)) z (fun ds ho pa h1 h2 => hp ds ho pa a b ⟨h1, h2⟩) N 0 (by omega) (N + 1) (by omega) ds ho fun x hx => absurd hx (Nat.not_lt_zero _)⟩
/-! the reference's loops over its computed arrays -/
theorem yp_36 {post : Int32 → SY → Prop} {gs : Int32} {v : Nat} {q : dq_S} (hN : N ≤ 32) (hv : v < N) (hg : yg_ok W pr wt) :
    ∀ e u, u + e = N → ∀ n, e < n → post (rq_scan W q v e u) (nI N, gs, gm, gc, pr, wt, q.2.1, q.2.2, q.1) → wY_getParent_36 post (nI v) (nI N) gs gm gc pr wt q.2.1 q.2.2 q.1 n (nI u) := by
  intro e
  induction e with
  | zero =>
    intro u hu n hn hp
    obtain ⟨n', rfl⟩ : ∃ n', n = n' + 1 := ⟨n - 1, by omega⟩
    exact br_t (nI_le (by omega) (by omega)) hp
  | succ e ih =>
    intro u hu n hn hp
    obtain ⟨n', rfl⟩ : ∃ n', n = n' + 1 := ⟨n - 1, by omega⟩
    have cu : (nI u).toNatClampNeg = u := nI_clamp (by omega)
    have cv : (nI v).toNatClampNeg = v := nI_clamp (by omega)
    have ck : (nI (32 * u + v)).toNatClampNeg = 32 * u + v := nI_clamp (by omega)
    have vu : vp_in (nI u) 32 := vp_in_nI (by omega) (by decide)
    have vv : vp_in (nI v) 32 := vp_in_nI (by omega) (by decide)
    have vk : vp_in (nI (32 * u + v)) 1024 := vp_in_nI (by omega) (by decide)
    have iF : ¬ rq_tight W q u v → wY_getParent_36 post (nI v) (nI N) gs gm gc pr wt q.2.1 q.2.2 q.1 n' (nI (u + 1)) := fun c => by
      rw [rq_scF c] at hp
      exact ih (u + 1) (by omega) n' (by omega) hp
    refine br_f (nI_ge (by omega) (by omega)) (nm_r xn_slot ⟨vk, ?_⟩)
    rcases hg (32 * u + v) (by omega) with ⟨p0, w0⟩ | ⟨p1, w1, ew, _, _⟩
    · exact br_t (by rw [ck]; exact p0) (nm_r (nI_1 u) (iF fun c => c.1 w0))
    refine br_f (by rw [ck, p1]; exact yn_10) ⟨vu, ?_⟩
    by_cases c1 : q.1 u = 0
    · exact br_t (by rw [cu]; exact c1) (nm_r (nI_1 u) (iF fun c => c.2.1 c1))
    refine br_f (by rw [cu]; exact c1) ⟨vu, vk, vv, ?_⟩
    by_cases c2 : q.2.1 u + W (32 * u + v) = q.2.1 v
    · refine br_t (by rw [cu, ck, cv, ew]; exact c2) ⟨vu, vv, ?_⟩
      by_cases c3 : q.2.2 u + 1 = q.2.2 v
      · rw [rq_scT ⟨w1, c1, c2, c3⟩] at hp
        exact br_t (by rw [cu, cv]; exact c3) hp
      · exact br_f (by rw [cu, cv]; exact c3) (nm_r (nI_1 u) (iF fun c => c3 c.2.2.2))
    · exact br_f (by rw [cu, ck, cv, ew]; exact c2) (nm_r (nI_1 u) (iF fun c => c2 c.2.2.1))
theorem yr_9 {post : Int32 → SY → Prop} {gs : Int32} {q : dq_S} (hN : N ≤ 32) (hp : post (rq_cnt q.1 N) (nI N, gs, gm, gc, pr, wt, q.2.1, q.2.2, q.1)) :
    ∀ e i, i + e = N → ∀ n, e < n → wY_reachableCount_9 post (nI N) gs gm gc pr wt q.2.1 q.2.2 q.1 n (rq_cnt q.1 i) (nI i) := by
  intro e
  induction e with
  | zero =>
    intro i hi n hn
    obtain ⟨n', rfl⟩ : ∃ n', n = n' + 1 := ⟨n - 1, by omega⟩
    have hi2 : i = N := by omega
    subst hi2
    exact br_t (nI_le (Nat.le_refl _) (by omega)) hp
  | succ e ih =>
    intro i hi n hn
    obtain ⟨n', rfl⟩ : ∃ n', n = n' + 1 := ⟨n - 1, by omega⟩
    have ei : (nI i).toNatClampNeg = i := nI_clamp (by omega)
    have z := ih (i + 1) (by omega) n' (by omega)
    have ec : rq_cnt q.1 (i + 1) = if q.1 i = 0 then rq_cnt q.1 i else rq_cnt q.1 i + 1 := rfl
    rw [ec] at z
    refine br_f (nI_ge (by omega) (by omega)) ⟨vp_in_nI (by omega) (by decide), ?_⟩
    by_cases c : q.1 i = 0
    · rw [if_pos c] at z
      exact br_t (by rw [ei]; exact c) (nm_r (nI_1 i) z)
    · rw [if_neg c] at z
      exact br_f (by rw [ei]; exact c) (nm_e (nm_r (nI_1 i) z))
end
end
section
/-! the class's calls, case by case, each over a general post -/
section
variable {N s i j m : Nat} {fm fs fe fr x y w : Int32} {W ds ho pa tD tH : Nat → Int32}
/-- not a vertex -/
def xv_bad (N : Nat) (x : Int32) : Prop := x < 0 ∨ nI N ≤ x
/-- not a weight -/
def xw_bad (w : Int32) : Prop := w < -1000 ∨ 1000 < w
theorem xv_cases (hN : N ≤ 32) (x : Int32) : xv_bad N x ∨ ∃ j, j < N ∧ x = nI j := by
  rcases pk_ix x (n := N) (by omega) with a | a | a
  · exact Or.inl (Or.inl a)
  · exact Or.inl (Or.inr a)
  · exact Or.inr a
theorem xw_cases (w : Int32) : xw_bad w ∨ (¬ w < -1000 ∧ ¬ 1000 < w ∧ w ≤ 1000 ∧ ¬ w = 2147483647 ∧ -1000 ≤ w.toInt ∧ w.toInt ≤ 1000) := by
  by_cases a : w < -1000
  · exact Or.inl (Or.inl a)
  by_cases b : 1000 < w
  · exact Or.inl (Or.inr b)
  have t1 : (-1000 : Int32).toInt = -1000 := by decide
  have t2 : (1000 : Int32).toInt = 1000 := by decide
  have a' := a
  have b' := b
  rw [Int32.lt_iff_toInt_lt, t1] at a'
  rw [Int32.lt_iff_toInt_lt, t2] at b'
  refine Or.inr ⟨a, b, ?_, ?_, by omega, by omega⟩
  · rw [Int32.le_iff_toInt_le, t2]; omega
  · intro e
    rw [e, dq_tM] at b'
    omega
theorem xv_b {post : Int32 → Prop} (a : xv_bad N x) (hp : post 0) : wpX_isValid post (nI N, fm, fs, fe, fr, W, ds, ho, pa, tD, tH) x := by
  by_cases c : x < 0
  · exact br_t c hp
  · exact br_f c (br_t (a.resolve_left c) hp)
theorem xv_o {post : Int32 → Prop} (hN : N ≤ 32) (hi : i < N) (hp : post 1) : wpX_isValid post (nI N, fm, fs, fe, fr, W, ds, ho, pa, tD, tH) (nI i) :=
  br_f (nI_pos (by omega)) (br_f (nI_ge hi (by omega)) hp)
theorem xw_b {post : Int32 → Prop} (a : xw_bad w) (hp : post 0) : wpX_isAllowed post w := by
  by_cases c : w < -1000
  · exact br_t c hp
  · exact br_f c (br_t (a.resolve_left c) hp)
theorem xw_o {post : Int32 → Prop} (a : ¬ w < -1000) (b : ¬ 1000 < w) (hp : post 1) : wpX_isAllowed post w := br_f a (br_f b hp)
theorem xn_k (hN : N ≤ 32) (hi : i < N) (hj : j < N) : 32 * i + j < 1024 := by omega
theorem xn_v {k : Nat} (hk : k < 1024) : vp_in (nI k) 1024 := vp_in_nI hk (by decide)
theorem xn_c {k : Nat} (hk : k < 1024) : (nI k).toNatClampNeg = k := nI_clamp (by omega)
theorem xn_v32 (hN : N ≤ 32) (hi : i < N) : vp_in (nI i) 32 := vp_in_nI (by omega) (by decide)
theorem xn_c32 (hN : N ≤ 32) (hi : i < N) : (nI i).toNatClampNeg = i := nI_clamp (by omega)
/-! addEdge -/
theorem xa_1 {post : Int32 → SX → Prop} (a : xv_bad N x) (hp : post 1 (nI N, fm, fs, fe, fr, W, ds, ho, pa, tD, tH)) : wpX_addEdge post (nI N, fm, fs, fe, fr, W, ds, ho, pa, tD, tH) x y w := by
  unfold wpX_addEdge
  exact xv_b a (br_t rfl hp)
theorem xa_2 {post : Int32 → SX → Prop} (hN : N ≤ 32) (hi : i < N) (a : xv_bad N y) (hp : post 1 (nI N, fm, fs, fe, fr, W, ds, ho, pa, tD, tH)) : wpX_addEdge post (nI N, fm, fs, fe, fr, W, ds, ho, pa, tD, tH) (nI i) y w := by
  unfold wpX_addEdge
  exact xv_o hN hi (br_f yn_10 (xv_b a (br_t rfl hp)))
theorem xa_3 {post : Int32 → SX → Prop} (hN : N ≤ 32) (hi : i < N) (hj : j < N) (a : xw_bad w) (hp : post 2 (nI N, fm, fs, fe, fr, W, ds, ho, pa, tD, tH)) : wpX_addEdge post (nI N, fm, fs, fe, fr, W, ds, ho, pa, tD, tH) (nI i) (nI j) w := by
  unfold wpX_addEdge
  exact xv_o hN hi (br_f yn_10 (xv_o hN hj (br_f yn_10 (xw_b a (br_t rfl hp)))))
theorem xa_4 {post : Int32 → SX → Prop} (hN : N ≤ 32) (hi : i < N) (hj : j < N) (a : ¬ w < -1000) (b : ¬ 1000 < w) (c : ¬ W (32 * i + j) = 2147483647) (hp : post 3 (nI N, fm, fs, fe, fr, W, ds, ho, pa, tD, tH)) : wpX_addEdge post (nI N, fm, fs, fe, fr, W, ds, ho, pa, tD, tH) (nI i) (nI j) w := by
  have hk := xn_k hN hi hj
  unfold wpX_addEdge
  exact xv_o hN hi (br_f yn_10 (xv_o hN hj (br_f yn_10 (xw_o a b (br_f yn_10 (xs_slot ⟨xn_v hk, br_f (by rw [xn_c hk]; exact c) hp⟩))))))
theorem xa_5 {post : Int32 → SX → Prop} (hN : N ≤ 32) (hi : i < N) (hj : j < N) (a : ¬ w < -1000) (b : ¬ 1000 < w) (c : W (32 * i + j) = 2147483647) (f : ¬ fe < fm) (hp : post 5 (nI N, fm, fs, fe, fr, W, ds, ho, pa, tD, tH)) : wpX_addEdge post (nI N, fm, fs, fe, fr, W, ds, ho, pa, tD, tH) (nI i) (nI j) w := by
  have hk := xn_k hN hi hj
  unfold wpX_addEdge
  exact xv_o hN hi (br_f yn_10 (xv_o hN hj (br_f yn_10 (xw_o a b (br_f yn_10 (xs_slot ⟨xn_v hk, br_t (by rw [xn_c hk]; exact c) (br_f f hp)⟩))))))
theorem xa_6 {post : Int32 → SX → Prop} (hN : N ≤ 32) (hN0 : 1 ≤ N) (hs : s < N) (hi : i < N) (hj : j < N) (a : ¬ w < -1000) (b : ¬ 1000 < w) (c : W (32 * i + j) = 2147483647) (f : fe < fm) (hW : dq_gr (upd W (32 * i + j) w))
    (h0 : ¬ dq_ch (upd W (32 * i + j) w) N s (N - 1) 1024 = 0 → ∀ tD tH : Nat → Int32, post 6 (nI N, fm, nI s, fe, fr, W, ds, ho, pa, tD, tH))
    (h1 : dq_ch (upd W (32 * i + j) w) N s (N - 1) 1024 = 0 → ∀ ds ho pa tD tH : Nat → Int32, xf_ok (upd W (32 * i + j) w) N s ds ho pa → post 0 (nI N, fm, nI s, fe + 1, rq_cnt (dq_seq (upd W (32 * i + j) w) N s (1024 * N)).1 N, upd W (32 * i + j) w, ds, ho, pa, tD, tH)) :
    wpX_addEdge post (nI N, fm, nI s, fe, fr, W, ds, ho, pa, tD, tH) (nI i) (nI j) w := by
  have hk := xn_k hN hi hj
  unfold wpX_addEdge
  refine xv_o hN hi (br_f yn_10 (xv_o hN hj (br_f yn_10 (xw_o a b (br_f yn_10 (xs_slot ⟨xn_v hk, br_t (by rw [xn_c hk]; exact c) (br_t f ?_)⟩))))))
  refine xk_cons hN hN0 hs hk hW fun tD' tH' => ?_
  by_cases q : dq_ch (upd W (32 * i + j) w) N s (N - 1) 1024 = 0
  · rw [if_pos q]
    refine br_f yn_10 ⟨xn_v hk, nm_r (show upd W (nI (32 * i + j)).toNatClampNeg w = upd W (32 * i + j) w by rw [xn_c hk]) (nm_e ?_)⟩
    exact xc_rec hN hN0 hs hW fun ds ho pa tD tH z => h1 q ds ho pa tD tH z
  · rw [if_neg q]
    exact br_t rfl (h0 q tD' tH')
/-! setWeight -/
theorem xb_1 {post : Int32 → SX → Prop} (a : xv_bad N x) (hp : post 1 (nI N, fm, fs, fe, fr, W, ds, ho, pa, tD, tH)) : wpX_setWeight post (nI N, fm, fs, fe, fr, W, ds, ho, pa, tD, tH) x y w := by
  unfold wpX_setWeight
  exact xv_b a (br_t rfl hp)
theorem xb_2 {post : Int32 → SX → Prop} (hN : N ≤ 32) (hi : i < N) (a : xv_bad N y) (hp : post 1 (nI N, fm, fs, fe, fr, W, ds, ho, pa, tD, tH)) : wpX_setWeight post (nI N, fm, fs, fe, fr, W, ds, ho, pa, tD, tH) (nI i) y w := by
  unfold wpX_setWeight
  exact xv_o hN hi (br_f yn_10 (xv_b a (br_t rfl hp)))
theorem xb_3 {post : Int32 → SX → Prop} (hN : N ≤ 32) (hi : i < N) (hj : j < N) (a : xw_bad w) (hp : post 2 (nI N, fm, fs, fe, fr, W, ds, ho, pa, tD, tH)) : wpX_setWeight post (nI N, fm, fs, fe, fr, W, ds, ho, pa, tD, tH) (nI i) (nI j) w := by
  unfold wpX_setWeight
  exact xv_o hN hi (br_f yn_10 (xv_o hN hj (br_f yn_10 (xw_b a (br_t rfl hp)))))
theorem xb_4 {post : Int32 → SX → Prop} (hN : N ≤ 32) (hi : i < N) (hj : j < N) (a : ¬ w < -1000) (b : ¬ 1000 < w) (c : W (32 * i + j) = 2147483647) (hp : post 4 (nI N, fm, fs, fe, fr, W, ds, ho, pa, tD, tH)) : wpX_setWeight post (nI N, fm, fs, fe, fr, W, ds, ho, pa, tD, tH) (nI i) (nI j) w := by
  have hk := xn_k hN hi hj
  unfold wpX_setWeight
  exact xv_o hN hi (br_f yn_10 (xv_o hN hj (br_f yn_10 (xw_o a b (br_f yn_10 (xs_slot ⟨xn_v hk, br_t (by rw [xn_c hk]; exact c) hp⟩))))))
theorem xb_6 {post : Int32 → SX → Prop} (hN : N ≤ 32) (hN0 : 1 ≤ N) (hs : s < N) (hi : i < N) (hj : j < N) (a : ¬ w < -1000) (b : ¬ 1000 < w) (c : ¬ W (32 * i + j) = 2147483647) (hW : dq_gr (upd W (32 * i + j) w))
    (h0 : ¬ dq_ch (upd W (32 * i + j) w) N s (N - 1) 1024 = 0 → ∀ tD tH : Nat → Int32, post 6 (nI N, fm, nI s, fe, fr, W, ds, ho, pa, tD, tH))
    (h1 : dq_ch (upd W (32 * i + j) w) N s (N - 1) 1024 = 0 → ∀ ds ho pa tD tH : Nat → Int32, xf_ok (upd W (32 * i + j) w) N s ds ho pa → post 0 (nI N, fm, nI s, fe, rq_cnt (dq_seq (upd W (32 * i + j) w) N s (1024 * N)).1 N, upd W (32 * i + j) w, ds, ho, pa, tD, tH)) :
    wpX_setWeight post (nI N, fm, nI s, fe, fr, W, ds, ho, pa, tD, tH) (nI i) (nI j) w := by
  have hk := xn_k hN hi hj
  unfold wpX_setWeight
  refine xv_o hN hi (br_f yn_10 (xv_o hN hj (br_f yn_10 (xw_o a b (br_f yn_10 (xs_slot ⟨xn_v hk, br_f (by rw [xn_c hk]; exact c) ?_⟩))))))
  refine xk_cons hN hN0 hs hk hW fun tD' tH' => ?_
  by_cases q : dq_ch (upd W (32 * i + j) w) N s (N - 1) 1024 = 0
  · rw [if_pos q]
    refine br_f yn_10 ⟨xn_v hk, nm_r (show upd W (nI (32 * i + j)).toNatClampNeg w = upd W (32 * i + j) w by rw [xn_c hk]) ?_⟩
    exact xc_rec hN hN0 hs hW fun ds ho pa tD tH z => h1 q ds ho pa tD tH z
  · rw [if_neg q]
    exact br_t rfl (h0 q tD' tH')
/-! removeEdge -/
theorem xd_1 {post : Int32 → SX → Prop} (a : xv_bad N x) (hp : post 1 (nI N, fm, fs, fe, fr, W, ds, ho, pa, tD, tH)) : wpX_removeEdge post (nI N, fm, fs, fe, fr, W, ds, ho, pa, tD, tH) x y := by
  unfold wpX_removeEdge
  exact xv_b a (br_t rfl hp)
theorem xd_2 {post : Int32 → SX → Prop} (hN : N ≤ 32) (hi : i < N) (a : xv_bad N y) (hp : post 1 (nI N, fm, fs, fe, fr, W, ds, ho, pa, tD, tH)) : wpX_removeEdge post (nI N, fm, fs, fe, fr, W, ds, ho, pa, tD, tH) (nI i) y := by
  unfold wpX_removeEdge
  exact xv_o hN hi (br_f yn_10 (xv_b a (br_t rfl hp)))
theorem xd_4 {post : Int32 → SX → Prop} (hN : N ≤ 32) (hi : i < N) (hj : j < N) (c : W (32 * i + j) = 2147483647) (hp : post 4 (nI N, fm, fs, fe, fr, W, ds, ho, pa, tD, tH)) : wpX_removeEdge post (nI N, fm, fs, fe, fr, W, ds, ho, pa, tD, tH) (nI i) (nI j) := by
  have hk := xn_k hN hi hj
  unfold wpX_removeEdge
  exact xv_o hN hi (br_f yn_10 (xv_o hN hj (br_f yn_10 (xs_slot ⟨xn_v hk, br_t (by rw [xn_c hk]; exact c) hp⟩))))
theorem xd_6 {post : Int32 → SX → Prop} (hN : N ≤ 32) (hN0 : 1 ≤ N) (hs : s < N) (hi : i < N) (hj : j < N) (c : ¬ W (32 * i + j) = 2147483647) (hW : dq_gr (upd W (32 * i + j) 2147483647))
    (h1 : ∀ ds ho pa tD tH : Nat → Int32, xf_ok (upd W (32 * i + j) 2147483647) N s ds ho pa → post 0 (nI N, fm, nI s, fe - 1, rq_cnt (dq_seq (upd W (32 * i + j) 2147483647) N s (1024 * N)).1 N, upd W (32 * i + j) 2147483647, ds, ho, pa, tD, tH)) :
    wpX_removeEdge post (nI N, fm, nI s, fe, fr, W, ds, ho, pa, tD, tH) (nI i) (nI j) := by
  have hk := xn_k hN hi hj
  unfold wpX_removeEdge
  refine xv_o hN hi (br_f yn_10 (xv_o hN hj (br_f yn_10 (xs_slot ⟨xn_v hk, br_f (by rw [xn_c hk]; exact c) ⟨xn_v hk, nm_r (show upd W (nI (32 * i + j)).toNatClampNeg 2147483647 = upd W (32 * i + j) 2147483647 by rw [xn_c hk]) (nm_e ?_)⟩⟩))))
  exact xc_rec hN hN0 hs hW fun ds ho pa tD tH z => h1 ds ho pa tD tH z
/-! setSource -/
theorem xe_1 {post : Int32 → SX → Prop} (a : xv_bad N x) (hp : post 1 (nI N, fm, fs, fe, fr, W, ds, ho, pa, tD, tH)) : wpX_setSource post (nI N, fm, fs, fe, fr, W, ds, ho, pa, tD, tH) x := by
  unfold wpX_setSource
  exact xv_b a (br_t rfl hp)
theorem xe_6 {post : Int32 → SX → Prop} (hN : N ≤ 32) (hN0 : 1 ≤ N) (hi : i < N) (hW : dq_gr W)
    (h0 : ¬ dq_ch W N i (N - 1) 1024 = 0 → ∀ tD tH : Nat → Int32, post 6 (nI N, fm, fs, fe, fr, W, ds, ho, pa, tD, tH))
    (h1 : dq_ch W N i (N - 1) 1024 = 0 → ∀ ds ho pa tD tH : Nat → Int32, xf_ok W N i ds ho pa → post 0 (nI N, fm, nI i, fe, rq_cnt (dq_seq W N i (1024 * N)).1 N, W, ds, ho, pa, tD, tH)) :
    wpX_setSource post (nI N, fm, fs, fe, fr, W, ds, ho, pa, tD, tH) (nI i) := by
  unfold wpX_setSource
  refine xv_o hN hi (br_f yn_10 ?_)
  refine xs_search hN hN0 hi hW fun tD' tH' _ => ?_
  by_cases q : dq_ch W N i (N - 1) 1024 = 0
  · rw [if_pos q]
    refine br_f yn_10 ?_
    exact xc_rec hN hN0 hi hW fun ds ho pa tD tH z => h1 q ds ho pa tD tH z
  · rw [if_neg q]
    exact br_t rfl (h0 q tD' tH')
/-! canSet -/
theorem xg_1 {post : Int32 → SX → Prop} (a : xv_bad N x) (hp : post 0 (nI N, fm, fs, fe, fr, W, ds, ho, pa, tD, tH)) : wpX_canSet post (nI N, fm, fs, fe, fr, W, ds, ho, pa, tD, tH) x y w := by
  unfold wpX_canSet
  exact xv_b a (br_t rfl hp)
theorem xg_2 {post : Int32 → SX → Prop} (hN : N ≤ 32) (hi : i < N) (a : xv_bad N y) (hp : post 0 (nI N, fm, fs, fe, fr, W, ds, ho, pa, tD, tH)) : wpX_canSet post (nI N, fm, fs, fe, fr, W, ds, ho, pa, tD, tH) (nI i) y w := by
  unfold wpX_canSet
  exact xv_o hN hi (br_f yn_10 (xv_b a (br_t rfl hp)))
theorem xg_3 {post : Int32 → SX → Prop} (hN : N ≤ 32) (hi : i < N) (hj : j < N) (a : xw_bad w) (hp : post 0 (nI N, fm, fs, fe, fr, W, ds, ho, pa, tD, tH)) : wpX_canSet post (nI N, fm, fs, fe, fr, W, ds, ho, pa, tD, tH) (nI i) (nI j) w := by
  unfold wpX_canSet
  exact xv_o hN hi (br_f yn_10 (xv_o hN hj (br_f yn_10 (xw_b a (br_t rfl hp)))))
theorem xg_5 {post : Int32 → SX → Prop} (hN : N ≤ 32) (hi : i < N) (hj : j < N) (a : ¬ w < -1000) (b : ¬ 1000 < w) (c : W (32 * i + j) = 2147483647) (f : ¬ fe < fm) (hp : post 0 (nI N, fm, fs, fe, fr, W, ds, ho, pa, tD, tH)) : wpX_canSet post (nI N, fm, fs, fe, fr, W, ds, ho, pa, tD, tH) (nI i) (nI j) w := by
  have hk := xn_k hN hi hj
  unfold wpX_canSet
  exact xv_o hN hi (br_f yn_10 (xv_o hN hj (br_f yn_10 (xw_o a b (br_f yn_10 (xs_slot ⟨xn_v hk, br_t (by rw [xn_c hk]; exact c) (br_f f hp)⟩))))))
theorem xg_57 {post : Int32 → SX → Prop} {k : Nat} (hN : N ≤ 32) (hN0 : 1 ≤ N) (hs : s < N) (hk : k < 1024) (hW : dq_gr (upd W k w))
    (hp : ∀ tD tH : Nat → Int32, post (if dq_ch (upd W k w) N s (N - 1) 1024 = 0 then 1 else 0) (nI N, fm, nI s, fe, fr, W, ds, ho, pa, tD, tH)) : wX_canSet_57 post w (nI k) (nI N) fm (nI s) fe fr W ds ho pa tD tH := by
  unfold wX_canSet_57
  refine xk_cons hN hN0 hs hk hW fun tD' tH' => ?_
  refine ⟨yn_nb ?_, hp tD' tH'⟩
  by_cases c : dq_ch (upd W k w) N s (N - 1) 1024 = 0
  · rw [if_pos c]; exact Or.inr rfl
  · rw [if_neg c]; exact Or.inl rfl
theorem xg_6 {post : Int32 → SX → Prop} (hN : N ≤ 32) (hN0 : 1 ≤ N) (hs : s < N) (hi : i < N) (hj : j < N) (a : ¬ w < -1000) (b : ¬ 1000 < w) (c : ¬ W (32 * i + j) = 2147483647 ∨ fe < fm) (hW : dq_gr (upd W (32 * i + j) w))
    (hp : ∀ tD tH : Nat → Int32, post (if dq_ch (upd W (32 * i + j) w) N s (N - 1) 1024 = 0 then 1 else 0) (nI N, fm, nI s, fe, fr, W, ds, ho, pa, tD, tH)) :
    wpX_canSet post (nI N, fm, nI s, fe, fr, W, ds, ho, pa, tD, tH) (nI i) (nI j) w := by
  have hk := xn_k hN hi hj
  have z := xg_57 (tD := tD) (tH := tH) hN hN0 hs hk hW hp
  unfold wpX_canSet
  refine xv_o hN hi (br_f yn_10 (xv_o hN hj (br_f yn_10 (xw_o a b (br_f yn_10 (xs_slot ⟨xn_v hk, ?_⟩))))))
  by_cases q : W (32 * i + j) = 2147483647
  · exact br_t (by rw [xn_c hk]; exact q) (br_t (c.resolve_left (fun z => z q)) z)
  · exact br_f (by rw [xn_c hk]; exact q) z
/-! the calls that ask -/
theorem xh_b {post : Int32 → Prop} (a : xv_bad N x) (hp : post 2147483647) : wpX_getDist post (nI N, fm, fs, fe, fr, W, ds, ho, pa, tD, tH) x := by
  unfold wpX_getDist
  exact xv_b a (br_t rfl hp)
theorem xh_o {post : Int32 → Prop} (hN : N ≤ 32) (hi : i < N) (hp : post (ds i)) : wpX_getDist post (nI N, fm, fs, fe, fr, W, ds, ho, pa, tD, tH) (nI i) := by
  unfold wpX_getDist
  exact xv_o hN hi (br_f yn_10 ⟨xn_v32 hN hi, by rw [xn_c32 hN hi]; exact hp⟩)
theorem xi_b {post : Int32 → Prop} (a : xv_bad N x) (hp : post 0) : wpX_isReachable post (nI N, fm, fs, fe, fr, W, ds, ho, pa, tD, tH) x := by
  unfold wpX_isReachable
  exact xv_b a (br_t rfl hp)
theorem xi_o {post : Int32 → Prop} (hN : N ≤ 32) (hi : i < N) (h0 : ds i = 2147483647 → post 0) (h1 : ¬ ds i = 2147483647 → post 1) : wpX_isReachable post (nI N, fm, fs, fe, fr, W, ds, ho, pa, tD, tH) (nI i) := by
  unfold wpX_isReachable
  refine xv_o hN hi (br_f yn_10 ⟨xn_v32 hN hi, ?_⟩)
  rw [xn_c32 hN hi]
  exact ⟨h0, h1⟩
theorem xj_b {post : Int32 → Prop} (a : xv_bad N x) (hp : post (-1)) : wpX_getHops post (nI N, fm, fs, fe, fr, W, ds, ho, pa, tD, tH) x := by
  unfold wpX_getHops
  exact xv_b a (br_t rfl hp)
theorem xj_o {post : Int32 → Prop} (hN : N ≤ 32) (hi : i < N) (hp : post (ho i)) : wpX_getHops post (nI N, fm, fs, fe, fr, W, ds, ho, pa, tD, tH) (nI i) := by
  unfold wpX_getHops
  exact xv_o hN hi (br_f yn_10 ⟨xn_v32 hN hi, by rw [xn_c32 hN hi]; exact hp⟩)
theorem xm_b {post : Int32 → Prop} (a : xv_bad N x) (hp : post (-1)) : wpX_getParent post (nI N, fm, fs, fe, fr, W, ds, ho, pa, tD, tH) x := by
  unfold wpX_getParent
  exact xv_b a (br_t rfl hp)
theorem xm_o {post : Int32 → Prop} (hN : N ≤ 32) (hi : i < N) (hp : post (pa i)) : wpX_getParent post (nI N, fm, fs, fe, fr, W, ds, ho, pa, tD, tH) (nI i) := by
  unfold wpX_getParent
  exact xv_o hN hi (br_f yn_10 ⟨xn_v32 hN hi, by rw [xn_c32 hN hi]; exact hp⟩)
theorem xo_1 {post : Int32 → Prop} (a : xv_bad N x) (hp : post 2147483647) : wpX_getWeight post (nI N, fm, fs, fe, fr, W, ds, ho, pa, tD, tH) x y := by
  unfold wpX_getWeight
  exact xv_b a (br_t rfl hp)
theorem xo_2 {post : Int32 → Prop} (hN : N ≤ 32) (hi : i < N) (a : xv_bad N y) (hp : post 2147483647) : wpX_getWeight post (nI N, fm, fs, fe, fr, W, ds, ho, pa, tD, tH) (nI i) y := by
  unfold wpX_getWeight
  exact xv_o hN hi (br_f yn_10 (xv_b a (br_t rfl hp)))
theorem xo_o {post : Int32 → Prop} (hN : N ≤ 32) (hi : i < N) (hj : j < N) (hp : post (W (32 * i + j))) : wpX_getWeight post (nI N, fm, fs, fe, fr, W, ds, ho, pa, tD, tH) (nI i) (nI j) := by
  have hk := xn_k hN hi hj
  unfold wpX_getWeight
  exact xv_o hN hi (br_f yn_10 (xv_o hN hj (br_f yn_10 (xs_slot ⟨xn_v hk, by rw [xn_c hk]; exact hp⟩))))
end
end
section
/-! the reference's calls, case by case, each over a general post -/
section
variable {N s i j : Nat} {gs gm gc x y w : Int32} {W pr wt d h r : Nat → Int32}
theorem yv_b {post : Int32 → Prop} (a : xv_bad N x) (hp : post 0) : wpY_valid post (nI N, gs, gm, gc, pr, wt, d, h, r) x := by
  by_cases c : x < 0
  · exact br_t c hp
  · exact br_f c (br_t (a.resolve_left c) hp)
theorem yv_o {post : Int32 → Prop} (hN : N ≤ 32) (hi : i < N) (hp : post 1) : wpY_valid post (nI N, gs, gm, gc, pr, wt, d, h, r) (nI i) :=
  br_f (nI_pos (by omega)) (br_f (nI_ge hi (by omega)) hp)
theorem yw_b {A B : Prop} (a : xw_bad w) (hp : A) : (w < -1000 → A) ∧ (¬ w < -1000 → ((w ≤ 1000 → B) ∧ (¬ w ≤ 1000 → A))) := by
  by_cases c : w < -1000
  · exact br_t c hp
  · exact br_f c (br_f (fun z => absurd (a.resolve_left c) (Int32.not_lt.mpr z)) hp)
/-! addEdge -/
theorem ya_1 {post : Int32 → SY → Prop} (a : xv_bad N x) (hp : post 1 (nI N, gs, gm, gc, pr, wt, d, h, r)) : wpY_addEdge post (nI N, gs, gm, gc, pr, wt, d, h, r) x y w := by
  unfold wpY_addEdge
  exact yv_b a (br_t rfl hp)
theorem ya_2 {post : Int32 → SY → Prop} (hN : N ≤ 32) (hi : i < N) (a : xv_bad N y) (hp : post 1 (nI N, gs, gm, gc, pr, wt, d, h, r)) : wpY_addEdge post (nI N, gs, gm, gc, pr, wt, d, h, r) (nI i) y w := by
  unfold wpY_addEdge
  exact yv_o hN hi (br_f yn_10 (yv_b a (br_t rfl hp)))
theorem ya_3 {post : Int32 → SY → Prop} (hN : N ≤ 32) (hi : i < N) (hj : j < N) (a : xw_bad w) (hp : post 2 (nI N, gs, gm, gc, pr, wt, d, h, r)) : wpY_addEdge post (nI N, gs, gm, gc, pr, wt, d, h, r) (nI i) (nI j) w := by
  unfold wpY_addEdge
  exact yv_o hN hi (br_f yn_10 (yv_o hN hj (br_f yn_10 (yw_b a hp))))
theorem ya_4 {post : Int32 → SY → Prop} (hN : N ≤ 32) (hi : i < N) (hj : j < N) (a : ¬ w < -1000) (b : w ≤ 1000) (c : ¬ pr (32 * i + j) = 0) (hp : post 3 (nI N, gs, gm, gc, pr, wt, d, h, r)) : wpY_addEdge post (nI N, gs, gm, gc, pr, wt, d, h, r) (nI i) (nI j) w := by
  have hk := xn_k hN hi hj
  unfold wpY_addEdge
  exact yv_o hN hi (br_f yn_10 (yv_o hN hj (br_f yn_10 (br_f a (br_t b (nm_r xn_slot ⟨xn_v hk, br_f (by rw [xn_c hk]; exact c) hp⟩))))))
theorem ya_5 {post : Int32 → SY → Prop} (hN : N ≤ 32) (hi : i < N) (hj : j < N) (a : ¬ w < -1000) (b : w ≤ 1000) (c : pr (32 * i + j) = 0) (f : gc = gm) (hp : post 5 (nI N, gs, gm, gc, pr, wt, d, h, r)) : wpY_addEdge post (nI N, gs, gm, gc, pr, wt, d, h, r) (nI i) (nI j) w := by
  have hk := xn_k hN hi hj
  unfold wpY_addEdge
  exact yv_o hN hi (br_f yn_10 (yv_o hN hj (br_f yn_10 (br_f a (br_t b (nm_r xn_slot ⟨xn_v hk, br_t (by rw [xn_c hk]; exact c) (br_t f hp)⟩))))))
theorem ya_6 {post : Int32 → SY → Prop} (hN : N ≤ 32) (hN0 : 1 ≤ N) (hs : s < N) (hi : i < N) (hj : j < N) (a : ¬ w < -1000) (b : w ≤ 1000) (c : pr (32 * i + j) = 0) (f : ¬ gc = gm) (hg : yg_ok (upd W (32 * i + j) w) (upd pr (32 * i + j) 1) (upd wt (32 * i + j) w)) (hz : ∀ x, 32 ≤ x → r x = 0 ∧ d x = 0 ∧ h x = 0)
    (h0 : ¬ dq_ch (upd W (32 * i + j) w) N s (N - 1) 1024 = 0 → post 6 (nI N, nI s, gm, gc, upd (upd pr (32 * i + j) 1) (32 * i + j) 0, upd (upd wt (32 * i + j) w) (32 * i + j) 0, (dq_seq (upd W (32 * i + j) w) N s (1024 * N)).2.1, (dq_seq (upd W (32 * i + j) w) N s (1024 * N)).2.2, (dq_seq (upd W (32 * i + j) w) N s (1024 * N)).1))
    (h1 : dq_ch (upd W (32 * i + j) w) N s (N - 1) 1024 = 0 → post 0 (nI N, nI s, gm, gc + 1, upd pr (32 * i + j) 1, upd wt (32 * i + j) w, (dq_seq (upd W (32 * i + j) w) N s (1024 * N)).2.1, (dq_seq (upd W (32 * i + j) w) N s (1024 * N)).2.2, (dq_seq (upd W (32 * i + j) w) N s (1024 * N)).1)) :
    wpY_addEdge post (nI N, nI s, gm, gc, pr, wt, d, h, r) (nI i) (nI j) w := by
  have hk := xn_k hN hi hj
  have ck := xn_c hk
  unfold wpY_addEdge
  refine yv_o hN hi (br_f yn_10 (yv_o hN hj (br_f yn_10 (br_f a (br_t b (nm_r xn_slot ⟨xn_v hk, br_t (by rw [ck]; exact c) (br_f f ⟨xn_v hk, nm_r (show upd pr (nI (32 * i + j)).toNatClampNeg (vp_nar .boolean 1) = upd pr (32 * i + j) 1 by rw [ck, yn_b1]) ⟨xn_v hk, nm_r (show upd wt (nI (32 * i + j)).toNatClampNeg w = upd wt (32 * i + j) w by rw [ck]) ?_⟩⟩)⟩))))))
  refine yc_compute hN hN0 hs hg hz ?_
  by_cases q : dq_ch (upd W (32 * i + j) w) N s (N - 1) 1024 = 0
  · rw [if_pos q]
    exact br_f yn_10 (nm_e (h1 q))
  · rw [if_neg q]
    exact br_t rfl ⟨xn_v hk, nm_r (show upd (upd pr (32 * i + j) 1) (nI (32 * i + j)).toNatClampNeg (vp_nar .boolean 0) = upd (upd pr (32 * i + j) 1) (32 * i + j) 0 by rw [ck, yn_b0]) ⟨xn_v hk, nm_r (show upd (upd wt (32 * i + j) w) (nI (32 * i + j)).toNatClampNeg 0 = upd (upd wt (32 * i + j) w) (32 * i + j) 0 by rw [ck]) (h0 q)⟩⟩
/-! setWeight -/
theorem yb_1 {post : Int32 → SY → Prop} (a : xv_bad N x) (hp : post 1 (nI N, gs, gm, gc, pr, wt, d, h, r)) : wpY_setWeight post (nI N, gs, gm, gc, pr, wt, d, h, r) x y w := by
  unfold wpY_setWeight
  exact yv_b a (br_t rfl hp)
theorem yb_2 {post : Int32 → SY → Prop} (hN : N ≤ 32) (hi : i < N) (a : xv_bad N y) (hp : post 1 (nI N, gs, gm, gc, pr, wt, d, h, r)) : wpY_setWeight post (nI N, gs, gm, gc, pr, wt, d, h, r) (nI i) y w := by
  unfold wpY_setWeight
  exact yv_o hN hi (br_f yn_10 (yv_b a (br_t rfl hp)))
theorem yb_3 {post : Int32 → SY → Prop} (hN : N ≤ 32) (hi : i < N) (hj : j < N) (a : xw_bad w) (hp : post 2 (nI N, gs, gm, gc, pr, wt, d, h, r)) : wpY_setWeight post (nI N, gs, gm, gc, pr, wt, d, h, r) (nI i) (nI j) w := by
  unfold wpY_setWeight
  exact yv_o hN hi (br_f yn_10 (yv_o hN hj (br_f yn_10 (yw_b a hp))))
theorem yb_4 {post : Int32 → SY → Prop} (hN : N ≤ 32) (hi : i < N) (hj : j < N) (a : ¬ w < -1000) (b : w ≤ 1000) (c : pr (32 * i + j) = 0) (hp : post 4 (nI N, gs, gm, gc, pr, wt, d, h, r)) : wpY_setWeight post (nI N, gs, gm, gc, pr, wt, d, h, r) (nI i) (nI j) w := by
  have hk := xn_k hN hi hj
  unfold wpY_setWeight
  exact yv_o hN hi (br_f yn_10 (yv_o hN hj (br_f yn_10 (br_f a (br_t b (nm_r xn_slot ⟨xn_v hk, br_t (by rw [xn_c hk]; exact c) hp⟩))))))
theorem yb_5 {post : Int32 → SY → Prop} (hN : N ≤ 32) (hi : i < N) (hj : j < N) (a : ¬ w < -1000) (b : w ≤ 1000) (c : ¬ pr (32 * i + j) = 0) (f : wt (32 * i + j) = w) (hp : post 0 (nI N, gs, gm, gc, pr, wt, d, h, r)) : wpY_setWeight post (nI N, gs, gm, gc, pr, wt, d, h, r) (nI i) (nI j) w := by
  have hk := xn_k hN hi hj
  have ck := xn_c hk
  unfold wpY_setWeight
  exact yv_o hN hi (br_f yn_10 (yv_o hN hj (br_f yn_10 (br_f a (br_t b (nm_r xn_slot ⟨xn_v hk, br_f (by rw [ck]; exact c) ⟨xn_v hk, nm_r (show wt (nI (32 * i + j)).toNatClampNeg = w by rw [ck]; exact f) (br_t rfl hp)⟩⟩))))))
theorem yb_6 {post : Int32 → SY → Prop} (hN : N ≤ 32) (hN0 : 1 ≤ N) (hs : s < N) (hi : i < N) (hj : j < N) (a : ¬ w < -1000) (b : w ≤ 1000) (c : ¬ pr (32 * i + j) = 0) (f : ¬ wt (32 * i + j) = w) (hg : yg_ok (upd W (32 * i + j) w) pr (upd wt (32 * i + j) w)) (hz : ∀ x, 32 ≤ x → r x = 0 ∧ d x = 0 ∧ h x = 0)
    (h0 : ¬ dq_ch (upd W (32 * i + j) w) N s (N - 1) 1024 = 0 → post 6 (nI N, nI s, gm, gc, pr, upd (upd wt (32 * i + j) w) (32 * i + j) (wt (32 * i + j)), (dq_seq (upd W (32 * i + j) w) N s (1024 * N)).2.1, (dq_seq (upd W (32 * i + j) w) N s (1024 * N)).2.2, (dq_seq (upd W (32 * i + j) w) N s (1024 * N)).1))
    (h1 : dq_ch (upd W (32 * i + j) w) N s (N - 1) 1024 = 0 → post 0 (nI N, nI s, gm, gc, pr, upd wt (32 * i + j) w, (dq_seq (upd W (32 * i + j) w) N s (1024 * N)).2.1, (dq_seq (upd W (32 * i + j) w) N s (1024 * N)).2.2, (dq_seq (upd W (32 * i + j) w) N s (1024 * N)).1)) :
    wpY_setWeight post (nI N, nI s, gm, gc, pr, wt, d, h, r) (nI i) (nI j) w := by
  have hk := xn_k hN hi hj
  have ck := xn_c hk
  unfold wpY_setWeight
  refine yv_o hN hi (br_f yn_10 (yv_o hN hj (br_f yn_10 (br_f a (br_t b (nm_r xn_slot ⟨xn_v hk, br_f (by rw [ck]; exact c) ⟨xn_v hk, nm_r (show wt (nI (32 * i + j)).toNatClampNeg = wt (32 * i + j) by rw [ck]) (br_f f ⟨xn_v hk, nm_r (show upd wt (nI (32 * i + j)).toNatClampNeg w = upd wt (32 * i + j) w by rw [ck]) ?_⟩)⟩⟩))))))
  refine yc_compute hN hN0 hs hg hz ?_
  by_cases q : dq_ch (upd W (32 * i + j) w) N s (N - 1) 1024 = 0
  · rw [if_pos q]
    exact br_f yn_10 (h1 q)
  · rw [if_neg q]
    exact br_t rfl ⟨xn_v hk, nm_r (show upd (upd wt (32 * i + j) w) (nI (32 * i + j)).toNatClampNeg (wt (32 * i + j)) = upd (upd wt (32 * i + j) w) (32 * i + j) (wt (32 * i + j)) by rw [ck]) (h0 q)⟩
/-! removeEdge -/
theorem yd_1 {post : Int32 → SY → Prop} (a : xv_bad N x) (hp : post 1 (nI N, gs, gm, gc, pr, wt, d, h, r)) : wpY_removeEdge post (nI N, gs, gm, gc, pr, wt, d, h, r) x y := by
  unfold wpY_removeEdge
  exact yv_b a (br_t rfl hp)
theorem yd_2 {post : Int32 → SY → Prop} (hN : N ≤ 32) (hi : i < N) (a : xv_bad N y) (hp : post 1 (nI N, gs, gm, gc, pr, wt, d, h, r)) : wpY_removeEdge post (nI N, gs, gm, gc, pr, wt, d, h, r) (nI i) y := by
  unfold wpY_removeEdge
  exact yv_o hN hi (br_f yn_10 (yv_b a (br_t rfl hp)))
theorem yd_4 {post : Int32 → SY → Prop} (hN : N ≤ 32) (hi : i < N) (hj : j < N) (c : pr (32 * i + j) = 0) (hp : post 4 (nI N, gs, gm, gc, pr, wt, d, h, r)) : wpY_removeEdge post (nI N, gs, gm, gc, pr, wt, d, h, r) (nI i) (nI j) := by
  have hk := xn_k hN hi hj
  unfold wpY_removeEdge
  exact yv_o hN hi (br_f yn_10 (yv_o hN hj (br_f yn_10 (nm_r xn_slot ⟨xn_v hk, br_t (by rw [xn_c hk]; exact c) hp⟩))))
theorem yd_6 {post : Int32 → SY → Prop} (hN : N ≤ 32) (hi : i < N) (hj : j < N) (c : ¬ pr (32 * i + j) = 0) (hp : post 0 (nI N, gs, gm, gc - 1, upd pr (32 * i + j) 0, upd wt (32 * i + j) 0, d, h, r)) : wpY_removeEdge post (nI N, gs, gm, gc, pr, wt, d, h, r) (nI i) (nI j) := by
  have hk := xn_k hN hi hj
  have ck := xn_c hk
  unfold wpY_removeEdge
  exact yv_o hN hi (br_f yn_10 (yv_o hN hj (br_f yn_10 (nm_r xn_slot ⟨xn_v hk, br_f (by rw [ck]; exact c) ⟨xn_v hk, nm_r (show upd pr (nI (32 * i + j)).toNatClampNeg (vp_nar .boolean 0) = upd pr (32 * i + j) 0 by rw [ck, yn_b0]) ⟨xn_v hk, nm_r (show upd wt (nI (32 * i + j)).toNatClampNeg 0 = upd wt (32 * i + j) 0 by rw [ck]) (nm_e hp)⟩⟩⟩))))
/-! setSource -/
theorem ye_1 {post : Int32 → SY → Prop} (a : xv_bad N x) (hp : post 1 (nI N, gs, gm, gc, pr, wt, d, h, r)) : wpY_setSource post (nI N, gs, gm, gc, pr, wt, d, h, r) x := by
  unfold wpY_setSource
  exact yv_b a (br_t rfl hp)
theorem ye_6 {post : Int32 → SY → Prop} (hN : N ≤ 32) (hN0 : 1 ≤ N) (hi : i < N) (hg : yg_ok W pr wt) (hz : ∀ x, 32 ≤ x → r x = 0 ∧ d x = 0 ∧ h x = 0)
    (h0 : ¬ dq_ch W N i (N - 1) 1024 = 0 → post 6 (nI N, gs, gm, gc, pr, wt, (dq_seq W N i (1024 * N)).2.1, (dq_seq W N i (1024 * N)).2.2, (dq_seq W N i (1024 * N)).1))
    (h1 : dq_ch W N i (N - 1) 1024 = 0 → post 0 (nI N, nI i, gm, gc, pr, wt, (dq_seq W N i (1024 * N)).2.1, (dq_seq W N i (1024 * N)).2.2, (dq_seq W N i (1024 * N)).1)) :
    wpY_setSource post (nI N, gs, gm, gc, pr, wt, d, h, r) (nI i) := by
  unfold wpY_setSource
  refine yv_o hN hi (br_f yn_10 ?_)
  refine yc_compute hN hN0 hi hg hz ?_
  by_cases q : dq_ch W N i (N - 1) 1024 = 0
  · rw [if_pos q]
    exact br_f yn_10 (h1 q)
  · rw [if_neg q]
    exact br_t rfl (h0 q)
/-! canSet -/
theorem yf_1 {post : Int32 → SY → Prop} (a : xv_bad N x) (hp : post 0 (nI N, gs, gm, gc, pr, wt, d, h, r)) : wpY_canSet post (nI N, gs, gm, gc, pr, wt, d, h, r) x y w := by
  unfold wpY_canSet
  exact yv_b a (br_t rfl hp)
theorem yf_2 {post : Int32 → SY → Prop} (hN : N ≤ 32) (hi : i < N) (a : xv_bad N y) (hp : post 0 (nI N, gs, gm, gc, pr, wt, d, h, r)) : wpY_canSet post (nI N, gs, gm, gc, pr, wt, d, h, r) (nI i) y w := by
  unfold wpY_canSet
  exact yv_o hN hi (br_f yn_10 (yv_b a (br_t rfl hp)))
theorem yf_3 {post : Int32 → SY → Prop} (hN : N ≤ 32) (hi : i < N) (hj : j < N) (a : xw_bad w) (hp : post 0 (nI N, gs, gm, gc, pr, wt, d, h, r)) : wpY_canSet post (nI N, gs, gm, gc, pr, wt, d, h, r) (nI i) (nI j) w := by
  unfold wpY_canSet
  exact yv_o hN hi (br_f yn_10 (yv_o hN hj (br_f yn_10 (yw_b a hp))))
theorem yf_5 {post : Int32 → SY → Prop} (hN : N ≤ 32) (hi : i < N) (hj : j < N) (a : ¬ w < -1000) (b : w ≤ 1000) (c : pr (32 * i + j) = 0) (f : ¬ gc < gm) (hp : post 0 (nI N, gs, gm, gc, pr, wt, d, h, r)) : wpY_canSet post (nI N, gs, gm, gc, pr, wt, d, h, r) (nI i) (nI j) w := by
  have hk := xn_k hN hi hj
  have ck := xn_c hk
  unfold wpY_canSet
  exact yv_o hN hi (br_f yn_10 (yv_o hN hj (br_f yn_10 (br_f a (br_t b (nm_r xn_slot ⟨xn_v hk, nm_r (show pr (nI (32 * i + j)).toNatClampNeg = 0 by rw [ck]; exact c) (br_t rfl (br_f f hp))⟩))))))
theorem yf_69 {post : Int32 → SY → Prop} {k : Nat} {p : Int32} (hN : N ≤ 32) (hN0 : 1 ≤ N) (hs : s < N) (hk : k < 1024) (ep : pr k = p) (hb : p = 0 ∨ p = 1) (hg : yg_ok (upd W k w) (upd pr k 1) (upd wt k w)) (hz : ∀ x, 32 ≤ x → r x = 0 ∧ d x = 0 ∧ h x = 0)
    (hp : post (if dq_ch (upd W k w) N s (N - 1) 1024 = 0 then 1 else 0) (nI N, nI s, gm, gc, pr, wt, (dq_seq (upd W k w) N s (1024 * N)).2.1, (dq_seq (upd W k w) N s (1024 * N)).2.2, (dq_seq (upd W k w) N s (1024 * N)).1)) : wY_canSet_69 post w (nI k) p (nI N) (nI s) gm gc pr wt d h r := by
  have ck := xn_c hk
  have e1 : upd (upd pr k 1) (nI k).toNatClampNeg (vp_nar .boolean p) = pr := by
    have ev : vp_nar .boolean p = p := by
      rcases hb with z | z
      · rw [z, yn_b0]
      · rw [z, yn_b1]
    rw [ck, ev]
    funext x
    by_cases c : x = k
    · rw [c, pk_us, ep]
    · rw [pk_un c, pk_un c]
  have e2 : upd (upd wt k w) (nI k).toNatClampNeg (wt k) = wt := by
    rw [ck]
    funext x
    by_cases c : x = k
    · rw [c, pk_us]
    · rw [pk_un c, pk_un c]
  unfold wY_canSet_69
  refine ⟨xn_v hk, nm_r (show wt (nI k).toNatClampNeg = wt k by rw [ck]) ⟨xn_v hk, nm_r (show upd pr (nI k).toNatClampNeg (vp_nar .boolean 1) = upd pr k 1 by rw [ck, yn_b1]) ⟨xn_v hk, nm_r (show upd wt (nI k).toNatClampNeg w = upd wt k w by rw [ck]) ?_⟩⟩⟩
  refine yc_compute hN hN0 hs hg hz ?_
  refine ⟨xn_v hk, nm_r e1 ⟨xn_v hk, nm_r e2 ⟨yn_nb ?_, hp⟩⟩⟩
  by_cases c : dq_ch (upd W k w) N s (N - 1) 1024 = 0
  · rw [if_pos c]; exact Or.inr rfl
  · rw [if_neg c]; exact Or.inl rfl
theorem yf_6 {post : Int32 → SY → Prop} (hN : N ≤ 32) (hN0 : 1 ≤ N) (hs : s < N) (hi : i < N) (hj : j < N) (a : ¬ w < -1000) (b : w ≤ 1000) (c : pr (32 * i + j) = 1 ∨ (pr (32 * i + j) = 0 ∧ gc < gm)) (hg : yg_ok (upd W (32 * i + j) w) (upd pr (32 * i + j) 1) (upd wt (32 * i + j) w)) (hz : ∀ x, 32 ≤ x → r x = 0 ∧ d x = 0 ∧ h x = 0)
    (hp : post (if dq_ch (upd W (32 * i + j) w) N s (N - 1) 1024 = 0 then 1 else 0) (nI N, nI s, gm, gc, pr, wt, (dq_seq (upd W (32 * i + j) w) N s (1024 * N)).2.1, (dq_seq (upd W (32 * i + j) w) N s (1024 * N)).2.2, (dq_seq (upd W (32 * i + j) w) N s (1024 * N)).1)) :
    wpY_canSet post (nI N, nI s, gm, gc, pr, wt, d, h, r) (nI i) (nI j) w := by
  have hk := xn_k hN hi hj
  have ck := xn_c hk
  unfold wpY_canSet
  refine yv_o hN hi (br_f yn_10 (yv_o hN hj (br_f yn_10 (br_f a (br_t b (nm_r xn_slot ⟨xn_v hk, nm_r (show pr (nI (32 * i + j)).toNatClampNeg = pr (32 * i + j) by rw [ck]) ?_⟩))))))
  rcases c with c | ⟨c, f⟩
  · exact br_f (by rw [c]; exact yn_10) (yf_69 hN hN0 hs hk rfl (Or.inr c) hg hz hp)
  · exact br_t c (br_t f (yf_69 hN hN0 hs hk rfl (Or.inl c) hg hz hp))
/-! the calls that ask -/
theorem yh_b {post : Int32 → SY → Prop} (a : xv_bad N x) (hp : post 2147483647 (nI N, gs, gm, gc, pr, wt, d, h, r)) : wpY_getDist post (nI N, gs, gm, gc, pr, wt, d, h, r) x := by
  unfold wpY_getDist
  exact yv_b a (br_t rfl hp)
theorem yh_o {post : Int32 → SY → Prop} (hN : N ≤ 32) (hN0 : 1 ≤ N) (hs : s < N) (hi : i < N) (hg : yg_ok W pr wt) (hz : ∀ x, 32 ≤ x → r x = 0 ∧ d x = 0 ∧ h x = 0)
    (h0 : (dq_seq W N s (1024 * N)).1 i = 0 → post 2147483647 (nI N, nI s, gm, gc, pr, wt, (dq_seq W N s (1024 * N)).2.1, (dq_seq W N s (1024 * N)).2.2, (dq_seq W N s (1024 * N)).1))
    (h1 : ¬ (dq_seq W N s (1024 * N)).1 i = 0 → post ((dq_seq W N s (1024 * N)).2.1 i) (nI N, nI s, gm, gc, pr, wt, (dq_seq W N s (1024 * N)).2.1, (dq_seq W N s (1024 * N)).2.2, (dq_seq W N s (1024 * N)).1)) :
    wpY_getDist post (nI N, nI s, gm, gc, pr, wt, d, h, r) (nI i) := by
  unfold wpY_getDist
  refine yv_o hN hi (br_f yn_10 ?_)
  refine yc_compute hN hN0 hs hg hz ⟨xn_v32 hN hi, ?_⟩
  rw [xn_c32 hN hi]
  exact ⟨h0, fun z => ⟨xn_v32 hN hi, h1 z⟩⟩
theorem yi_b {post : Int32 → SY → Prop} (a : xv_bad N x) (hp : post 0 (nI N, gs, gm, gc, pr, wt, d, h, r)) : wpY_isReachable post (nI N, gs, gm, gc, pr, wt, d, h, r) x := by
  unfold wpY_isReachable
  exact yv_b a (br_t rfl hp)
theorem yi_o {post : Int32 → SY → Prop} (hN : N ≤ 32) (hN0 : 1 ≤ N) (hs : s < N) (hi : i < N) (hg : yg_ok W pr wt) (hz : ∀ x, 32 ≤ x → r x = 0 ∧ d x = 0 ∧ h x = 0)
    (hb : (dq_seq W N s (1024 * N)).1 i = 0 ∨ (dq_seq W N s (1024 * N)).1 i = 1)
    (hp : post ((dq_seq W N s (1024 * N)).1 i) (nI N, nI s, gm, gc, pr, wt, (dq_seq W N s (1024 * N)).2.1, (dq_seq W N s (1024 * N)).2.2, (dq_seq W N s (1024 * N)).1)) :
    wpY_isReachable post (nI N, nI s, gm, gc, pr, wt, d, h, r) (nI i) := by
  unfold wpY_isReachable
  refine yv_o hN hi (br_f yn_10 ?_)
  refine yc_compute hN hN0 hs hg hz ⟨xn_v32 hN hi, ?_⟩
  rw [xn_c32 hN hi]
  exact ⟨yn_nb hb, hp⟩
theorem yj_b {post : Int32 → SY → Prop} (a : xv_bad N x) (hp : post (-1) (nI N, gs, gm, gc, pr, wt, d, h, r)) : wpY_getHops post (nI N, gs, gm, gc, pr, wt, d, h, r) x := by
  unfold wpY_getHops
  exact yv_b a (br_t rfl hp)
theorem yj_o {post : Int32 → SY → Prop} (hN : N ≤ 32) (hN0 : 1 ≤ N) (hs : s < N) (hi : i < N) (hg : yg_ok W pr wt) (hz : ∀ x, 32 ≤ x → r x = 0 ∧ d x = 0 ∧ h x = 0)
    (h0 : (dq_seq W N s (1024 * N)).1 i = 0 → post (-1) (nI N, nI s, gm, gc, pr, wt, (dq_seq W N s (1024 * N)).2.1, (dq_seq W N s (1024 * N)).2.2, (dq_seq W N s (1024 * N)).1))
    (h1 : ¬ (dq_seq W N s (1024 * N)).1 i = 0 → post ((dq_seq W N s (1024 * N)).2.2 i) (nI N, nI s, gm, gc, pr, wt, (dq_seq W N s (1024 * N)).2.1, (dq_seq W N s (1024 * N)).2.2, (dq_seq W N s (1024 * N)).1)) :
    wpY_getHops post (nI N, nI s, gm, gc, pr, wt, d, h, r) (nI i) := by
  unfold wpY_getHops
  refine yv_o hN hi (br_f yn_10 ?_)
  refine yc_compute hN hN0 hs hg hz ⟨xn_v32 hN hi, ?_⟩
  rw [xn_c32 hN hi]
  exact ⟨h0, fun z => ⟨xn_v32 hN hi, h1 z⟩⟩
theorem yk_b {post : Int32 → SY → Prop} (a : xv_bad N x) (hp : post (-1) (nI N, gs, gm, gc, pr, wt, d, h, r)) : wpY_getParent post (nI N, gs, gm, gc, pr, wt, d, h, r) x := by
  unfold wpY_getParent
  exact yv_b a (br_t rfl hp)
theorem yk_o {post : Int32 → SY → Prop} (hN : N ≤ 32) (hN0 : 1 ≤ N) (hs : s < N) (hi : i < N) (hg : yg_ok W pr wt) (hz : ∀ x, 32 ≤ x → r x = 0 ∧ d x = 0 ∧ h x = 0)
    (hp : post (rq_par W N s (dq_seq W N s (1024 * N)) i) (nI N, nI s, gm, gc, pr, wt, (dq_seq W N s (1024 * N)).2.1, (dq_seq W N s (1024 * N)).2.2, (dq_seq W N s (1024 * N)).1)) :
    wpY_getParent post (nI N, nI s, gm, gc, pr, wt, d, h, r) (nI i) := by
  unfold wpY_getParent
  refine yv_o hN hi (br_f yn_10 ?_)
  refine yc_compute hN hN0 hs hg hz ⟨xn_v32 hN hi, ?_⟩
  unfold rq_par at hp
  by_cases c0 : (dq_seq W N s (1024 * N)).1 i = 0
  · have z : (if i = s then (-1 : Int32) else if (dq_seq W N s (1024 * N)).1 i = 0 then -1 else rq_scan W (dq_seq W N s (1024 * N)) i N 0) = -1 := by
      by_cases c1 : i = s
      · rw [if_pos c1]
      · rw [if_neg c1, if_pos c0]
    rw [z] at hp
    exact br_t (by rw [xn_c32 hN hi]; exact c0) hp
  · refine br_f (by rw [xn_c32 hN hi]; exact c0) ?_
    by_cases c1 : i = s
    · rw [if_pos c1] at hp
      exact br_t (by rw [c1]) hp
    · rw [if_neg c1, if_neg c0] at hp
      exact br_f (fun z => c1 ((nI_eq (by omega) (by omega)).mp z)) ⟨N + 1, yp_36 hN hi hg N 0 (by omega) (N + 1) (by omega) hp⟩
theorem yl_1 {post : Int32 → Prop} (a : xv_bad N x) (hp : post 2147483647) : wpY_getWeight post (nI N, gs, gm, gc, pr, wt, d, h, r) x y := by
  unfold wpY_getWeight
  exact yv_b a (br_t rfl hp)
theorem yl_2 {post : Int32 → Prop} (hN : N ≤ 32) (hi : i < N) (a : xv_bad N y) (hp : post 2147483647) : wpY_getWeight post (nI N, gs, gm, gc, pr, wt, d, h, r) (nI i) y := by
  unfold wpY_getWeight
  exact yv_o hN hi (br_f yn_10 (yv_b a (br_t rfl hp)))
theorem yl_o {post : Int32 → Prop} (hN : N ≤ 32) (hi : i < N) (hj : j < N) (h0 : pr (32 * i + j) = 0 → post 2147483647) (h1 : ¬ pr (32 * i + j) = 0 → post (wt (32 * i + j))) : wpY_getWeight post (nI N, gs, gm, gc, pr, wt, d, h, r) (nI i) (nI j) := by
  have hk := xn_k hN hi hj
  have ck := xn_c hk
  unfold wpY_getWeight
  refine yv_o hN hi (br_f yn_10 (yv_o hN hj (br_f yn_10 (nm_r xn_slot ⟨xn_v hk, ?_⟩))))
  rw [ck]
  exact ⟨h0, fun z => ⟨xn_v hk, h1 z⟩⟩
theorem ym_1 {post : Int32 → Prop} (a : xv_bad N x) (hp : post 0) : wpY_hasEdge post (nI N, gs, gm, gc, pr, wt, d, h, r) x y := by
  unfold wpY_hasEdge
  exact yv_b a (br_t rfl hp)
theorem ym_2 {post : Int32 → Prop} (hN : N ≤ 32) (hi : i < N) (a : xv_bad N y) (hp : post 0) : wpY_hasEdge post (nI N, gs, gm, gc, pr, wt, d, h, r) (nI i) y := by
  unfold wpY_hasEdge
  exact yv_o hN hi (br_f yn_10 (yv_b a (br_t rfl hp)))
theorem ym_o {post : Int32 → Prop} (hN : N ≤ 32) (hi : i < N) (hj : j < N) (hb : pr (32 * i + j) = 0 ∨ pr (32 * i + j) = 1) (hp : post (pr (32 * i + j))) : wpY_hasEdge post (nI N, gs, gm, gc, pr, wt, d, h, r) (nI i) (nI j) := by
  have hk := xn_k hN hi hj
  have ck := xn_c hk
  unfold wpY_hasEdge
  refine yv_o hN hi (br_f yn_10 (yv_o hN hj (br_f yn_10 ?_)))
  rw [xn_slot, ck]
  exact ⟨xn_v hk, yn_nb hb, hp⟩
theorem yo_o {post : Int32 → SY → Prop} (hN : N ≤ 32) (hN0 : 1 ≤ N) (hs : s < N) (hg : yg_ok W pr wt) (hz : ∀ x, 32 ≤ x → r x = 0 ∧ d x = 0 ∧ h x = 0)
    (hp : post (rq_cnt (dq_seq W N s (1024 * N)).1 N) (nI N, nI s, gm, gc, pr, wt, (dq_seq W N s (1024 * N)).2.1, (dq_seq W N s (1024 * N)).2.2, (dq_seq W N s (1024 * N)).1)) :
    wpY_reachableCount post (nI N, nI s, gm, gc, pr, wt, d, h, r) := by
  unfold wpY_reachableCount
  refine yc_compute hN hN0 hs hg hz ?_
  exact ⟨N + 1, yr_9 hN hp N 0 (by omega) (N + 1) (by omega)⟩
end
end
section
/-! isolate: both sides drop the same slots, one place at a time -/
section
variable {N s k : Nat} {fm fs fe fr gs gm gc : Int32} {W ds ho pa tD tH pr wt d h r : Nat → Int32}
theorem io_sub (a : Int32) (x y : Nat) : a - nI x - nI y = a - nI (x + y) := by
  rw [← nI_add]
  grind
theorem io_add (a : Int32) (x y : Nat) : a + nI x + nI y = a + nI (x + y) := by
  rw [← nI_add]
  grind
theorem io_s0 (a : Int32) : a - nI 0 = a := by
  rw [nI_0]
  grind
theorem io_a0 (a : Int32) : a + nI 0 = a := by
  rw [nI_0]
  grind
/-- the slot k is dropped on both sides, if it is there: t edges go -/
def io_one (k : Nat) (W pr wt W1 pr1 wt1 : Nat → Int32) (t : Nat) : Prop :=
  (pr k = 0 ∧ W k = 2147483647 ∧ t = 0 ∧ W1 = W ∧ pr1 = pr ∧ wt1 = wt) ∨ (pr k = 1 ∧ ¬ W k = 2147483647 ∧ t = 1 ∧ W1 = upd W k 2147483647 ∧ pr1 = upd pr k 0 ∧ wt1 = upd wt k 0)
theorem io_ex (hk : k < 1024) (hg : yg_ok W pr wt) : ∃ (W1 pr1 wt1 : Nat → Int32) (t : Nat), io_one k W pr wt W1 pr1 wt1 t := by
  rcases hg k hk with ⟨a, b⟩ | ⟨a, b, _, _, _⟩
  · exact ⟨W, pr, wt, 0, Or.inl ⟨a, b, rfl, rfl, rfl, rfl⟩⟩
  · exact ⟨_, _, _, 1, Or.inr ⟨a, b, rfl, rfl, rfl, rfl⟩⟩
theorem io_pr {W1 pr1 wt1 : Nat → Int32} {t : Nat} (hg : yg_ok W pr wt) (o : io_one k W pr wt W1 pr1 wt1 t) : yg_ok W1 pr1 wt1 ∧ W1 k = 2147483647 ∧ pr1 k = 0 ∧ t ≤ 1 ∧ ∀ i, i < 1024 → ¬ W1 i = 2147483647 → W1 i = W i := by
  rcases o with ⟨a, b, e1, e2, e3, e4⟩ | ⟨a, b, e1, e2, e3, e4⟩
  · subst e1 e2 e3 e4
    exact ⟨hg, b, a, by decide, fun _ _ _ => rfl⟩
  · subst e1 e2 e3 e4
    refine ⟨fun i hi => ?_, pk_us, pk_us, by decide, fun i _ z => ?_⟩
    · by_cases c : i = k
      · rw [c]
        exact Or.inl ⟨pk_us, pk_us⟩
      · rw [pk_un c, pk_un c, pk_un c]
        exact hg i hi
    · by_cases c : i = k
      · rw [c] at z
        exact absurd pk_us z
      · rw [pk_un c]
theorem io_x {post : SX → Prop} {W1 pr1 wt1 : Nat → Int32} {t : Nat} (hk : k < 1024) (o : io_one k W pr wt W1 pr1 wt1 t) (hp : post (nI N, fm, fs, fe - nI t, fr, W1, ds, ho, pa, tD, tH)) : wpX_dropSlot post (nI N, fm, fs, fe, fr, W, ds, ho, pa, tD, tH) (nI k) := by
  have ck := xn_c hk
  rcases o with ⟨a, b, e1, e2, e3, e4⟩ | ⟨a, b, e1, e2, e3, e4⟩
  · subst e1 e2
    rw [io_s0] at hp
    exact ⟨xn_v hk, br_t (by rw [ck]; exact b) hp⟩
  · subst e1 e2
    exact ⟨xn_v hk, br_f (by rw [ck]; exact b) ⟨xn_v hk, nm_r (show upd W (nI k).toNatClampNeg 2147483647 = upd W k 2147483647 by rw [ck]) (nm_e hp)⟩⟩
theorem io_y {post : Int32 → SY → Prop} {J14 : Int32 → Int32 → (Nat → Int32) → (Nat → Int32) → (Nat → Int32) → (Nat → Int32) → (Nat → Int32) → Prop} {c : Int32} {v x : Nat} {W1 pr1 wt1 : Nat → Int32} {t : Nat} (hN : N ≤ 32) (hv : v < N) (hx : x < N) (o : io_one (32 * x + v) W pr wt W1 pr1 wt1 t) (hxv : x = v → pr (32 * x + v) = 0) (hJ : J14 (c + nI t) (nI (x + 1)) pr1 wt1 d h r) : wY_isolate_59 post J14 (nI v) c (nI x) (nI N) gs gm gc pr wt d h r := by
  have hk : 32 * x + v < 1024 := by omega
  have ck := xn_c hk
  refine nm_r xn_slot ?_
  rcases o with ⟨a, b, e1, e2, e3, e4⟩ | ⟨a, b, e1, e2, e3, e4⟩
  · subst e1 e3 e4
    rw [io_a0] at hJ
    by_cases c1 : x = v
    · exact br_t (by rw [c1]) (nm_r (nI_1 x) hJ)
    · exact br_f (fun z => c1 ((nI_eq (by omega) (by omega)).mp z)) ⟨xn_v hk, br_t (by rw [ck]; exact a) (nm_r (nI_1 x) hJ)⟩
  · subst e1 e3 e4
    have c1 : ¬ x = v := fun z => by
      rw [hxv z] at a
      exact yn_10 a.symm
    exact br_f (fun z => c1 ((nI_eq (by omega) (by omega)).mp z)) ⟨xn_v hk, br_f (by rw [ck, a]; exact yn_10) ⟨xn_v hk, nm_r (show upd pr (nI (32 * x + v)).toNatClampNeg (vp_nar .boolean 0) = upd pr (32 * x + v) 0 by rw [ck, yn_b0]) ⟨xn_v hk, nm_r (show upd wt (nI (32 * x + v)).toNatClampNeg 0 = upd wt (32 * x + v) 0 by rw [ck]) (nm_e (nm_r (nI_1 x) hJ))⟩⟩⟩
theorem io_main {v : Nat} (hN : N ≤ 32) (hN0 : 1 ≤ N) (hs : s < N) (hv : v < N) : ∀ e x, x + e = N → ∀ W pr wt : Nat → Int32, yg_ok W pr wt → ∃ (W' pr' wt' : Nat → Int32) (t : Nat), t ≤ 2 * e ∧ yg_ok W' pr' wt' ∧ (∀ i, i < 1024 → ¬ W' i = 2147483647 → W' i = W i) ∧
    (∀ (post : Int32 → SX → Prop) (fm fe fr x2 : Int32) (ds ho pa tD tH : Nat → Int32) (n : Nat), e < n → (∀ ds ho pa tD tH : Nat → Int32, xf_ok W' N s ds ho pa → post (x2 - (fe - nI t)) (nI N, fm, nI s, fe - nI t, rq_cnt (dq_seq W' N s (1024 * N)).1 N, W', ds, ho, pa, tD, tH)) → wX_isolate_17 post (nI v) x2 n (nI x) (nI N) fm (nI s) fe fr W ds ho pa tD tH) ∧
    (∀ (post : Int32 → SY → Prop) (gs gm gc c : Int32) (d h r : Nat → Int32) (n : Nat), e < n → post (c + nI t) (nI N, gs, gm, gc - (c + nI t), pr', wt', d, h, r) → wY_isolate_14 post (nI v) (nI N) gs gm gc n c (nI x) pr wt d h r) := by
  intro e
  induction e with
  | zero =>
    intro x hx W pr wt hg
    refine ⟨W, pr, wt, 0, by omega, hg, fun _ _ _ => rfl, ?_, ?_⟩
    · intro post fm fe fr x2 ds ho pa tD tH n hn hp
      obtain ⟨n', rfl⟩ : ∃ n', n = n' + 1 := ⟨n - 1, by omega⟩
      rw [io_s0] at hp
      refine br_t (nI_le (by omega) (by omega)) ?_
      exact xc_rec hN hN0 hs (yg_gr hg) fun ds ho pa tD tH z => hp ds ho pa tD tH z
    · intro post gs gm gc c d h r n hn hp
      obtain ⟨n', rfl⟩ : ∃ n', n = n' + 1 := ⟨n - 1, by omega⟩
      rw [io_a0] at hp
      exact br_t (nI_le (by omega) (by omega)) (nm_e hp)
  | succ e ih =>
    intro x hx W pr wt hg
    have hk1 : 32 * v + x < 1024 := by omega
    have hk2 : 32 * x + v < 1024 := by omega
    obtain ⟨W1, pr1, wt1, t1, o1⟩ := io_ex hk1 hg
    obtain ⟨g1, w1, p1, l1, s1⟩ := io_pr hg o1
    obtain ⟨W2, pr2, wt2, t2, o2⟩ := io_ex hk2 g1
    obtain ⟨g2, w2, p2, l2, s2⟩ := io_pr g1 o2
    obtain ⟨W', pr', wt', t, lt, gt, st, hX, hY⟩ := ih (x + 1) (by omega) W2 pr2 wt2 g2
    refine ⟨W', pr', wt', t1 + t2 + t, by omega, gt, ?_, ?_, ?_⟩
    · intro i hi z
      have z1 := st i hi z
      have z2 := s2 i hi (by rw [← z1]; exact z)
      have z3 := s1 i hi (by rw [← z2, ← z1]; exact z)
      rw [z1, z2, z3]
    · intro post fm fe fr x2 ds ho pa tD tH n hn hp
      obtain ⟨n', rfl⟩ : ∃ n', n = n' + 1 := ⟨n - 1, by omega⟩
      rw [← io_sub, ← io_sub] at hp
      refine br_f (nI_ge (by omega) (by omega)) (xs_slot (io_x hk1 o1 ?_))
      refine xs_slot (io_x hk2 o2 ?_)
      exact nm_r (nI_1 x) (hX post fm (fe - nI t1 - nI t2) fr x2 ds ho pa tD tH n' (by omega) hp)
    · intro post gs gm gc c d h r n hn hp
      obtain ⟨n', rfl⟩ : ∃ n', n = n' + 1 := ⟨n - 1, by omega⟩
      rw [← io_add, ← io_add] at hp
      have ck := xn_c hk1
      have hJ := hY post gs gm gc (c + nI t1 + nI t2) d h r n' (by omega) hp
      have z := io_y (post := post) (gs := gs) (gm := gm) (gc := gc) hN hv (by omega) o2 (fun q => by rw [q]; rw [q] at p1; exact p1) hJ
      refine br_f (nI_ge (by omega) (by omega)) (nm_r xn_slot ⟨xn_v hk1, ?_⟩)
      rcases o1 with ⟨a, b, e1, e2, e3, e4⟩ | ⟨a, b, e1, e2, e3, e4⟩
      · subst e1 e3 e4
        rw [io_a0] at z
        exact br_t (by rw [ck]; exact a) z
      · subst e1 e3 e4
        exact br_f (by rw [ck, a]; exact yn_10) ⟨xn_v hk1, nm_r (show upd pr (nI (32 * v + x)).toNatClampNeg (vp_nar .boolean 0) = upd pr (32 * v + x) 0 by rw [ck, yn_b0]) ⟨xn_v hk1, nm_r (show upd wt (nI (32 * v + x)).toNatClampNeg 0 = upd wt (32 * v + x) 0 by rw [ck]) (nm_e z)⟩⟩
theorem xu_1 {post : Int32 → SX → Prop} {x : Int32} (a : xv_bad N x) (hp : post (-1) (nI N, fm, fs, fe, fr, W, ds, ho, pa, tD, tH)) : wpX_isolate post (nI N, fm, fs, fe, fr, W, ds, ho, pa, tD, tH) x := by
  unfold wpX_isolate
  exact xv_b a (br_t rfl hp)
theorem yu_1 {post : Int32 → SY → Prop} {x : Int32} (a : xv_bad N x) (hp : post (-1) (nI N, gs, gm, gc, pr, wt, d, h, r)) : wpY_isolate post (nI N, gs, gm, gc, pr, wt, d, h, r) x := by
  unfold wpY_isolate
  exact yv_b a (br_t rfl hp)
/-- both sides' isolate -/
theorem io_all {v : Nat} (hN : N ≤ 32) (hN0 : 1 ≤ N) (hs : s < N) (hv : v < N) (hg : yg_ok W pr wt) : ∃ (W' pr' wt' : Nat → Int32) (t : Nat), t ≤ 64 ∧ yg_ok W' pr' wt' ∧ (∀ i, i < 1024 → ¬ W' i = 2147483647 → W' i = W i) ∧
    (∀ (post : Int32 → SX → Prop) (fm fe fr : Int32) (ds ho pa tD tH : Nat → Int32), (∀ ds ho pa tD tH : Nat → Int32, xf_ok W' N s ds ho pa → post (nI t) (nI N, fm, nI s, fe - nI t, rq_cnt (dq_seq W' N s (1024 * N)).1 N, W', ds, ho, pa, tD, tH)) → wpX_isolate post (nI N, fm, nI s, fe, fr, W, ds, ho, pa, tD, tH) (nI v)) ∧
    (∀ (post : Int32 → SY → Prop) (gs gm gc : Int32) (d h r : Nat → Int32), post (nI t) (nI N, gs, gm, gc - nI t, pr', wt', d, h, r) → wpY_isolate post (nI N, gs, gm, gc, pr, wt, d, h, r) (nI v)) := by
  obtain ⟨W', pr', wt', t, lt, gt, st, hX, hY⟩ := io_main (s := s) hN hN0 hs hv N 0 (by omega) W pr wt hg
  refine ⟨W', pr', wt', t, by omega, gt, st, ?_, ?_⟩
  · intro post fm fe fr ds ho pa tD tH hp
    have e : fe - (fe - nI t) = nI t := by grind
    unfold wpX_isolate
    refine xv_o hN hv (br_f yn_10 ⟨N + 1, ?_⟩)
    exact hX post fm fe fr fe ds ho pa tD tH (N + 1) (by omega) (by rw [e]; exact hp)
  · intro post gs gm gc d h r hp
    have e : (0 : Int32) + nI t = nI t := by grind
    unfold wpY_isolate
    refine yv_o hN hv (br_f yn_10 ⟨N + 1, ?_⟩)
    exact hY post gs gm gc 0 d h r (N + 1) (by omega) (by rw [e]; exact hp)
end
end
section
/-! the relation and the cases -/
section
variable {k N s m i j : Nat} {fe w : Int32} {W ds ho pa tD tH pr wt d h r : Nat → Int32}
def xl_Rel (k : Nat) (fn fm fs fe fr : Int32) (W ds ho pa : Nat → Int32) (gn gs gm gc : Int32) (pr wt d h r : Nat → Int32) : Prop :=
  ∃ N s m : Nat, fn = nI N ∧ gn = nI N ∧ fs = nI s ∧ gs = nI s ∧ fm = nI m ∧ gm = nI m ∧ fe = gc ∧ fr = rq_cnt (dq_seq W N s (1024 * N)).1 N ∧ 2 ≤ N ∧ N ≤ 32 ∧ s < N ∧ m ≤ 128 ∧ -(64 * (k : Int)) ≤ fe.toInt ∧ fe.toInt ≤ (m : Int) ∧ yg_ok W pr wt ∧ xf_ok W N s ds ho pa ∧ dq_ok W N s ∧ ∀ i, 32 ≤ i → r i = 0 ∧ d i = 0 ∧ h i = 0
def i_Rel (k : Nat) (u : SX) (v : SY) : Prop := match u with
  | (fn, fm, fs, fe, fr, W, ds, ho, pa, _, _) => match v with
    | (gn, gs, gm, gc, pr, wt, d, h, r) => xl_Rel k fn fm fs fe fr W ds ho pa gn gs gm gc pr wt d h r
theorem i_up {k : Nat} {u : SX} {v : SY} (h : i_Rel k u v) : i_Rel (k + 4) u v := by
  obtain ⟨fn, fm, fs, fe, fr, W, ds, ho, pa, tD, tH⟩ := u
  obtain ⟨gn, gs, gm, gc, pr, wt, d, hh, r⟩ := v
  obtain ⟨N, s, m, e1, e2, e3, e4, e5, e6, e7, e8, n2, n32, hs, hm, b1, b2, hg, hf, ho', hz⟩ := h
  exact ⟨N, s, m, e1, e2, e3, e4, e5, e6, e7, e8, n2, n32, hs, hm, by omega, b2, hg, hf, ho', hz⟩
theorem xl_mk (n2 : 2 ≤ N) (n32 : N ≤ 32) (hs : s < N) (hm : m ≤ 128) (b1 : -(64 * (k : Int)) ≤ fe.toInt) (b2 : fe.toInt ≤ (m : Int)) (hg : yg_ok W pr wt) (hf : xf_ok W N s ds ho pa) (hok : dq_ok W N s) (hz : ∀ i, 32 ≤ i → r i = 0 ∧ d i = 0 ∧ h i = 0) : i_Rel k (nI N, nI m, nI s, fe, rq_cnt (dq_seq W N s (1024 * N)).1 N, W, ds, ho, pa, tD, tH) (nI N, nI s, nI m, fe, pr, wt, d, h, r) :=
  ⟨N, s, m, rfl, rfl, rfl, rfl, rfl, rfl, rfl, rfl, n2, n32, hs, hm, b1, b2, hg, hf, hok, hz⟩
theorem xl_ti {a : Nat} (h : a ≤ 200) : (nI a).toInt = (a : Int) := nI_toInt (by omega)
theorem xl_sub {a b : Int32} (h1 : -2147483648 ≤ a.toInt - b.toInt) (h2 : a.toInt - b.toInt < 2147483648) : (a - b).toInt = a.toInt - b.toInt := by
  rw [Int32.toInt_sub]
  exact Int.bmod_eq_of_le (by omega) (by omega)
/-- a slot set to an allowed weight -/
theorem xl_set {q : Nat} (hg : yg_ok W pr wt) (w1 : ¬ w = 2147483647) (w2 : -1000 ≤ w.toInt) (w3 : w.toInt ≤ 1000) : yg_ok (upd W q w) (upd pr q 1) (upd wt q w) := by
  intro x hx
  by_cases c : x = q
  · rw [c, pk_us, pk_us, pk_us]
    exact Or.inr ⟨rfl, w1, rfl, w2, w3⟩
  · rw [pk_un c, pk_un c, pk_un c]
    exact hg x hx
theorem xl_put {q : Nat} (hg : yg_ok W pr wt) (hp : pr q = 1) (w1 : ¬ w = 2147483647) (w2 : -1000 ≤ w.toInt) (w3 : w.toInt ≤ 1000) : yg_ok (upd W q w) pr (upd wt q w) := by
  intro x hx
  by_cases c : x = q
  · rw [c, pk_us, pk_us]
    exact Or.inr ⟨hp, w1, rfl, w2, w3⟩
  · rw [pk_un c, pk_un c]
    exact hg x hx
theorem xl_back {q : Nat} {a b c : Int32} (hg : yg_ok W pr wt) (hw : W q = 2147483647) : yg_ok W (upd (upd pr q a) q 0) (upd (upd wt q b) q c) := by
  intro x hx
  by_cases e : x = q
  · rw [e, pk_us]
    exact Or.inl ⟨rfl, hw⟩
  · rw [pk_un e, pk_un e, pk_un e, pk_un e]
    exact hg x hx
theorem xl_bk {q : Nat} {a : Int32} : upd (upd wt q a) q (wt q) = wt := by
  funext x
  by_cases e : x = q
  · rw [e, pk_us]
  · rw [pk_un e, pk_un e]
theorem xl_same {q : Nat} (h : W q = w) : upd W q w = W := by
  funext x
  by_cases e : x = q
  · rw [e, pk_us, h]
  · rw [pk_un e]
theorem xl_del {q : Nat} (hg : yg_ok W pr wt) : yg_ok (upd W q 2147483647) (upd pr q 0) (upd wt q 0) := by
  intro x hx
  by_cases c : x = q
  · rw [c, pk_us, pk_us]
    exact Or.inl ⟨rfl, rfl⟩
  · rw [pk_un c, pk_un c, pk_un c]
    exact hg x hx
theorem xl_hi (hs : s < N) (hN : N ≤ 32) : ∀ x, 32 ≤ x → (dq_seq W N s (1024 * N)).1 x = 0 ∧ (dq_seq W N s (1024 * N)).2.1 x = 0 ∧ (dq_seq W N s (1024 * N)).2.2 x = 0 := dq_hi (by omega) _
theorem xl_lt (hm : m ≤ 128) : fe < nI m ↔ fe.toInt < (m : Int) := by
  rw [Int32.lt_iff_toInt_lt, xl_ti (by omega)]
theorem xl_eq (hm : m ≤ 128) : fe = nI m ↔ fe.toInt = (m : Int) := by
  rw [← Int32.toInt_inj, xl_ti (by omega)]
theorem xl_inc (hm : m ≤ 128) (hk : k ≤ 2051) (b1 : -(64 * (k : Int)) ≤ fe.toInt) (f : fe.toInt < (m : Int)) : -(64 * ((k + 4 : Nat) : Int)) ≤ (fe + 1).toInt ∧ (fe + 1).toInt ≤ (m : Int) := by
  rw [dq_add (by rw [dq_t1]; omega) (by rw [dq_t1]; omega), dq_t1]
  omega
theorem xl_dec {t : Nat} (ht : t ≤ 64) (hm : m ≤ 128) (hk : k ≤ 2051) (b1 : -(64 * (k : Int)) ≤ fe.toInt) (b2 : fe.toInt ≤ (m : Int)) : -(64 * ((k + 4 : Nat) : Int)) ≤ (fe - nI t).toInt ∧ (fe - nI t).toInt ≤ (m : Int) := by
  have e := xl_ti (a := t) (by omega)
  rw [xl_sub (by rw [e]; omega) (by rw [e]; omega), e]
  omega
end
section
/-! the constructors -/
theorem xl_clamp (p : Int32) {a b : Nat} (hab : a ≤ b) (hb : b < 2 ^ 31) : ∃ c, a ≤ c ∧ c ≤ b ∧ ((nI a ≤ p ∧ p ≤ nI b ∧ p = nI c) ∨ (nI a ≤ p ∧ ¬ p ≤ nI b ∧ c = b) ∨ (¬ nI a ≤ p ∧ c = a)) := by
  by_cases h1 : nI a ≤ p
  · by_cases h2 : p ≤ nI b
    · have h0 : ¬ p < 0 := fun z => by
        rw [Int32.le_iff_toInt_le, nI_toInt (by omega)] at h1
        rw [Int32.lt_iff_toInt_lt, dq_t0] at z
        omega
      obtain ⟨c, hc, rfl⟩ := nI_of h0
      exact ⟨c, (nI_leI (by omega) hc).mp h1, (nI_leI hc hb).mp h2, Or.inl ⟨h1, h2, rfl⟩⟩
    · exact ⟨b, hab, Nat.le_refl _, Or.inr (Or.inl ⟨h1, h2, rfl⟩)⟩
  · exact ⟨a, Nat.le_refl _, hab, Or.inr (Or.inr ⟨h1, rfl⟩)⟩
def xl_is (p : Int32) (a b c : Nat) : Prop := (nI a ≤ p ∧ p ≤ nI b ∧ p = nI c) ∨ (nI a ≤ p ∧ ¬ p ≤ nI b ∧ c = b) ∨ (¬ nI a ≤ p ∧ c = a)
theorem xl_cx {post : Int32 → Prop} {p : Int32} {a b c : Nat} (h : xl_is p a b c) (hp : post (nI c)) : wpX_clamp post p (nI a) (nI b) := by
  rcases h with ⟨h1, h2, e⟩ | ⟨h1, h2, e⟩ | ⟨h1, e⟩
  · rw [← e] at hp
    exact br_t h1 (br_t h2 hp)
  · rw [e] at hp
    exact br_t h1 (br_f h2 hp)
  · rw [e] at hp
    exact br_f h1 hp
/-- all slots cleared -/
def xl_clr : Nat → Int32 := fun x => if x < 1024 then 2147483647 else 0
theorem xl_clr1 {x : Nat} (h : x < 1024) : xl_clr x = 2147483647 := if_pos h
theorem xl_cw {post : SX → Prop} {fn fm fs fe fr : Int32} {ds ho pa tD tH : Nat → Int32} (hp : post (fn, fm, fs, fe, fr, xl_clr, ds, ho, pa, tD, tH)) : ∀ e i, i + e = 1024 → ∀ n, e < n → ∀ W : Nat → Int32, (∀ x, (x < i → W x = 2147483647) ∧ (i ≤ x → W x = 0)) → wX_clearWeights_2 post fn fm fs fe fr n (nI i) W ds ho pa tD tH := by
  intro e
  induction e with
  | zero =>
    intro i hi n hn W hz
    obtain ⟨n', rfl⟩ : ∃ n', n = n' + 1 := ⟨n - 1, by omega⟩
    have hi2 : i = 1024 := by omega
    subst hi2
    have eW : W = xl_clr := by
      funext x
      unfold xl_clr
      by_cases c : x < 1024
      · rw [if_pos c]; exact (hz x).1 c
      · rw [if_neg c]; exact (hz x).2 (by omega)
    rw [eW]
    exact br_t (nI_le (a := 1024) (b := 1024) (Nat.le_refl _) (by decide)) hp
  | succ e ih =>
    intro i hi n hn W hz
    obtain ⟨n', rfl⟩ : ∃ n', n = n' + 1 := ⟨n - 1, by omega⟩
    have hk : i < 1024 := by omega
    refine br_f (nI_ge (b := 1024) hk (by decide)) ⟨xn_v hk, nm_r (show upd W (nI i).toNatClampNeg 2147483647 = upd W i 2147483647 by rw [xn_c hk]) (nm_r (nI_1 i) (ih (i + 1) (by omega) n' (by omega) _ fun x => ⟨fun hx => ?_, fun hx => ?_⟩))⟩
    · by_cases c : x = i
      · rw [c]; exact pk_us
      · rw [pk_un c]; exact (hz x).1 (by omega)
    · rw [pk_un (by omega)]; exact (hz x).2 (by omega)
theorem xl_x0 {post : SX → Prop} {k0 k1 k2 : Int32} {N s m : Nat} (hN0 : 2 ≤ N) (hN : N ≤ 32) (hs : s < N) (h0 : xl_is k0 2 32 N) (h1 : xl_is k1 0 (N - 1) s) (h2 : xl_is k2 1 128 m)
    (hp : ∀ ds ho pa tD tH : Nat → Int32, xf_ok xl_clr N s ds ho pa → post (nI N, nI m, nI s, 0, rq_cnt (dq_seq xl_clr N s (1024 * N)).1 N, xl_clr, ds, ho, pa, tD, tH)) : wpX_init post k0 k1 k2 := by
  have e1 : nI N - 1 = nI (N - 1) := pk_sub (b := 1) (by omega)
  unfold wpX_init
  refine xl_cx h0 ?_
  rw [e1]
  refine xl_cx h1 (xl_cx h2 ?_)
  refine ⟨1025, xl_cw ?_ 1024 0 (by omega) 1025 (by decide) _ (fun x => ⟨fun hx => absurd hx (Nat.not_lt_zero _), fun _ => rfl⟩)⟩
  exact xc_rec hN (by omega) hs (fun x hx => Or.inl (xl_clr1 hx)) fun ds ho pa tD tH z => hp ds ho pa tD tH z
theorem xl_y0 {post : SY → Prop} {k0 k1 k2 : Int32} {N s m : Nat} (hN0 : 2 ≤ N) (hN : N ≤ 32) (hs : s < N) (h0 : xl_is k0 2 32 N) (h1 : xl_is k1 0 (N - 1) s) (h2 : xl_is k2 1 128 m)
    (hp : post (nI N, nI s, nI m, 0, fun _ => 0, fun _ => 0, fun _ => 0, fun _ => 0, fun _ => 0)) : wpY_init post k0 k1 k2 := by
  have e1 : nI N - 1 = nI (N - 1) := pk_sub (b := 1) (by omega)
  have A3 : ∀ x4 x5 : Int32, x4 = nI N → x5 = nI s → wY_init_95 post k2 x4 x5 0 0 0 0 (fun _ => 0) (fun _ => 0) (fun _ => 0) (fun _ => 0) (fun _ => 0) := by
    intro x4 x5 e4 e5
    subst e4 e5
    unfold wY_init_95 wY_init_107 wY_init_120
    rcases h2 with ⟨a, b, e⟩ | ⟨a, b, e⟩ | ⟨a, e⟩
    · rw [← e] at hp
      exact br_t a (br_t b hp)
    · rw [e] at hp
      exact br_t a (br_f b hp)
    · rw [e] at hp
      exact br_f a (br_t (by decide) hp)
  have A2 : ∀ x4 : Int32, x4 = nI N → wY_init_69 post k1 k2 x4 0 0 0 0 (fun _ => 0) (fun _ => 0) (fun _ => 0) (fun _ => 0) (fun _ => 0) := by
    intro x4 e4
    unfold wY_init_69 wY_init_80
    rcases h1 with ⟨a, b, e⟩ | ⟨a, b, e⟩ | ⟨a, e⟩
    · exact br_t a (br_t (by rw [e4, e1]; exact b) (A3 x4 k1 e4 e))
    · exact br_t a (br_f (by rw [e4, e1]; exact b) (nm_e (A3 x4 _ e4 (by rw [e4, e1, e]))))
    · exact br_f a (br_t (by rw [e4, e1]; exact nI_le (a := 0) (by omega) (by omega)) (A3 x4 0 e4 (by rw [e, nI_0])))
  unfold wpY_init wY_init_58
  rcases h0 with ⟨a, b, e⟩ | ⟨a, b, e⟩ | ⟨a, e⟩
  · exact br_t a (br_t b (A2 k0 e))
  · exact br_t a (br_f b (A2 32 (by rw [e]; rfl)))
  · exact br_f a (br_t (by decide) (A2 2 (by rw [e]; rfl)))
theorem i_vc0 (k0 : Int32) (k1 : Int32) (k2 : Int32) : wpX_init (fun u => wpY_init (fun v => i_Rel 3 u v) k0 k1 k2) k0 k1 k2 := by
  obtain ⟨N, a1, a2, h0⟩ := xl_clamp k0 (a := 2) (b := 32) (by decide) (by decide)
  obtain ⟨s, b1, b2, h1⟩ := xl_clamp k1 (a := 0) (b := N - 1) (by omega) (by omega)
  obtain ⟨m, c1, c2, h2⟩ := xl_clamp k2 (a := 1) (b := 128) (by decide) (by decide)
  refine xl_x0 a1 a2 (by omega) h0 h1 h2 fun ds ho pa tD tH hf => ?_
  refine xl_y0 a1 a2 (by omega) h0 h1 h2 ?_
  exact xl_mk a1 a2 (by omega) (by omega) (by rw [dq_t0]; omega) (by rw [dq_t0]; omega) (fun x hx => Or.inl ⟨rfl, xl_clr1 hx⟩) hf (dq_ok0 a2 (fun _ => xl_clr1)) (fun _ _ => ⟨rfl, rfl, rfl⟩)
end
end
section
/-! one statement a call -/
section
theorem i_vc_addEdge {k : Nat} {u : SX} {v : SY} (I : i_Rel k u v) (hk : k + 4 ≤ 2051) (v1 : Int32) (v2 : Int32) (v3 : Int32) : wpX_addEdge (fun r u' => wpY_addEdge (fun r' v' => r' = r ∧ i_Rel (k + 4) u' v') v v1 v2 v3) u v1 v2 v3 := by
  have J := i_up I
  obtain ⟨fn, fm, fs, fe, fr, W, ds, ho, pa, tD, tH⟩ := u
  obtain ⟨gn, gs, gm, gc, pr, wt, d, h, r⟩ := v
  obtain ⟨N, s, m, rfl, rfl, rfl, rfl, rfl, rfl, rfl, rfl, n2, hN, hs, hm, b1, b2, hg, hf, hok, hz⟩ := I
  rcases xv_cases hN v1 with a1 | ⟨i, hi, rfl⟩
  · exact xa_1 a1 (ya_1 a1 ⟨rfl, J⟩)
  rcases xv_cases hN v2 with a2 | ⟨j, hj, rfl⟩
  · exact xa_2 hN hi a2 (ya_2 hN hi a2 ⟨rfl, J⟩)
  rcases xw_cases v3 with a3 | ⟨w1, w2, w3, w4, w5, w6⟩
  · exact xa_3 hN hi hj a3 (ya_3 hN hi hj a3 ⟨rfl, J⟩)
  have hq := xn_k hN hi hj
  rcases hg (32 * i + j) hq with ⟨p0, e0⟩ | ⟨p1, e1, _, _, _⟩
  · by_cases f : fe < nI m
    · have f' := (xl_lt hm).mp f
      have hg' := xl_set (q := 32 * i + j) hg w4 w5 w6
      have nf : ¬ fe = nI m := fun z => by
        have z' := (xl_eq hm).mp z
        omega
      obtain ⟨c1, c2⟩ := xl_inc hm (by omega) b1 f'
      refine xa_6 hN (by omega) hs hi hj w1 w2 e0 f (yg_gr hg') (fun q tD tH => ?_) (fun q ds ho pa tD tH hf' => ?_)
      · exact ya_6 (W := W) hN (by omega) hs hi hj w1 w3 p0 nf hg' hz (fun _ => ⟨rfl, xl_mk n2 hN hs hm (by omega) b2 (xl_back hg e0) hf hok (xl_hi hs hN)⟩) (fun z => absurd z q)
      · exact ya_6 (W := W) hN (by omega) hs hi hj w1 w3 p0 nf hg' hz (fun z => absurd q z) (fun _ => ⟨rfl, xl_mk n2 hN hs hm c1 c2 hg' hf' (dq_qok (yg_gr hg') hN hs q) (xl_hi hs hN)⟩)
    · have f' : ¬ fe.toInt < (m : Int) := fun z => f ((xl_lt hm).mpr z)
      exact xa_5 hN hi hj w1 w2 e0 f (ya_5 hN hi hj w1 w3 p0 ((xl_eq hm).mpr (by omega)) ⟨rfl, J⟩)
  · exact xa_4 hN hi hj w1 w2 e1 (ya_4 hN hi hj w1 w3 (by rw [p1]; exact yn_10) ⟨rfl, J⟩)
theorem i_vc_setWeight {k : Nat} {u : SX} {v : SY} (I : i_Rel k u v) (hk : k + 4 ≤ 2051) (v1 : Int32) (v2 : Int32) (v3 : Int32) : wpX_setWeight (fun r u' => wpY_setWeight (fun r' v' => r' = r ∧ i_Rel (k + 4) u' v') v v1 v2 v3) u v1 v2 v3 := by
  have J := i_up I
  obtain ⟨fn, fm, fs, fe, fr, W, ds, ho, pa, tD, tH⟩ := u
  obtain ⟨gn, gs, gm, gc, pr, wt, d, h, r⟩ := v
  obtain ⟨N, s, m, rfl, rfl, rfl, rfl, rfl, rfl, rfl, rfl, n2, hN, hs, hm, b1, b2, hg, hf, hok, hz⟩ := I
  rcases xv_cases hN v1 with a1 | ⟨i, hi, rfl⟩
  · exact xb_1 a1 (yb_1 a1 ⟨rfl, J⟩)
  rcases xv_cases hN v2 with a2 | ⟨j, hj, rfl⟩
  · exact xb_2 hN hi a2 (yb_2 hN hi a2 ⟨rfl, J⟩)
  rcases xw_cases v3 with a3 | ⟨w1, w2, w3, w4, w5, w6⟩
  · exact xb_3 hN hi hj a3 (yb_3 hN hi hj a3 ⟨rfl, J⟩)
  have hq := xn_k hN hi hj
  rcases hg (32 * i + j) hq with ⟨p0, e0⟩ | ⟨p1, e1, ew, _, _⟩
  · exact xb_4 hN hi hj w1 w2 e0 (yb_4 hN hi hj w1 w3 p0 ⟨rfl, J⟩)
  have p1' : ¬ pr (32 * i + j) = 0 := by rw [p1]; exact yn_10
  have hg' := xl_put (q := 32 * i + j) hg p1 w4 w5 w6
  by_cases f : wt (32 * i + j) = v3
  · have es : upd W (32 * i + j) v3 = W := xl_same (by rw [← ew]; exact f)
    refine xb_6 hN (by omega) hs hi hj w1 w2 e1 (yg_gr hg') (fun q tD tH => ?_) (fun q ds ho pa tD tH hf' => ?_)
    · rw [es] at q
      exact absurd (dq_okq (yg_gr hg) hN hs hok) q
    · rw [es] at hf' ⊢
      exact yb_5 hN hi hj w1 w3 p1' f ⟨rfl, xl_mk n2 hN hs hm (by omega) b2 hg hf' hok hz⟩
  · refine xb_6 hN (by omega) hs hi hj w1 w2 e1 (yg_gr hg') (fun q tD tH => ?_) (fun q ds ho pa tD tH hf' => ?_)
    · exact yb_6 (W := W) hN (by omega) hs hi hj w1 w3 p1' f hg' hz (fun _ => ⟨rfl, by rw [xl_bk]; exact xl_mk n2 hN hs hm (by omega) b2 hg hf hok (xl_hi hs hN)⟩) (fun z => absurd z q)
    · exact yb_6 (W := W) hN (by omega) hs hi hj w1 w3 p1' f hg' hz (fun z => absurd q z) (fun _ => ⟨rfl, xl_mk n2 hN hs hm (by omega) b2 hg' hf' (dq_qok (yg_gr hg') hN hs q) (xl_hi hs hN)⟩)
theorem i_vc_removeEdge {k : Nat} {u : SX} {v : SY} (I : i_Rel k u v) (hk : k + 4 ≤ 2051) (v1 : Int32) (v2 : Int32) : wpX_removeEdge (fun r u' => wpY_removeEdge (fun r' v' => r' = r ∧ i_Rel (k + 4) u' v') v v1 v2) u v1 v2 := by
  have J := i_up I
  obtain ⟨fn, fm, fs, fe, fr, W, ds, ho, pa, tD, tH⟩ := u
  obtain ⟨gn, gs, gm, gc, pr, wt, d, h, r⟩ := v
  obtain ⟨N, s, m, rfl, rfl, rfl, rfl, rfl, rfl, rfl, rfl, n2, hN, hs, hm, b1, b2, hg, hf, hok, hz⟩ := I
  rcases xv_cases hN v1 with a1 | ⟨i, hi, rfl⟩
  · exact xd_1 a1 (yd_1 a1 ⟨rfl, J⟩)
  rcases xv_cases hN v2 with a2 | ⟨j, hj, rfl⟩
  · exact xd_2 hN hi a2 (yd_2 hN hi a2 ⟨rfl, J⟩)
  have hq := xn_k hN hi hj
  rcases hg (32 * i + j) hq with ⟨p0, e0⟩ | ⟨p1, e1, ew, _, _⟩
  · exact xd_4 hN hi hj e0 (yd_4 hN hi hj p0 ⟨rfl, J⟩)
  have p1' : ¬ pr (32 * i + j) = 0 := by rw [p1]; exact yn_10
  have hg' := xl_del (q := 32 * i + j) hg
  obtain ⟨c1, c2⟩ := xl_dec (t := 1) (by decide) hm (by omega) b1 b2
  refine xd_6 hN (by omega) hs hi hj e1 (yg_gr hg') (fun ds ho pa tD tH hf' => ?_)
  refine yd_6 hN hi hj p1' ⟨rfl, xl_mk n2 hN hs hm c1 c2 hg' hf' (dq_okS hN (fun x _ z => ?_) hok) hz⟩
  by_cases c : x = 32 * i + j
  · rw [c] at z
    exact absurd pk_us z
  · exact pk_un c
theorem i_vc_isolate {k : Nat} {u : SX} {v : SY} (I : i_Rel k u v) (hk : k + 4 ≤ 2051) (v1 : Int32) : wpX_isolate (fun r u' => wpY_isolate (fun r' v' => r' = r ∧ i_Rel (k + 4) u' v') v v1) u v1 := by
  have J := i_up I
  obtain ⟨fn, fm, fs, fe, fr, W, ds, ho, pa, tD, tH⟩ := u
  obtain ⟨gn, gs, gm, gc, pr, wt, d, h, r⟩ := v
  obtain ⟨N, s, m, rfl, rfl, rfl, rfl, rfl, rfl, rfl, rfl, n2, hN, hs, hm, b1, b2, hg, hf, hok, hz⟩ := I
  rcases xv_cases hN v1 with a1 | ⟨i, hi, rfl⟩
  · exact xu_1 a1 (yu_1 a1 ⟨rfl, J⟩)
  obtain ⟨W', pr', wt', t, lt, hg', sub, hX, hY⟩ := io_all (s := s) hN (by omega) hs hi hg
  obtain ⟨c1, c2⟩ := xl_dec lt hm (by omega) b1 b2
  refine hX _ _ _ _ _ _ _ _ _ fun ds ho pa tD tH hf' => ?_
  exact hY _ _ _ _ _ _ _ ⟨rfl, xl_mk n2 hN hs hm c1 c2 hg' hf' (dq_okS hN sub hok) hz⟩
theorem i_vc_setSource {k : Nat} {u : SX} {v : SY} (I : i_Rel k u v) (hk : k + 4 ≤ 2051) (v1 : Int32) : wpX_setSource (fun r u' => wpY_setSource (fun r' v' => r' = r ∧ i_Rel (k + 4) u' v') v v1) u v1 := by
  have J := i_up I
  obtain ⟨fn, fm, fs, fe, fr, W, ds, ho, pa, tD, tH⟩ := u
  obtain ⟨gn, gs, gm, gc, pr, wt, d, h, r⟩ := v
  obtain ⟨N, s, m, rfl, rfl, rfl, rfl, rfl, rfl, rfl, rfl, n2, hN, hs, hm, b1, b2, hg, hf, hok, hz⟩ := I
  rcases xv_cases hN v1 with a1 | ⟨i, hi, rfl⟩
  · exact xe_1 a1 (ye_1 a1 ⟨rfl, J⟩)
  refine xe_6 hN (by omega) hi (yg_gr hg) (fun q tD tH => ?_) (fun q ds ho pa tD tH hf' => ?_)
  · exact ye_6 (W := W) hN (by omega) hi hg hz (fun _ => ⟨rfl, xl_mk n2 hN hs hm (by omega) b2 hg hf hok (xl_hi hi hN)⟩) (fun z => absurd z q)
  · exact ye_6 (W := W) hN (by omega) hi hg hz (fun z => absurd q z) (fun _ => ⟨rfl, xl_mk n2 hN hi hm (by omega) b2 hg hf' (dq_qok (yg_gr hg) hN hi q) (xl_hi hi hN)⟩)
theorem i_vc_canSet {k : Nat} {u : SX} {v : SY} (I : i_Rel k u v) (hk : k + 4 ≤ 2051) (v1 : Int32) (v2 : Int32) (v3 : Int32) : wpX_canSet (fun r u' => wpY_canSet (fun r' v' => r' = r ∧ i_Rel (k + 4) u' v') v v1 v2 v3) u v1 v2 v3 := by
  have J := i_up I
  obtain ⟨fn, fm, fs, fe, fr, W, ds, ho, pa, tD, tH⟩ := u
  obtain ⟨gn, gs, gm, gc, pr, wt, d, h, r⟩ := v
  obtain ⟨N, s, m, rfl, rfl, rfl, rfl, rfl, rfl, rfl, rfl, n2, hN, hs, hm, b1, b2, hg, hf, hok, hz⟩ := I
  rcases xv_cases hN v1 with a1 | ⟨i, hi, rfl⟩
  · exact xg_1 a1 (yf_1 a1 ⟨rfl, J⟩)
  rcases xv_cases hN v2 with a2 | ⟨j, hj, rfl⟩
  · exact xg_2 hN hi a2 (yf_2 hN hi a2 ⟨rfl, J⟩)
  rcases xw_cases v3 with a3 | ⟨w1, w2, w3, w4, w5, w6⟩
  · exact xg_3 hN hi hj a3 (yf_3 hN hi hj a3 ⟨rfl, J⟩)
  have hq := xn_k hN hi hj
  have hg' := xl_set (q := 32 * i + j) hg w4 w5 w6
  have fin : (¬ W (32 * i + j) = 2147483647 ∨ fe < nI m) → (pr (32 * i + j) = 1 ∨ (pr (32 * i + j) = 0 ∧ fe < nI m)) → wpX_canSet (fun ans u' => wpY_canSet (fun r' v' => r' = ans ∧ i_Rel (k + 4) u' v') (nI N, nI s, nI m, fe, pr, wt, d, h, r) (nI i) (nI j) v3) (nI N, nI m, nI s, fe, rq_cnt (dq_seq W N s (1024 * N)).1 N, W, ds, ho, pa, tD, tH) (nI i) (nI j) v3 := fun c1 c2 =>
    xg_6 hN (by omega) hs hi hj w1 w2 c1 (yg_gr hg') fun tD tH =>
      yf_6 (W := W) hN (by omega) hs hi hj w1 w3 c2 hg' hz ⟨rfl, xl_mk n2 hN hs hm (by omega) b2 hg hf hok (xl_hi hs hN)⟩
  rcases hg (32 * i + j) hq with ⟨p0, e0⟩ | ⟨p1, e1, _, _, _⟩
  · by_cases f : fe < nI m
    · exact fin (Or.inr f) (Or.inr ⟨p0, f⟩)
    · exact xg_5 hN hi hj w1 w2 e0 f (yf_5 hN hi hj w1 w3 p0 f ⟨rfl, J⟩)
  · exact fin (Or.inl e1) (Or.inl p1)
theorem i_vc_getDist {k : Nat} {u : SX} {v : SY} (I : i_Rel k u v) (hk : k + 4 ≤ 2051) (v1 : Int32) : wpX_getDist (fun r => wpY_getDist (fun r' v' => r' = r ∧ i_Rel (k + 4) u v') v v1) u v1 := by
  have J := i_up I
  obtain ⟨fn, fm, fs, fe, fr, W, ds, ho, pa, tD, tH⟩ := u
  obtain ⟨gn, gs, gm, gc, pr, wt, d, h, r⟩ := v
  obtain ⟨N, s, m, rfl, rfl, rfl, rfl, rfl, rfl, rfl, rfl, n2, hN, hs, hm, b1, b2, hg, hf, hok, hz⟩ := I
  rcases xv_cases hN v1 with a1 | ⟨i, hi, rfl⟩
  · exact xh_b a1 (yh_b a1 ⟨rfl, J⟩)
  have R := xl_mk (k := k + 4) (tD := tD) (tH := tH) n2 hN hs hm (by omega) b2 hg hf hok (xl_hi (W := W) hs hN)
  refine xh_o hN hi (yh_o (W := W) hN (by omega) hs hi hg hz (fun z => ⟨?_, R⟩) (fun z => ⟨?_, R⟩))
  · rcases hf.1 i hi with ⟨_, e, _⟩ | ⟨e, _, _⟩
    · exact e.symm
    · rw [e] at z
      exact absurd z yn_10
  · rcases hf.1 i hi with ⟨e, _, _⟩ | ⟨_, e, _⟩
    · exact absurd e z
    · exact e.symm
theorem i_vc_isReachable {k : Nat} {u : SX} {v : SY} (I : i_Rel k u v) (hk : k + 4 ≤ 2051) (v1 : Int32) : wpX_isReachable (fun r => wpY_isReachable (fun r' v' => r' = r ∧ i_Rel (k + 4) u v') v v1) u v1 := by
  have J := i_up I
  obtain ⟨fn, fm, fs, fe, fr, W, ds, ho, pa, tD, tH⟩ := u
  obtain ⟨gn, gs, gm, gc, pr, wt, d, h, r⟩ := v
  obtain ⟨N, s, m, rfl, rfl, rfl, rfl, rfl, rfl, rfl, rfl, n2, hN, hs, hm, b1, b2, hg, hf, hok, hz⟩ := I
  rcases xv_cases hN v1 with a1 | ⟨i, hi, rfl⟩
  · exact xi_b a1 (yi_b a1 ⟨rfl, J⟩)
  have R := xl_mk (k := k + 4) (tD := tD) (tH := tH) n2 hN hs hm (by omega) b2 hg hf hok (xl_hi (W := W) hs hN)
  have bd := dq_bdT (N := N) (s := s) (yg_gr hg) (1024 * N) (by omega)
  rcases hf.1 i hi with ⟨e, e2, _⟩ | ⟨e, e2, _⟩
  · exact xi_o hN hi (fun _ => yi_o (W := W) hN (by omega) hs hi hg hz (Or.inl e) ⟨e, R⟩) (fun z => absurd e2 z)
  · exact xi_o hN hi (fun z => absurd (e2.symm.trans z) (xe_ne (by omega) bd e)) (fun _ => yi_o (W := W) hN (by omega) hs hi hg hz (Or.inr e) ⟨e, R⟩)
theorem i_vc_getHops {k : Nat} {u : SX} {v : SY} (I : i_Rel k u v) (hk : k + 4 ≤ 2051) (v1 : Int32) : wpX_getHops (fun r => wpY_getHops (fun r' v' => r' = r ∧ i_Rel (k + 4) u v') v v1) u v1 := by
  have J := i_up I
  obtain ⟨fn, fm, fs, fe, fr, W, ds, ho, pa, tD, tH⟩ := u
  obtain ⟨gn, gs, gm, gc, pr, wt, d, h, r⟩ := v
  obtain ⟨N, s, m, rfl, rfl, rfl, rfl, rfl, rfl, rfl, rfl, n2, hN, hs, hm, b1, b2, hg, hf, hok, hz⟩ := I
  rcases xv_cases hN v1 with a1 | ⟨i, hi, rfl⟩
  · exact xj_b a1 (yj_b a1 ⟨rfl, J⟩)
  have R := xl_mk (k := k + 4) (tD := tD) (tH := tH) n2 hN hs hm (by omega) b2 hg hf hok (xl_hi (W := W) hs hN)
  refine xj_o hN hi (yj_o (W := W) hN (by omega) hs hi hg hz (fun z => ⟨?_, R⟩) (fun z => ⟨?_, R⟩))
  · rcases hf.1 i hi with ⟨_, _, e⟩ | ⟨e, _, _⟩
    · exact e.symm
    · rw [e] at z
      exact absurd z yn_10
  · rcases hf.1 i hi with ⟨e, _, _⟩ | ⟨_, _, e⟩
    · exact absurd e z
    · exact e.symm
theorem i_vc_getParent {k : Nat} {u : SX} {v : SY} (I : i_Rel k u v) (hk : k + 4 ≤ 2051) (v1 : Int32) : wpX_getParent (fun r => wpY_getParent (fun r' v' => r' = r ∧ i_Rel (k + 4) u v') v v1) u v1 := by
  have J := i_up I
  obtain ⟨fn, fm, fs, fe, fr, W, ds, ho, pa, tD, tH⟩ := u
  obtain ⟨gn, gs, gm, gc, pr, wt, d, h, r⟩ := v
  obtain ⟨N, s, m, rfl, rfl, rfl, rfl, rfl, rfl, rfl, rfl, n2, hN, hs, hm, b1, b2, hg, hf, hok, hz⟩ := I
  rcases xv_cases hN v1 with a1 | ⟨i, hi, rfl⟩
  · exact xm_b a1 (yk_b a1 ⟨rfl, J⟩)
  have R := xl_mk (k := k + 4) (tD := tD) (tH := tH) n2 hN hs hm (by omega) b2 hg hf hok (xl_hi (W := W) hs hN)
  exact xm_o hN hi (yk_o (W := W) hN (by omega) hs hi hg hz ⟨(hf.2 i hi).symm, R⟩)
theorem i_vc_getWeight {k : Nat} {u : SX} {v : SY} (I : i_Rel k u v) (hk : k + 4 ≤ 2051) (v1 : Int32) (v2 : Int32) : wpX_getWeight (fun r => wpY_getWeight (fun r' => r' = r ∧ i_Rel (k + 4) u v) v v1 v2) u v1 v2 := by
  have J := i_up I
  obtain ⟨fn, fm, fs, fe, fr, W, ds, ho, pa, tD, tH⟩ := u
  obtain ⟨gn, gs, gm, gc, pr, wt, d, h, r⟩ := v
  obtain ⟨N, s, m, rfl, rfl, rfl, rfl, rfl, rfl, rfl, rfl, n2, hN, hs, hm, b1, b2, hg, hf, hok, hz⟩ := I
  rcases xv_cases hN v1 with a1 | ⟨i, hi, rfl⟩
  · exact xo_1 a1 (yl_1 a1 ⟨rfl, J⟩)
  rcases xv_cases hN v2 with a2 | ⟨j, hj, rfl⟩
  · exact xo_2 hN hi a2 (yl_2 hN hi a2 ⟨rfl, J⟩)
  refine xo_o hN hi hj ?_
  rcases hg (32 * i + j) (xn_k hN hi hj) with ⟨p0, e0⟩ | ⟨p1, _, ew, _, _⟩
  · exact yl_o hN hi hj (fun _ => ⟨e0.symm, J⟩) (fun z => absurd p0 z)
  · exact yl_o hN hi hj (fun z => absurd (p1.symm.trans z) yn_10) (fun _ => ⟨ew, J⟩)
theorem i_vc_hasEdge {k : Nat} {u : SX} {v : SY} (I : i_Rel k u v) (hk : k + 4 ≤ 2051) (v1 : Int32) (v2 : Int32) : wpX_hasEdge (fun r => wpY_hasEdge (fun r' => r' = r ∧ i_Rel (k + 4) u v) v v1 v2) u v1 v2 := by
  have J := i_up I
  obtain ⟨fn, fm, fs, fe, fr, W, ds, ho, pa, tD, tH⟩ := u
  obtain ⟨gn, gs, gm, gc, pr, wt, d, h, r⟩ := v
  obtain ⟨N, s, m, rfl, rfl, rfl, rfl, rfl, rfl, rfl, rfl, n2, hN, hs, hm, b1, b2, hg, hf, hok, hz⟩ := I
  unfold wpX_hasEdge
  rcases xv_cases hN v1 with a1 | ⟨i, hi, rfl⟩
  · exact xo_1 a1 (br_t rfl (ym_1 a1 ⟨rfl, J⟩))
  rcases xv_cases hN v2 with a2 | ⟨j, hj, rfl⟩
  · exact xo_2 hN hi a2 (br_t rfl (ym_2 hN hi a2 ⟨rfl, J⟩))
  refine xo_o hN hi hj ?_
  rcases hg (32 * i + j) (xn_k hN hi hj) with ⟨p0, e0⟩ | ⟨p1, e1, _, _, _⟩
  · exact br_t e0 (ym_o hN hi hj (Or.inl p0) ⟨p0, J⟩)
  · exact br_f e1 (ym_o hN hi hj (Or.inr p1) ⟨p1, J⟩)
theorem i_vc_edgeCount {k : Nat} {u : SX} {v : SY} (I : i_Rel k u v) (hk : k + 4 ≤ 2051) : wpX_edgeCount (fun r => wpY_edgeCount (fun r' => r' = r ∧ i_Rel (k + 4) u v) v) u := by
  have J := i_up I
  obtain ⟨fn, fm, fs, fe, fr, W, ds, ho, pa, tD, tH⟩ := u
  obtain ⟨gn, gs, gm, gc, pr, wt, d, h, r⟩ := v
  obtain ⟨N, s, m, rfl, rfl, rfl, rfl, rfl, rfl, rfl, rfl, n2, hN, hs, hm, b1, b2, hg, hf, hok, hz⟩ := I
  exact ⟨rfl, J⟩
theorem i_vc_reachableCount {k : Nat} {u : SX} {v : SY} (I : i_Rel k u v) (hk : k + 4 ≤ 2051) : wpX_reachableCount (fun r => wpY_reachableCount (fun r' v' => r' = r ∧ i_Rel (k + 4) u v') v) u := by
  have J := i_up I
  obtain ⟨fn, fm, fs, fe, fr, W, ds, ho, pa, tD, tH⟩ := u
  obtain ⟨gn, gs, gm, gc, pr, wt, d, h, r⟩ := v
  obtain ⟨N, s, m, rfl, rfl, rfl, rfl, rfl, rfl, rfl, rfl, n2, hN, hs, hm, b1, b2, hg, hf, hok, hz⟩ := I
  have R := xl_mk (k := k + 4) (tD := tD) (tH := tH) n2 hN hs hm (by omega) b2 hg hf hok (xl_hi (W := W) hs hN)
  unfold wpX_reachableCount
  exact yo_o (W := W) hN (by omega) hs hg hz ⟨rfl, R⟩
theorem i_vc_getSource {k : Nat} {u : SX} {v : SY} (I : i_Rel k u v) (hk : k + 4 ≤ 2051) : wpX_getSource (fun r => wpY_getSource (fun r' => r' = r ∧ i_Rel (k + 4) u v) v) u := by
  have J := i_up I
  obtain ⟨fn, fm, fs, fe, fr, W, ds, ho, pa, tD, tH⟩ := u
  obtain ⟨gn, gs, gm, gc, pr, wt, d, h, r⟩ := v
  obtain ⟨N, s, m, rfl, rfl, rfl, rfl, rfl, rfl, rfl, rfl, n2, hN, hs, hm, b1, b2, hg, hf, hok, hz⟩ := I
  exact ⟨rfl, J⟩
theorem i_vc_vertexCount {k : Nat} {u : SX} {v : SY} (I : i_Rel k u v) (hk : k + 4 ≤ 2051) : wpX_vertexCount (fun r => wpY_vertexCount (fun r' => r' = r ∧ i_Rel (k + 4) u v) v) u := by
  have J := i_up I
  obtain ⟨fn, fm, fs, fe, fr, W, ds, ho, pa, tD, tH⟩ := u
  obtain ⟨gn, gs, gm, gc, pr, wt, d, h, r⟩ := v
  obtain ⟨N, s, m, rfl, rfl, rfl, rfl, rfl, rfl, rfl, rfl, n2, hN, hs, hm, b1, b2, hg, hf, hok, hz⟩ := I
  exact ⟨rfl, J⟩
end
end
